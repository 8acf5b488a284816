theorem d_JStr_coder_0 : decode M_JStr_coder.2.1 0 = .ok (.getstatic 38, 3) := by decide +kernel
theorem d_JStr_coder_3 : decode M_JStr_coder.2.1 3 = .ok (.ifCond .eq 10, 3) := by decide +kernel
theorem d_JStr_coder_6 : decode M_JStr_coder.2.1 6 = .ok (.aload_n 0, 1) := by decide +kernel
theorem d_JStr_coder_7 : decode M_JStr_coder.2.1 7 = .ok (.getfield 15, 3) := by decide +kernel
theorem d_JStr_coder_10 : decode M_JStr_coder.2.1 10 = .ok (.goto 4, 3) := by decide +kernel
theorem d_JStr_coder_13 : decode M_JStr_coder.2.1 13 = .ok (.iconst 1, 1) := by decide +kernel
theorem d_JStr_coder_14 : decode M_JStr_coder.2.1 14 = .ok (.ireturn, 1) := by decide +kernel
def f_JStr_coder (x0 : Nat) (c : cM) (K : Int32 → cM → Prop) : Prop :=
  (((1 : Int32) = 0) → (narrow .byte (.int 1) = .int 1 ∧ (K 1 c))) ∧ (¬ ((1 : Int32) = 0) → (kd x0 = 200 ∧ (narrow .byte (.int 0) = .int 0 ∧ (K 0 c))))
theorem c_JStr_coder {x0 : Nat} {c : cM} {K : Int32 → cM → Prop} (h : f_JStr_coder x0 c K) : Ct M_JStr_coder 0 0 0 (wd c) [.ref x0] (PoI K) := by
  refine Ct.of (by decide +kernel) (Nat.le_of_ble_eq_true rfl) (fun Z T => ?_)
  have F := T.F
  unfold f_JStr_coder at h
  show Z (wd c) 0 [(0, .ref x0)] [] 0 0
  refine go_stI F (pc := 0) d_JStr_coder_0 gs_JStr_38 ?_
  refine g_if_eq (tgt := 13) F (pc := 3) d_JStr_coder_3 (by decide) (fun b1 => ?_) (fun b1 => ?_)
  · replace h := h.1 b1
    refine g_iconst (v := 1) F (pc := 13) d_JStr_coder_13 (by decide) ?_
    obtain ⟨o2, h⟩ := h
    exact g_zret T (pc := 14) d_JStr_coder_14 rfl o2 (Nat.le_refl _) (Nat.le_refl _) (poI h)
  · replace h := h.2 b1
    refine g_aload_n F (pc := 6) d_JStr_coder_6 0 rfl ?_
    obtain ⟨o3, h⟩ := h
    refine go_strC F (pc := 7) d_JStr_coder_7 sf_JStr_15 o3 (g_goto (tgt := 14) F (pc := 10) d_JStr_coder_10 (by decide) ?_)
    obtain ⟨o4, h⟩ := h
    exact g_zret T (pc := 14) d_JStr_coder_14 rfl o4 (Nat.le_refl _) (Nat.le_refl _) (poI h)
theorem d_JStr_isLatin1_0 : decode M_JStr_isLatin1.2.1 0 = .ok (.getstatic 38, 3) := by decide +kernel
theorem d_JStr_isLatin1_3 : decode M_JStr_isLatin1.2.1 3 = .ok (.ifCond .eq 14, 3) := by decide +kernel
theorem d_JStr_isLatin1_6 : decode M_JStr_isLatin1.2.1 6 = .ok (.aload_n 0, 1) := by decide +kernel
theorem d_JStr_isLatin1_7 : decode M_JStr_isLatin1.2.1 7 = .ok (.getfield 15, 3) := by decide +kernel
theorem d_JStr_isLatin1_10 : decode M_JStr_isLatin1.2.1 10 = .ok (.ifCond .ne 7, 3) := by decide +kernel
theorem d_JStr_isLatin1_13 : decode M_JStr_isLatin1.2.1 13 = .ok (.iconst 1, 1) := by decide +kernel
theorem d_JStr_isLatin1_14 : decode M_JStr_isLatin1.2.1 14 = .ok (.goto 4, 3) := by decide +kernel
theorem d_JStr_isLatin1_17 : decode M_JStr_isLatin1.2.1 17 = .ok (.iconst 0, 1) := by decide +kernel
theorem d_JStr_isLatin1_18 : decode M_JStr_isLatin1.2.1 18 = .ok (.ireturn, 1) := by decide +kernel
def f_JStr_isLatin1 (x0 : Nat) (c : cM) (K : Int32 → cM → Prop) : Prop :=
  (((1 : Int32) = 0) → (K 0 c)) ∧ (¬ ((1 : Int32) = 0) → (kd x0 = 200 ∧ (((¬ (0 : Int32) = 0) → (K 0 c)) ∧ ((0 : Int32) = 0 → (K 1 c)))))
theorem c_JStr_isLatin1 {x0 : Nat} {c : cM} {K : Int32 → cM → Prop} (h : f_JStr_isLatin1 x0 c K) : Ct M_JStr_isLatin1 0 0 0 (wd c) [.ref x0] (PoI K) := by
  refine Ct.of (by decide +kernel) (Nat.le_of_ble_eq_true rfl) (fun Z T => ?_)
  have F := T.F
  unfold f_JStr_isLatin1 at h
  show Z (wd c) 0 [(0, .ref x0)] [] 0 0
  refine go_stI F (pc := 0) d_JStr_isLatin1_0 gs_JStr_38 ?_
  refine g_if_eq (tgt := 17) F (pc := 3) d_JStr_isLatin1_3 (by decide) (fun b1 => ?_) (fun b1 => ?_)
  · replace h := h.1 b1
    refine g_iconst (v := 0) F (pc := 17) d_JStr_isLatin1_17 (by decide) ?_
    exact g_zret T (pc := 18) d_JStr_isLatin1_18 rfl (by decide) (Nat.le_refl _) (Nat.le_refl _) (poI h)
  · replace h := h.2 b1
    refine g_aload_n F (pc := 6) d_JStr_isLatin1_6 0 rfl ?_
    obtain ⟨o2, h⟩ := h
    refine go_strC F (pc := 7) d_JStr_isLatin1_7 sf_JStr_15 o2 ?_
    refine g_if_ne (tgt := 17) F (pc := 10) d_JStr_isLatin1_10 (by decide) (fun b3 => ?_) (fun b3 => ?_)
    · replace h := h.1 b3
      refine g_iconst (v := 0) F (pc := 17) d_JStr_isLatin1_17 (by decide) ?_
      exact g_zret T (pc := 18) d_JStr_isLatin1_18 rfl (by decide) (Nat.le_refl _) (Nat.le_refl _) (poI h)
    · replace h := h.2 b3
      refine g_iconst (v := 1) F (pc := 13) d_JStr_isLatin1_13 (by decide) (g_goto (tgt := 18) F (pc := 14) d_JStr_isLatin1_14 (by decide) ?_)
      exact g_zret T (pc := 18) d_JStr_isLatin1_18 rfl (by decide) (Nat.le_refl _) (Nat.le_refl _) (poI h)
theorem d_JStr_length_0 : decode M_JStr_length.2.1 0 = .ok (.aload_n 0, 1) := by decide +kernel
theorem d_JStr_length_1 : decode M_JStr_length.2.1 1 = .ok (.getfield 9, 3) := by decide +kernel
theorem d_JStr_length_4 : decode M_JStr_length.2.1 4 = .ok (.arraylength, 1) := by decide +kernel
theorem d_JStr_length_5 : decode M_JStr_length.2.1 5 = .ok (.aload_n 0, 1) := by decide +kernel
theorem d_JStr_length_6 : decode M_JStr_length.2.1 6 = .ok (.invokevirtual 335, 3) := by decide +kernel
theorem d_JStr_length_9 : decode M_JStr_length.2.1 9 = .ok (.ishr, 1) := by decide +kernel
theorem d_JStr_length_10 : decode M_JStr_length.2.1 10 = .ok (.ireturn, 1) := by decide +kernel
def f_JStr_length (x0 : Nat) (c : cM) (K : Int32 → cM → Prop) : Prop :=
  kd x0 = 200 ∧ (kd (rf x0 0) = 201 ∧ (f_JStr_coder x0 c (fun v4 c3 => K (c_shr (nI (ln (rf x0 0))) v4) c3)))
theorem c_JStr_length {x0 : Nat} {c : cM} {K : Int32 → cM → Prop} (h : f_JStr_length x0 c K) : Ct M_JStr_length 1 0 0 (wd c) [.ref x0] (PoI K) := by
  refine Ct.of (by decide +kernel) (Nat.le_of_ble_eq_true rfl) (fun Z T => ?_)
  have F := T.F
  unfold f_JStr_length at h
  show Z (wd c) 0 [(0, .ref x0)] [] 0 0
  refine g_aload_n F (pc := 0) d_JStr_length_0 0 rfl ?_
  obtain ⟨o1, h⟩ := h
  refine go_strV F (pc := 1) d_JStr_length_1 sf_JStr_9 o1 ?_
  obtain ⟨o2, h⟩ := h
  refine go_alen F (pc := 4) d_JStr_length_4 o2 (g_aload_n F (pc := 5) d_JStr_length_5 0 rfl ?_)
  refine go_callVI (As := []) (st := [.int (nI (ln (rf x0 0)))]) F (pc := 6) d_JStr_length_6 cb_JStr_335 iv_JStr_coder np_JStr_coder o1 rfl (c_JStr_coder h) rfl (by decide) (Nat.le_refl _) (Nat.le_refl _) (Nat.le_of_ble_eq_true rfl) (fun v4 c3 h => ?_)
  refine g_ishr F (pc := 9) d_JStr_length_9 ?_
  exact g_iret T (pc := 10) d_JStr_length_10 rfl (Nat.le_refl _) (Nat.le_refl _) (poI h)
theorem d_JLat_charAt_0 : decode M_JLat_charAt.2.1 0 = .ok (.iload_n 1, 1) := by decide +kernel
theorem d_JLat_charAt_1 : decode M_JLat_charAt.2.1 1 = .ok (.aload_n 0, 1) := by decide +kernel
theorem d_JLat_charAt_2 : decode M_JLat_charAt.2.1 2 = .ok (.arraylength, 1) := by decide +kernel
theorem d_JLat_charAt_3 : decode M_JLat_charAt.2.1 3 = .ok (.invokestatic 9, 3) := by decide +kernel
theorem d_JLat_charAt_6 : decode M_JLat_charAt.2.1 6 = .ok (.aload_n 0, 1) := by decide +kernel
theorem d_JLat_charAt_7 : decode M_JLat_charAt.2.1 7 = .ok (.iload_n 1, 1) := by decide +kernel
theorem d_JLat_charAt_8 : decode M_JLat_charAt.2.1 8 = .ok (.baload, 1) := by decide +kernel
theorem d_JLat_charAt_9 : decode M_JLat_charAt.2.1 9 = .ok (.sipush 255, 3) := by decide +kernel
theorem d_JLat_charAt_12 : decode M_JLat_charAt.2.1 12 = .ok (.iand, 1) := by decide +kernel
theorem d_JLat_charAt_13 : decode M_JLat_charAt.2.1 13 = .ok (.i2c, 1) := by decide +kernel
theorem d_JLat_charAt_14 : decode M_JLat_charAt.2.1 14 = .ok (.ireturn, 1) := by decide +kernel
def f_JLat_charAt (x0 : Nat) (x1 : Int32) (c : cM) (K : Int32 → cM → Prop) : Prop :=
  kd x0 = 201 ∧ (f_JStr_checkIndex x1 (nI (ln x0)) c (fun c2 => vp_in x1 (ln x0) ∧ (narrow .char (.int (c_i2c ((oc x0 (Int32.toNatClampNeg x1)) &&& 255))) = .int (c_i2c ((oc x0 (Int32.toNatClampNeg x1)) &&& 255)) ∧ (K (c_i2c ((oc x0 (Int32.toNatClampNeg x1)) &&& 255)) c2))))
theorem c_JLat_charAt {x0 : Nat} {x1 : Int32} {c : cM} {K : Int32 → cM → Prop} (h : f_JLat_charAt x0 x1 c K) : Ct M_JLat_charAt 2 0 0 (wd c) [.ref x0, .int x1] (PoI K) := by
  refine Ct.of (by decide +kernel) (Nat.le_of_ble_eq_true rfl) (fun Z T => ?_)
  have F := T.F
  unfold f_JLat_charAt at h
  show Z (wd c) 0 [(0, .ref x0), (1, .int x1)] [] 0 0
  refine g_iload_n F (pc := 0) d_JLat_charAt_0 1 rfl (g_aload_n F (pc := 1) d_JLat_charAt_1 0 rfl ?_)
  obtain ⟨o1, h⟩ := h
  refine go_alen F (pc := 2) d_JLat_charAt_2 o1 ?_
  refine gc_callSV (As := [.int x1, .int (nI (ln x0))]) (st := []) F (pc := 3) d_JLat_charAt_3 cb_JLat_9 iv_JStr_checkIndex np_JStr_checkIndex (c_JStr_checkIndex h) rfl (by decide) (Nat.le_refl _) (Nat.le_refl _) (Nat.le_of_ble_eq_true rfl) (fun c2 h => ?_)
  refine g_aload_n F (pc := 6) d_JLat_charAt_6 0 rfl (g_iload_n F (pc := 7) d_JLat_charAt_7 1 rfl ?_)
  obtain ⟨o3, h⟩ := h
  refine go_bald F (pc := 8) d_JLat_charAt_8 o1 o3 (g_sipush (v := 255) F (pc := 9) d_JLat_charAt_9 (by decide) (g_iand F (pc := 12) d_JLat_charAt_12 (g_i2c F (pc := 13) d_JLat_charAt_13 ?_)))
  obtain ⟨o4, h⟩ := h
  exact g_zret T (pc := 14) d_JLat_charAt_14 rfl o4 (Nat.le_refl _) (Nat.le_refl _) (poI h)
theorem d_JArr_fill_0 : decode M_JArr_fill.2.1 0 = .ok (.iconst 0, 1) := by decide +kernel
theorem d_JArr_fill_1 : decode M_JArr_fill.2.1 1 = .ok (.istore_n 2, 1) := by decide +kernel
theorem d_JArr_fill_2 : decode M_JArr_fill.2.1 2 = .ok (.aload_n 0, 1) := by decide +kernel
theorem d_JArr_fill_3 : decode M_JArr_fill.2.1 3 = .ok (.arraylength, 1) := by decide +kernel
theorem d_JArr_fill_4 : decode M_JArr_fill.2.1 4 = .ok (.istore_n 3, 1) := by decide +kernel
theorem d_JArr_fill_5 : decode M_JArr_fill.2.1 5 = .ok (.iload_n 2, 1) := by decide +kernel
theorem d_JArr_fill_6 : decode M_JArr_fill.2.1 6 = .ok (.iload_n 3, 1) := by decide +kernel
theorem d_JArr_fill_7 : decode M_JArr_fill.2.1 7 = .ok (.if_icmp .ge 13, 3) := by decide +kernel
theorem d_JArr_fill_10 : decode M_JArr_fill.2.1 10 = .ok (.aload_n 0, 1) := by decide +kernel
theorem d_JArr_fill_11 : decode M_JArr_fill.2.1 11 = .ok (.iload_n 2, 1) := by decide +kernel
theorem d_JArr_fill_12 : decode M_JArr_fill.2.1 12 = .ok (.iload_n 1, 1) := by decide +kernel
theorem d_JArr_fill_13 : decode M_JArr_fill.2.1 13 = .ok (.iastore, 1) := by decide +kernel
theorem d_JArr_fill_14 : decode M_JArr_fill.2.1 14 = .ok (.iinc 2 1, 3) := by decide +kernel
theorem d_JArr_fill_17 : decode M_JArr_fill.2.1 17 = .ok (.goto (-12), 3) := by decide +kernel
theorem d_JArr_fill_20 : decode M_JArr_fill.2.1 20 = .ok (.return_, 1) := by decide +kernel
def f_JArr_fill (x0 : Nat) (x1 : Int32) (c : cM) (K : cM → Prop) : Prop :=
  kd x0 = 100 ∧ (∃ I2 : Nat → Int32 → cM → Prop, (∃ n, I2 n 0 c) ∧ ∀ (n3 : Nat) (y6 : Int32) (c7 : cM), I2 n3 y6 c7 → ((((nI (ln x0)) ≤ y6) → (K c7)) ∧ (¬ ((nI (ln x0)) ≤ y6) → (vp_in y6 (ln x0) ∧ (∀ c10 : cM, c10 = c_up c7 x0 (Int32.toNatClampNeg y6) x1 → (∃ m, m < n3 ∧ I2 m (y6 + 1) c10))))))
theorem c_JArr_fill {x0 : Nat} {x1 : Int32} {c : cM} {K : cM → Prop} (h : f_JArr_fill x0 x1 c K) : Ct M_JArr_fill 0 0 0 (wd c) [.ref x0, .int x1] (PoV K) := by
  refine Ct.of (by decide +kernel) (Nat.le_of_ble_eq_true rfl) (fun Z T => ?_)
  have F := T.F
  unfold f_JArr_fill at h
  show Z (wd c) 0 [(0, .ref x0), (1, .int x1)] [] 0 0
  refine g_iconst (v := 0) F (pc := 0) d_JArr_fill_0 (by decide) (g_istore_n (lv' := [(2, .int 0), (0, .ref x0), (1, .int x1)]) F (pc := 1) d_JArr_fill_1 (by decide) rfl (g_aload_n F (pc := 2) d_JArr_fill_2 1 rfl ?_))
  obtain ⟨o1, h⟩ := h
  refine gc_alen0 F (pc := 3) d_JArr_fill_3 o1 (g_istore_n (lv' := [(3, .int (nI (ln x0))), (2, .int 0), (0, .ref x0), (1, .int x1)]) F (pc := 4) d_JArr_fill_4 (by decide) rfl ?_)
  refine g_lv (lv' := [(0, .ref x0), (1, .int x1), (2, .int 0), (3, .int (nI (ln x0)))]) F [2, 3, 1, 0] rfl ?_
  obtain ⟨I2, ⟨n0, h⟩, hI2⟩ := h
  have lp5 : ∀ (n3 : Nat) (y6 : Int32) (c7 : cM), I2 n3 y6 c7 → Z (wd c7) 5 [(0, .ref x0), (1, .int x1), (2, .int y6), (3, .int (nI (ln x0)))] [] 0 0 := by
    intro n3
    induction n3 using Nat.strongRecOn with
    | _ n3 ih4 =>
      intro y6 c7 h
      replace h := hI2 n3 y6 c7 h
      refine g_iload_n F (pc := 5) d_JArr_fill_5 2 rfl (g_iload_n F (pc := 6) d_JArr_fill_6 3 rfl ?_)
      refine g_icmp_ge (tgt := 20) F (pc := 7) d_JArr_fill_7 (by decide) (fun b8 => ?_) (fun b8 => ?_)
      · replace h := h.1 b8
        exact g_vret T (pc := 20) d_JArr_fill_20 rfl (Nat.le_refl _) (Nat.le_refl _) (poV h)
      · replace h := h.2 b8
        refine g_aload_n F (pc := 10) d_JArr_fill_10 0 rfl (g_iload_n F (pc := 11) d_JArr_fill_11 2 rfl (g_iload_n F (pc := 12) d_JArr_fill_12 1 rfl ?_))
        obtain ⟨o9, h⟩ := h
        refine gc_iast F (pc := 13) d_JArr_fill_13 o1 o9 ?_
        obtain ⟨c10, ec10⟩ : ∃ c10 : cM, c10 = c_up c7 x0 (Int32.toNatClampNeg y6) x1 := ⟨_, rfl⟩
        rw [← ec10]
        replace h := h c10 ec10
        refine g_iinc (v := (y6 + 1)) (lv' := [(2, .int (y6 + 1)), (0, .ref x0), (1, .int x1), (3, .int (nI (ln x0)))]) F (pc := 14) d_JArr_fill_14 2 rfl (sk_inc (by decide)) (by decide) rfl (g_goto (tgt := 5) F (pc := 17) d_JArr_fill_17 (by decide) ?_)
        refine g_lv (lv' := [(0, .ref x0), (1, .int x1), (2, .int (y6 + 1)), (3, .int (nI (ln x0)))]) F [1, 2, 0, 3] rfl ?_
        obtain ⟨m, hm, h⟩ := h
        exact ih4 m hm _ _ h
  exact lp5 n0 _ _ h
theorem d_JStr_charAt_0 : decode M_JStr_charAt.2.1 0 = .ok (.aload_n 0, 1) := by decide +kernel
theorem d_JStr_charAt_1 : decode M_JStr_charAt.2.1 1 = .ok (.invokevirtual 492, 3) := by decide +kernel
theorem d_JStr_charAt_4 : decode M_JStr_charAt.2.1 4 = .ok (.ifCond .eq 12, 3) := by decide +kernel
theorem d_JStr_charAt_7 : decode M_JStr_charAt.2.1 7 = .ok (.aload_n 0, 1) := by decide +kernel
theorem d_JStr_charAt_8 : decode M_JStr_charAt.2.1 8 = .ok (.getfield 9, 3) := by decide +kernel
theorem d_JStr_charAt_11 : decode M_JStr_charAt.2.1 11 = .ok (.iload_n 1, 1) := by decide +kernel
theorem d_JStr_charAt_12 : decode M_JStr_charAt.2.1 12 = .ok (.invokestatic 495, 3) := by decide +kernel
theorem d_JStr_charAt_15 : decode M_JStr_charAt.2.1 15 = .ok (.ireturn, 1) := by decide +kernel
theorem d_JStr_charAt_16 : decode M_JStr_charAt.2.1 16 = .ok (.aload_n 0, 1) := by decide +kernel
theorem d_JStr_charAt_17 : decode M_JStr_charAt.2.1 17 = .ok (.getfield 9, 3) := by decide +kernel
theorem d_JStr_charAt_20 : decode M_JStr_charAt.2.1 20 = .ok (.iload_n 1, 1) := by decide +kernel
theorem d_JStr_charAt_21 : decode M_JStr_charAt.2.1 21 = .ok (.invokestatic 498, 3) := by decide +kernel
theorem d_JStr_charAt_24 : decode M_JStr_charAt.2.1 24 = .ok (.ireturn, 1) := by decide +kernel
def f_JStr_charAt (x0 : Nat) (x1 : Int32) (c : cM) (K : Int32 → cM → Prop) : Prop :=
  kd x0 = 200 ∧ (f_JStr_isLatin1 x0 c (fun v3 c2 => ((v3 = 0) → (False)) ∧ (¬ (v3 = 0) → (f_JLat_charAt (rf x0 0) x1 c2 (fun v6 c5 => narrow .char (.int v6) = .int v6 ∧ (K v6 c5))))))
theorem c_JStr_charAt {x0 : Nat} {x1 : Int32} {c : cM} {K : Int32 → cM → Prop} (h : f_JStr_charAt x0 x1 c K) : Ct M_JStr_charAt 3 0 0 (wd c) [.ref x0, .int x1] (PoI K) := by
  refine Ct.of (by decide +kernel) (Nat.le_of_ble_eq_true rfl) (fun Z T => ?_)
  have F := T.F
  unfold f_JStr_charAt at h
  show Z (wd c) 0 [(0, .ref x0), (1, .int x1)] [] 0 0
  refine g_aload_n F (pc := 0) d_JStr_charAt_0 0 rfl ?_
  obtain ⟨o1, h⟩ := h
  refine go_callVI (As := []) (st := []) F (pc := 1) d_JStr_charAt_1 cb_JStr_492 iv_JStr_isLatin1 np_JStr_isLatin1 o1 rfl (c_JStr_isLatin1 h) rfl (by decide) (Nat.le_refl _) (Nat.le_refl _) (Nat.le_of_ble_eq_true rfl) (fun v3 c2 h => ?_)
  refine g_if_eq (tgt := 16) F (pc := 4) d_JStr_charAt_4 (by decide) (fun b4 => ?_) (fun b4 => ?_)
  · replace h := h.1 b4
    refine g_aload_n F (pc := 16) d_JStr_charAt_16 0 rfl (go_strV F (pc := 17) d_JStr_charAt_17 sf_JStr_9 o1 (g_iload_n F (pc := 20) d_JStr_charAt_20 1 rfl ?_))
    exact h.elim
  · replace h := h.2 b4
    refine g_aload_n F (pc := 7) d_JStr_charAt_7 0 rfl (go_strV F (pc := 8) d_JStr_charAt_8 sf_JStr_9 o1 (g_iload_n F (pc := 11) d_JStr_charAt_11 1 rfl ?_))
    refine gc_callSI (As := [.ref (rf x0 0), .int x1]) (st := []) F (pc := 12) d_JStr_charAt_12 cb_JStr_495 iv_JLat_charAt np_JLat_charAt (c_JLat_charAt h) rfl (by decide) (Nat.le_refl _) (Nat.le_refl _) (Nat.le_of_ble_eq_true rfl) (fun v6 c5 h => ?_)
    obtain ⟨o7, h⟩ := h
    exact g_zret T (pc := 15) d_JStr_charAt_15 rfl o7 (Nat.le_refl _) (Nat.le_refl _) (poI h)
