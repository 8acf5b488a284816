theorem d_Diff_alike_0 : decode M_Diff_alike.2.1 0 = .ok (.iconst 0, 1) := by decide +kernel
theorem d_Diff_alike_1 : decode M_Diff_alike.2.1 1 = .ok (.istore 4, 2) := by decide +kernel
theorem d_Diff_alike_3 : decode M_Diff_alike.2.1 3 = .ok (.iload_n 1, 1) := by decide +kernel
theorem d_Diff_alike_4 : decode M_Diff_alike.2.1 4 = .ok (.iload 4, 2) := by decide +kernel
theorem d_Diff_alike_6 : decode M_Diff_alike.2.1 6 = .ok (.iadd, 1) := by decide +kernel
theorem d_Diff_alike_7 : decode M_Diff_alike.2.1 7 = .ok (.aload_n 0, 1) := by decide +kernel
theorem d_Diff_alike_8 : decode M_Diff_alike.2.1 8 = .ok (.getfield 14, 3) := by decide +kernel
theorem d_Diff_alike_11 : decode M_Diff_alike.2.1 11 = .ok (.if_icmp .ge 41, 3) := by decide +kernel
theorem d_Diff_alike_14 : decode M_Diff_alike.2.1 14 = .ok (.iload_n 3, 1) := by decide +kernel
theorem d_Diff_alike_15 : decode M_Diff_alike.2.1 15 = .ok (.iload 4, 2) := by decide +kernel
theorem d_Diff_alike_17 : decode M_Diff_alike.2.1 17 = .ok (.iadd, 1) := by decide +kernel
theorem d_Diff_alike_18 : decode M_Diff_alike.2.1 18 = .ok (.aload_n 2, 1) := by decide +kernel
theorem d_Diff_alike_19 : decode M_Diff_alike.2.1 19 = .ok (.getfield 14, 3) := by decide +kernel
theorem d_Diff_alike_22 : decode M_Diff_alike.2.1 22 = .ok (.if_icmp .ge 30, 3) := by decide +kernel
theorem d_Diff_alike_25 : decode M_Diff_alike.2.1 25 = .ok (.aload_n 0, 1) := by decide +kernel
theorem d_Diff_alike_26 : decode M_Diff_alike.2.1 26 = .ok (.getfield 40, 3) := by decide +kernel
theorem d_Diff_alike_29 : decode M_Diff_alike.2.1 29 = .ok (.iload_n 1, 1) := by decide +kernel
theorem d_Diff_alike_30 : decode M_Diff_alike.2.1 30 = .ok (.iload 4, 2) := by decide +kernel
theorem d_Diff_alike_32 : decode M_Diff_alike.2.1 32 = .ok (.iadd, 1) := by decide +kernel
theorem d_Diff_alike_33 : decode M_Diff_alike.2.1 33 = .ok (.iaload, 1) := by decide +kernel
theorem d_Diff_alike_34 : decode M_Diff_alike.2.1 34 = .ok (.aload_n 2, 1) := by decide +kernel
theorem d_Diff_alike_35 : decode M_Diff_alike.2.1 35 = .ok (.getfield 40, 3) := by decide +kernel
theorem d_Diff_alike_38 : decode M_Diff_alike.2.1 38 = .ok (.iload_n 3, 1) := by decide +kernel
theorem d_Diff_alike_39 : decode M_Diff_alike.2.1 39 = .ok (.iload 4, 2) := by decide +kernel
theorem d_Diff_alike_41 : decode M_Diff_alike.2.1 41 = .ok (.iadd, 1) := by decide +kernel
theorem d_Diff_alike_42 : decode M_Diff_alike.2.1 42 = .ok (.iaload, 1) := by decide +kernel
theorem d_Diff_alike_43 : decode M_Diff_alike.2.1 43 = .ok (.if_icmp .ne 9, 3) := by decide +kernel
theorem d_Diff_alike_46 : decode M_Diff_alike.2.1 46 = .ok (.iinc 4 1, 3) := by decide +kernel
theorem d_Diff_alike_49 : decode M_Diff_alike.2.1 49 = .ok (.goto (-46), 3) := by decide +kernel
theorem d_Diff_alike_52 : decode M_Diff_alike.2.1 52 = .ok (.iload 4, 2) := by decide +kernel
theorem d_Diff_alike_54 : decode M_Diff_alike.2.1 54 = .ok (.ireturn, 1) := by decide +kernel
def f_Diff_alike (x0 : Nat) (x1 : Int32) (x2 : Nat) (x3 : Int32) (c : cM) (K : Int32 → cM → Prop) : Prop :=
  ∃ I1 : Nat → Int32 → Prop, (∃ n, I1 n 0) ∧ ∀ (n2 : Nat) (y5 : Int32), I1 n2 y5 → (kd x0 = 1 ∧ ((((c x0 1) ≤ (x1 + y5)) → (K y5 c)) ∧ (¬ ((c x0 1) ≤ (x1 + y5)) → (kd x2 = 1 ∧ ((((c x2 1) ≤ (x3 + y5)) → (K y5 c)) ∧ (¬ ((c x2 1) ≤ (x3 + y5)) → (kd (rf x0 0) = 100 ∧ (vp_in (x1 + y5) (ln (rf x0 0)) ∧ (kd (rf x2 0) = 100 ∧ (vp_in (x3 + y5) (ln (rf x2 0)) ∧ (((¬ (c (rf x0 0) (Int32.toNatClampNeg (x1 + y5))) = (c (rf x2 0) (Int32.toNatClampNeg (x3 + y5)))) → (K y5 c)) ∧ ((c (rf x0 0) (Int32.toNatClampNeg (x1 + y5))) = (c (rf x2 0) (Int32.toNatClampNeg (x3 + y5))) → (∃ m, m < n2 ∧ I1 m (y5 + 1))))))))))))))
theorem c_Diff_alike {x0 : Nat} {x1 : Int32} {x2 : Nat} {x3 : Int32} {c : cM} {K : Int32 → cM → Prop} (h : f_Diff_alike x0 x1 x2 x3 c K) : Ct M_Diff_alike 0 0 0 (wd c) [.ref x0, .int x1, .ref x2, .int x3] (PoI K) := by
  refine Ct.of (by decide +kernel) (Nat.le_of_ble_eq_true rfl) (fun Z T => ?_)
  have F := T.F
  unfold f_Diff_alike at h
  show Z (wd c) 0 [(0, .ref x0), (1, .int x1), (2, .ref x2), (3, .int x3)] [] 0 0
  refine g_iconst (v := 0) F (pc := 0) d_Diff_alike_0 (by decide) (g_istore (lv' := [(4, .int 0), (0, .ref x0), (1, .int x1), (2, .ref x2), (3, .int x3)]) F (pc := 1) d_Diff_alike_1 (by decide) rfl ?_)
  refine g_lv (lv' := [(0, .ref x0), (1, .int x1), (2, .ref x2), (3, .int x3), (4, .int 0)]) F [1, 2, 3, 4, 0] rfl ?_
  obtain ⟨I1, ⟨n0, h⟩, hI1⟩ := h
  have lp4 : ∀ (n2 : Nat) (y5 : Int32), I1 n2 y5 → Z (wd c) 3 [(0, .ref x0), (1, .int x1), (2, .ref x2), (3, .int x3), (4, .int y5)] [] 0 0 := by
    intro n2
    induction n2 using Nat.strongRecOn with
    | _ n2 ih3 =>
      intro y5 h
      replace h := hI1 n2 y5 h
      refine g_iload_n F (pc := 3) d_Diff_alike_3 1 rfl (g_iload F (pc := 4) d_Diff_alike_4 4 rfl (g_iadd F (pc := 6) d_Diff_alike_6 (g_aload_n F (pc := 7) d_Diff_alike_7 0 rfl ?_)))
      obtain ⟨o6, h⟩ := h
      refine gc_getI F (pc := 8) d_Diff_alike_8 fi_Diff_14 o6 ?_
      refine g_icmp_ge (tgt := 52) F (pc := 11) d_Diff_alike_11 (by decide) (fun b7 => ?_) (fun b7 => ?_)
      · replace h := h.1 b7
        refine g_iload F (pc := 52) d_Diff_alike_52 4 rfl ?_
        exact g_iret T (pc := 54) d_Diff_alike_54 rfl (Nat.le_refl _) (Nat.le_refl _) (poI h)
      · replace h := h.2 b7
        refine g_iload_n F (pc := 14) d_Diff_alike_14 3 rfl (g_iload F (pc := 15) d_Diff_alike_15 4 rfl (g_iadd F (pc := 17) d_Diff_alike_17 (g_aload_n F (pc := 18) d_Diff_alike_18 2 rfl ?_)))
        obtain ⟨o8, h⟩ := h
        refine gc_getI F (pc := 19) d_Diff_alike_19 fi_Diff_14 o8 ?_
        refine g_icmp_ge (tgt := 52) F (pc := 22) d_Diff_alike_22 (by decide) (fun b9 => ?_) (fun b9 => ?_)
        · replace h := h.1 b9
          refine g_iload F (pc := 52) d_Diff_alike_52 4 rfl ?_
          exact g_iret T (pc := 54) d_Diff_alike_54 rfl (Nat.le_refl _) (Nat.le_refl _) (poI h)
        · replace h := h.2 b9
          refine g_aload_n F (pc := 25) d_Diff_alike_25 0 rfl (gc_getR F (pc := 26) d_Diff_alike_26 fi_Diff_40 o6 (g_iload_n F (pc := 29) d_Diff_alike_29 1 rfl (g_iload F (pc := 30) d_Diff_alike_30 4 rfl (g_iadd F (pc := 32) d_Diff_alike_32 ?_))))
          obtain ⟨o10, h⟩ := h
          obtain ⟨o11, h⟩ := h
          refine gc_iald F (pc := 33) d_Diff_alike_33 o10 o11 (g_aload_n F (pc := 34) d_Diff_alike_34 2 rfl (gc_getR F (pc := 35) d_Diff_alike_35 fi_Diff_40 o8 (g_iload_n F (pc := 38) d_Diff_alike_38 3 rfl (g_iload F (pc := 39) d_Diff_alike_39 4 rfl (g_iadd F (pc := 41) d_Diff_alike_41 ?_)))))
          obtain ⟨o12, h⟩ := h
          obtain ⟨o13, h⟩ := h
          refine gc_iald F (pc := 42) d_Diff_alike_42 o12 o13 ?_
          refine g_icmp_ne (tgt := 52) F (pc := 43) d_Diff_alike_43 (by decide) (fun b14 => ?_) (fun b14 => ?_)
          · replace h := h.1 b14
            refine g_iload F (pc := 52) d_Diff_alike_52 4 rfl ?_
            exact g_iret T (pc := 54) d_Diff_alike_54 rfl (Nat.le_refl _) (Nat.le_refl _) (poI h)
          · replace h := h.2 b14
            refine g_iinc (v := (y5 + 1)) (lv' := [(4, .int (y5 + 1)), (0, .ref x0), (1, .int x1), (2, .ref x2), (3, .int x3)]) F (pc := 46) d_Diff_alike_46 4 rfl (sk_inc (by decide)) (by decide) rfl (g_goto (tgt := 3) F (pc := 49) d_Diff_alike_49 (by decide) ?_)
            refine g_lv (lv' := [(0, .ref x0), (1, .int x1), (2, .ref x2), (3, .int x3), (4, .int (y5 + 1))]) F [1, 2, 3, 4, 0] rfl ?_
            obtain ⟨m, hm, h⟩ := h
            exact ih3 m hm _ h
  exact lp4 n0 _ h
theorem d_Diff_bestPlace_0 : decode M_Diff_bestPlace.2.1 0 = .ok (.iconst 0, 1) := by decide +kernel
theorem d_Diff_bestPlace_1 : decode M_Diff_bestPlace.2.1 1 = .ok (.istore_n 3, 1) := by decide +kernel
theorem d_Diff_bestPlace_2 : decode M_Diff_bestPlace.2.1 2 = .ok (.iconst 0, 1) := by decide +kernel
theorem d_Diff_bestPlace_3 : decode M_Diff_bestPlace.2.1 3 = .ok (.istore 4, 2) := by decide +kernel
theorem d_Diff_bestPlace_5 : decode M_Diff_bestPlace.2.1 5 = .ok (.iconst 0, 1) := by decide +kernel
theorem d_Diff_bestPlace_6 : decode M_Diff_bestPlace.2.1 6 = .ok (.istore 5, 2) := by decide +kernel
theorem d_Diff_bestPlace_8 : decode M_Diff_bestPlace.2.1 8 = .ok (.iload 5, 2) := by decide +kernel
theorem d_Diff_bestPlace_10 : decode M_Diff_bestPlace.2.1 10 = .ok (.aload_n 0, 1) := by decide +kernel
theorem d_Diff_bestPlace_11 : decode M_Diff_bestPlace.2.1 11 = .ok (.getfield 14, 3) := by decide +kernel
theorem d_Diff_bestPlace_14 : decode M_Diff_bestPlace.2.1 14 = .ok (.if_icmp .ge 33, 3) := by decide +kernel
theorem d_Diff_bestPlace_17 : decode M_Diff_bestPlace.2.1 17 = .ok (.aload_n 0, 1) := by decide +kernel
theorem d_Diff_bestPlace_18 : decode M_Diff_bestPlace.2.1 18 = .ok (.iload 5, 2) := by decide +kernel
theorem d_Diff_bestPlace_20 : decode M_Diff_bestPlace.2.1 20 = .ok (.aload_n 1, 1) := by decide +kernel
theorem d_Diff_bestPlace_21 : decode M_Diff_bestPlace.2.1 21 = .ok (.iload_n 2, 1) := by decide +kernel
theorem d_Diff_bestPlace_22 : decode M_Diff_bestPlace.2.1 22 = .ok (.invokestatic 28, 3) := by decide +kernel
theorem d_Diff_bestPlace_25 : decode M_Diff_bestPlace.2.1 25 = .ok (.istore 6, 2) := by decide +kernel
theorem d_Diff_bestPlace_27 : decode M_Diff_bestPlace.2.1 27 = .ok (.iload 6, 2) := by decide +kernel
theorem d_Diff_bestPlace_29 : decode M_Diff_bestPlace.2.1 29 = .ok (.iload 4, 2) := by decide +kernel
theorem d_Diff_bestPlace_31 : decode M_Diff_bestPlace.2.1 31 = .ok (.if_icmp .le 10, 3) := by decide +kernel
theorem d_Diff_bestPlace_34 : decode M_Diff_bestPlace.2.1 34 = .ok (.iload 6, 2) := by decide +kernel
theorem d_Diff_bestPlace_36 : decode M_Diff_bestPlace.2.1 36 = .ok (.istore 4, 2) := by decide +kernel
theorem d_Diff_bestPlace_38 : decode M_Diff_bestPlace.2.1 38 = .ok (.iload 5, 2) := by decide +kernel
theorem d_Diff_bestPlace_40 : decode M_Diff_bestPlace.2.1 40 = .ok (.istore_n 3, 1) := by decide +kernel
theorem d_Diff_bestPlace_41 : decode M_Diff_bestPlace.2.1 41 = .ok (.iinc 5 1, 3) := by decide +kernel
theorem d_Diff_bestPlace_44 : decode M_Diff_bestPlace.2.1 44 = .ok (.goto (-36), 3) := by decide +kernel
theorem d_Diff_bestPlace_47 : decode M_Diff_bestPlace.2.1 47 = .ok (.iload_n 3, 1) := by decide +kernel
theorem d_Diff_bestPlace_48 : decode M_Diff_bestPlace.2.1 48 = .ok (.ireturn, 1) := by decide +kernel
def f_Diff_bestPlace (x0 : Nat) (x1 : Nat) (x2 : Int32) (c : cM) (K : Int32 → cM → Prop) : Prop :=
  ∃ I1 : Nat → Int32 → Int32 → Int32 → cM → Prop, (∃ n, I1 n 0 0 0 c) ∧ ∀ (n2 : Nat) (y5 : Int32) (y6 : Int32) (y7 : Int32) (c8 : cM), I1 n2 y5 y6 y7 c8 → (kd x0 = 1 ∧ ((((c8 x0 1) ≤ y7) → (K y5 c8)) ∧ (¬ ((c8 x0 1) ≤ y7) → (f_Diff_alike x0 y7 x1 x2 c8 (fun v12 c11 => ∃ J16 : Int32 → Int32 → Prop, (∀ (y14 : Int32) (y15 : Int32), J16 y14 y15 → (∃ m, m < n2 ∧ I1 m y14 y15 (y7 + 1) c11)) ∧ (((v12 ≤ y6) → (J16 y5 y6)) ∧ (¬ (v12 ≤ y6) → (J16 y7 v12))))))))
theorem c_Diff_bestPlace {x0 : Nat} {x1 : Nat} {x2 : Int32} {c : cM} {K : Int32 → cM → Prop} (h : f_Diff_bestPlace x0 x1 x2 c K) : Ct M_Diff_bestPlace 1 0 0 (wd c) [.ref x0, .ref x1, .int x2] (PoI K) := by
  refine Ct.of (by decide +kernel) (Nat.le_of_ble_eq_true rfl) (fun Z T => ?_)
  have F := T.F
  unfold f_Diff_bestPlace at h
  show Z (wd c) 0 [(0, .ref x0), (1, .ref x1), (2, .int x2)] [] 0 0
  refine g_iconst (v := 0) F (pc := 0) d_Diff_bestPlace_0 (by decide) (g_istore_n (lv' := [(3, .int 0), (0, .ref x0), (1, .ref x1), (2, .int x2)]) F (pc := 1) d_Diff_bestPlace_1 (by decide) rfl (g_iconst (v := 0) F (pc := 2) d_Diff_bestPlace_2 (by decide) (g_istore (lv' := [(4, .int 0), (3, .int 0), (0, .ref x0), (1, .ref x1), (2, .int x2)]) F (pc := 3) d_Diff_bestPlace_3 (by decide) rfl (g_iconst (v := 0) F (pc := 5) d_Diff_bestPlace_5 (by decide) (g_istore (lv' := [(5, .int 0), (4, .int 0), (3, .int 0), (0, .ref x0), (1, .ref x1), (2, .int x2)]) F (pc := 6) d_Diff_bestPlace_6 (by decide) rfl ?_)))))
  refine g_lv (lv' := [(0, .ref x0), (1, .ref x1), (2, .int x2), (3, .int 0), (4, .int 0), (5, .int 0)]) F [3, 4, 5, 2, 1, 0] rfl ?_
  obtain ⟨I1, ⟨n0, h⟩, hI1⟩ := h
  have lp4 : ∀ (n2 : Nat) (y5 : Int32) (y6 : Int32) (y7 : Int32) (c8 : cM), I1 n2 y5 y6 y7 c8 → Z (wd c8) 8 [(0, .ref x0), (1, .ref x1), (2, .int x2), (3, .int y5), (4, .int y6), (5, .int y7)] [] 0 0 := by
    intro n2
    induction n2 using Nat.strongRecOn with
    | _ n2 ih3 =>
      intro y5 y6 y7 c8 h
      replace h := hI1 n2 y5 y6 y7 c8 h
      refine g_iload F (pc := 8) d_Diff_bestPlace_8 5 rfl (g_aload_n F (pc := 10) d_Diff_bestPlace_10 0 rfl ?_)
      obtain ⟨o9, h⟩ := h
      refine gc_getI F (pc := 11) d_Diff_bestPlace_11 fi_Diff_14 o9 ?_
      refine g_icmp_ge (tgt := 47) F (pc := 14) d_Diff_bestPlace_14 (by decide) (fun b10 => ?_) (fun b10 => ?_)
      · replace h := h.1 b10
        refine g_iload_n F (pc := 47) d_Diff_bestPlace_47 3 rfl ?_
        exact g_iret T (pc := 48) d_Diff_bestPlace_48 rfl (Nat.le_refl _) (Nat.le_refl _) (poI h)
      · replace h := h.2 b10
        refine g_aload_n F (pc := 17) d_Diff_bestPlace_17 0 rfl (g_iload F (pc := 18) d_Diff_bestPlace_18 5 rfl (g_aload_n F (pc := 20) d_Diff_bestPlace_20 1 rfl (g_iload_n F (pc := 21) d_Diff_bestPlace_21 2 rfl ?_)))
        refine gc_callSI (As := [.ref x0, .int y7, .ref x1, .int x2]) (st := []) F (pc := 22) d_Diff_bestPlace_22 cb_Diff_28 iv_Diff_alike np_Diff_alike (c_Diff_alike h) rfl (by decide) (Nat.le_refl _) (Nat.le_refl _) (Nat.le_of_ble_eq_true rfl) (fun v12 c11 h => ?_)
        refine g_istore (lv' := [(6, .int v12), (0, .ref x0), (1, .ref x1), (2, .int x2), (3, .int y5), (4, .int y6), (5, .int y7)]) F (pc := 25) d_Diff_bestPlace_25 (by decide) rfl (g_iload F (pc := 27) d_Diff_bestPlace_27 0 rfl (g_iload F (pc := 29) d_Diff_bestPlace_29 5 rfl ?_))
        obtain ⟨J16, hJ16, h⟩ := h
        have jn17 : ∀ (y14 : Int32) (y15 : Int32), J16 y14 y15 → Z (wd c11) 41 [(0, .ref x0), (1, .ref x1), (2, .int x2), (3, .int y14), (4, .int y15), (5, .int y7)] [] 0 0 := by
          intro y14 y15 h
          replace h := hJ16 y14 y15 h
          refine g_iinc (v := (y7 + 1)) (lv' := [(5, .int (y7 + 1)), (0, .ref x0), (1, .ref x1), (2, .int x2), (3, .int y14), (4, .int y15)]) F (pc := 41) d_Diff_bestPlace_41 5 rfl (sk_inc (by decide)) (by decide) rfl (g_goto (tgt := 8) F (pc := 44) d_Diff_bestPlace_44 (by decide) ?_)
          refine g_lv (lv' := [(0, .ref x0), (1, .ref x1), (2, .int x2), (3, .int y14), (4, .int y15), (5, .int (y7 + 1))]) F [1, 2, 3, 4, 5, 0] rfl ?_
          obtain ⟨m, hm, h⟩ := h
          exact ih3 m hm _ _ _ _ h
        refine g_icmp_le (tgt := 41) F (pc := 31) d_Diff_bestPlace_31 (by decide) (fun b13 => ?_) (fun b13 => ?_)
        · replace h := h.1 b13
          refine g_lv (lv' := [(0, .ref x0), (1, .ref x1), (2, .int x2), (3, .int y5), (4, .int y6), (5, .int y7)]) F [1, 2, 3, 4, 5, 6] rfl ?_
          exact jn17 _ _ h
        · replace h := h.2 b13
          refine g_iload F (pc := 34) d_Diff_bestPlace_34 0 rfl (g_istore (lv' := [(4, .int v12), (6, .int v12), (0, .ref x0), (1, .ref x1), (2, .int x2), (3, .int y5), (5, .int y7)]) F (pc := 36) d_Diff_bestPlace_36 (by decide) rfl (g_iload F (pc := 38) d_Diff_bestPlace_38 6 rfl (g_istore_n (lv' := [(3, .int y7), (4, .int v12), (6, .int v12), (0, .ref x0), (1, .ref x1), (2, .int x2), (5, .int y7)]) F (pc := 40) d_Diff_bestPlace_40 (by decide) rfl ?_)))
          refine g_lv (lv' := [(0, .ref x0), (1, .ref x1), (2, .int x2), (3, .int y7), (4, .int v12), (5, .int y7)]) F [3, 4, 5, 0, 1, 6] rfl ?_
          exact jn17 _ _ h
  exact lp4 n0 _ _ _ _ h
theorem d_Diff_putNew_0 : decode M_Diff_putNew.2.1 0 = .ok (.iload_n 2, 1) := by decide +kernel
theorem d_Diff_putNew_1 : decode M_Diff_putNew.2.1 1 = .ok (.ifCond .le 16, 3) := by decide +kernel
theorem d_Diff_putNew_4 : decode M_Diff_putNew.2.1 4 = .ok (.aload_n 3, 1) := by decide +kernel
theorem d_Diff_putNew_5 : decode M_Diff_putNew.2.1 5 = .ok (.iload_n 2, 1) := by decide +kernel
theorem d_Diff_putNew_6 : decode M_Diff_putNew.2.1 6 = .ok (.invokevirtual 18, 3) := by decide +kernel
theorem d_Diff_putNew_9 : decode M_Diff_putNew.2.1 9 = .ok (.aload_n 3, 1) := by decide +kernel
theorem d_Diff_putNew_10 : decode M_Diff_putNew.2.1 10 = .ok (.aload_n 0, 1) := by decide +kernel
theorem d_Diff_putNew_11 : decode M_Diff_putNew.2.1 11 = .ok (.iload_n 1, 1) := by decide +kernel
theorem d_Diff_putNew_12 : decode M_Diff_putNew.2.1 12 = .ok (.iload_n 2, 1) := by decide +kernel
theorem d_Diff_putNew_13 : decode M_Diff_putNew.2.1 13 = .ok (.invokevirtual 36, 3) := by decide +kernel
theorem d_Diff_putNew_16 : decode M_Diff_putNew.2.1 16 = .ok (.pop, 1) := by decide +kernel
theorem d_Diff_putNew_17 : decode M_Diff_putNew.2.1 17 = .ok (.return_, 1) := by decide +kernel
def f_Diff_putNew (x0 : Nat) (x1 : Int32) (x2 : Int32) (x3 : Nat) (c : cM) (K : cM → Prop) : Prop :=
  ((x2 ≤ 0) → (K c)) ∧ (¬ (x2 ≤ 0) → (kd x3 = 1 ∧ (f_Row_put x3 x2 c (fun c3 => f_Row_putPart x3 x0 x1 x2 c3 (fun v5 c4 => K c4)))))
theorem c_Diff_putNew {x0 : Nat} {x1 : Int32} {x2 : Int32} {x3 : Nat} {c : cM} {K : cM → Prop} (h : f_Diff_putNew x0 x1 x2 x3 c K) : Ct M_Diff_putNew 2 0 0 (wd c) [.ref x0, .int x1, .int x2, .ref x3] (PoV K) := by
  refine Ct.of (by decide +kernel) (Nat.le_of_ble_eq_true rfl) (fun Z T => ?_)
  have F := T.F
  unfold f_Diff_putNew at h
  show Z (wd c) 0 [(0, .ref x0), (1, .int x1), (2, .int x2), (3, .ref x3)] [] 0 0
  refine g_iload_n F (pc := 0) d_Diff_putNew_0 2 rfl ?_
  refine g_if_le (tgt := 17) F (pc := 1) d_Diff_putNew_1 (by decide) (fun b1 => ?_) (fun b1 => ?_)
  · replace h := h.1 b1
    exact g_vret T (pc := 17) d_Diff_putNew_17 rfl (Nat.le_refl _) (Nat.le_refl _) (poV h)
  · replace h := h.2 b1
    refine g_aload_n F (pc := 4) d_Diff_putNew_4 3 rfl (g_iload_n F (pc := 5) d_Diff_putNew_5 2 rfl ?_)
    obtain ⟨o2, h⟩ := h
    refine gc_callVV (As := [.int x2]) (st := []) F (pc := 6) d_Diff_putNew_6 cb_Diff_18 iv_Row_put np_Row_put o2 vc_1 (c_Row_put h) rfl (by decide) (Nat.le_refl _) (Nat.le_refl _) (Nat.le_of_ble_eq_true rfl) (fun c3 h => ?_)
    refine g_aload_n F (pc := 9) d_Diff_putNew_9 3 rfl (g_aload_n F (pc := 10) d_Diff_putNew_10 0 rfl (g_iload_n F (pc := 11) d_Diff_putNew_11 1 rfl (g_iload_n F (pc := 12) d_Diff_putNew_12 2 rfl ?_)))
    refine gc_callVI (As := [.ref x0, .int x1, .int x2]) (st := []) F (pc := 13) d_Diff_putNew_13 cb_Diff_36 iv_Row_putPart np_Row_putPart o2 vc_1 (c_Row_putPart h) rfl (by decide) (Nat.le_refl _) (Nat.le_refl _) (Nat.le_of_ble_eq_true rfl) (fun v5 c4 h => ?_)
    refine g_pop F (pc := 16) d_Diff_putNew_16 rfl ?_
    exact g_vret T (pc := 17) d_Diff_putNew_17 rfl (Nat.le_refl _) (Nat.le_refl _) (poV h)
theorem d_Diff_write_0 : decode M_Diff_write.2.1 0 = .ok (.aload_n 2, 1) := by decide +kernel
theorem d_Diff_write_1 : decode M_Diff_write.2.1 1 = .ok (.invokevirtual 9, 3) := by decide +kernel
theorem d_Diff_write_4 : decode M_Diff_write.2.1 4 = .ok (.aload_n 2, 1) := by decide +kernel
theorem d_Diff_write_5 : decode M_Diff_write.2.1 5 = .ok (.aload_n 0, 1) := by decide +kernel
theorem d_Diff_write_6 : decode M_Diff_write.2.1 6 = .ok (.getfield 14, 3) := by decide +kernel
theorem d_Diff_write_9 : decode M_Diff_write.2.1 9 = .ok (.invokevirtual 18, 3) := by decide +kernel
theorem d_Diff_write_12 : decode M_Diff_write.2.1 12 = .ok (.aload_n 2, 1) := by decide +kernel
theorem d_Diff_write_13 : decode M_Diff_write.2.1 13 = .ok (.aload_n 1, 1) := by decide +kernel
theorem d_Diff_write_14 : decode M_Diff_write.2.1 14 = .ok (.getfield 14, 3) := by decide +kernel
theorem d_Diff_write_17 : decode M_Diff_write.2.1 17 = .ok (.invokevirtual 18, 3) := by decide +kernel
theorem d_Diff_write_20 : decode M_Diff_write.2.1 20 = .ok (.iconst 0, 1) := by decide +kernel
theorem d_Diff_write_21 : decode M_Diff_write.2.1 21 = .ok (.istore_n 3, 1) := by decide +kernel
theorem d_Diff_write_22 : decode M_Diff_write.2.1 22 = .ok (.iconst 0, 1) := by decide +kernel
theorem d_Diff_write_23 : decode M_Diff_write.2.1 23 = .ok (.istore 4, 2) := by decide +kernel
theorem d_Diff_write_25 : decode M_Diff_write.2.1 25 = .ok (.iload 4, 2) := by decide +kernel
theorem d_Diff_write_27 : decode M_Diff_write.2.1 27 = .ok (.aload_n 1, 1) := by decide +kernel
theorem d_Diff_write_28 : decode M_Diff_write.2.1 28 = .ok (.getfield 14, 3) := by decide +kernel
theorem d_Diff_write_31 : decode M_Diff_write.2.1 31 = .ok (.if_icmp .ge 79, 3) := by decide +kernel
theorem d_Diff_write_34 : decode M_Diff_write.2.1 34 = .ok (.aload_n 0, 1) := by decide +kernel
theorem d_Diff_write_35 : decode M_Diff_write.2.1 35 = .ok (.aload_n 1, 1) := by decide +kernel
theorem d_Diff_write_36 : decode M_Diff_write.2.1 36 = .ok (.iload 4, 2) := by decide +kernel
theorem d_Diff_write_38 : decode M_Diff_write.2.1 38 = .ok (.invokestatic 22, 3) := by decide +kernel
theorem d_Diff_write_41 : decode M_Diff_write.2.1 41 = .ok (.istore 5, 2) := by decide +kernel
theorem d_Diff_write_43 : decode M_Diff_write.2.1 43 = .ok (.aload_n 0, 1) := by decide +kernel
theorem d_Diff_write_44 : decode M_Diff_write.2.1 44 = .ok (.iload 5, 2) := by decide +kernel
theorem d_Diff_write_46 : decode M_Diff_write.2.1 46 = .ok (.aload_n 1, 1) := by decide +kernel
theorem d_Diff_write_47 : decode M_Diff_write.2.1 47 = .ok (.iload 4, 2) := by decide +kernel
theorem d_Diff_write_49 : decode M_Diff_write.2.1 49 = .ok (.invokestatic 28, 3) := by decide +kernel
theorem d_Diff_write_52 : decode M_Diff_write.2.1 52 = .ok (.istore 6, 2) := by decide +kernel
theorem d_Diff_write_54 : decode M_Diff_write.2.1 54 = .ok (.iload 6, 2) := by decide +kernel
theorem d_Diff_write_56 : decode M_Diff_write.2.1 56 = .ok (.iconst 4, 1) := by decide +kernel
theorem d_Diff_write_57 : decode M_Diff_write.2.1 57 = .ok (.if_icmp .lt 44, 3) := by decide +kernel
theorem d_Diff_write_60 : decode M_Diff_write.2.1 60 = .ok (.aload_n 1, 1) := by decide +kernel
theorem d_Diff_write_61 : decode M_Diff_write.2.1 61 = .ok (.iload 4, 2) := by decide +kernel
theorem d_Diff_write_63 : decode M_Diff_write.2.1 63 = .ok (.iload_n 3, 1) := by decide +kernel
theorem d_Diff_write_64 : decode M_Diff_write.2.1 64 = .ok (.isub, 1) := by decide +kernel
theorem d_Diff_write_65 : decode M_Diff_write.2.1 65 = .ok (.iload_n 3, 1) := by decide +kernel
theorem d_Diff_write_66 : decode M_Diff_write.2.1 66 = .ok (.aload_n 2, 1) := by decide +kernel
theorem d_Diff_write_67 : decode M_Diff_write.2.1 67 = .ok (.invokestatic 32, 3) := by decide +kernel
theorem d_Diff_write_70 : decode M_Diff_write.2.1 70 = .ok (.iconst 0, 1) := by decide +kernel
theorem d_Diff_write_71 : decode M_Diff_write.2.1 71 = .ok (.istore_n 3, 1) := by decide +kernel
theorem d_Diff_write_72 : decode M_Diff_write.2.1 72 = .ok (.aload_n 2, 1) := by decide +kernel
theorem d_Diff_write_73 : decode M_Diff_write.2.1 73 = .ok (.sipush 145, 3) := by decide +kernel
theorem d_Diff_write_76 : decode M_Diff_write.2.1 76 = .ok (.invokevirtual 18, 3) := by decide +kernel
theorem d_Diff_write_79 : decode M_Diff_write.2.1 79 = .ok (.aload_n 2, 1) := by decide +kernel
theorem d_Diff_write_80 : decode M_Diff_write.2.1 80 = .ok (.iload 5, 2) := by decide +kernel
theorem d_Diff_write_82 : decode M_Diff_write.2.1 82 = .ok (.invokevirtual 18, 3) := by decide +kernel
theorem d_Diff_write_85 : decode M_Diff_write.2.1 85 = .ok (.aload_n 2, 1) := by decide +kernel
theorem d_Diff_write_86 : decode M_Diff_write.2.1 86 = .ok (.iload 6, 2) := by decide +kernel
theorem d_Diff_write_88 : decode M_Diff_write.2.1 88 = .ok (.invokevirtual 18, 3) := by decide +kernel
theorem d_Diff_write_91 : decode M_Diff_write.2.1 91 = .ok (.iload 4, 2) := by decide +kernel
theorem d_Diff_write_93 : decode M_Diff_write.2.1 93 = .ok (.iload 6, 2) := by decide +kernel
theorem d_Diff_write_95 : decode M_Diff_write.2.1 95 = .ok (.iadd, 1) := by decide +kernel
theorem d_Diff_write_96 : decode M_Diff_write.2.1 96 = .ok (.istore 4, 2) := by decide +kernel
theorem d_Diff_write_98 : decode M_Diff_write.2.1 98 = .ok (.goto 9, 3) := by decide +kernel
theorem d_Diff_write_101 : decode M_Diff_write.2.1 101 = .ok (.iinc 3 1, 3) := by decide +kernel
theorem d_Diff_write_104 : decode M_Diff_write.2.1 104 = .ok (.iinc 4 1, 3) := by decide +kernel
theorem d_Diff_write_107 : decode M_Diff_write.2.1 107 = .ok (.goto (-82), 3) := by decide +kernel
theorem d_Diff_write_110 : decode M_Diff_write.2.1 110 = .ok (.aload_n 1, 1) := by decide +kernel
theorem d_Diff_write_111 : decode M_Diff_write.2.1 111 = .ok (.iload 4, 2) := by decide +kernel
theorem d_Diff_write_113 : decode M_Diff_write.2.1 113 = .ok (.iload_n 3, 1) := by decide +kernel
theorem d_Diff_write_114 : decode M_Diff_write.2.1 114 = .ok (.isub, 1) := by decide +kernel
theorem d_Diff_write_115 : decode M_Diff_write.2.1 115 = .ok (.iload_n 3, 1) := by decide +kernel
theorem d_Diff_write_116 : decode M_Diff_write.2.1 116 = .ok (.aload_n 2, 1) := by decide +kernel
theorem d_Diff_write_117 : decode M_Diff_write.2.1 117 = .ok (.invokestatic 32, 3) := by decide +kernel
theorem d_Diff_write_120 : decode M_Diff_write.2.1 120 = .ok (.return_, 1) := by decide +kernel
def f_Diff_write (x0 : Nat) (x1 : Nat) (x2 : Nat) (c : cM) (K : cM → Prop) : Prop :=
  kd x2 = 1 ∧ (f_Row_clear x2 c (fun c2 => kd x0 = 1 ∧ (f_Row_put x2 (c2 x0 1) c2 (fun c4 => kd x1 = 1 ∧ (f_Row_put x2 (c4 x1 1) c4 (fun c6 => ∃ I7 : Nat → Int32 → Int32 → cM → Prop, (∃ n, I7 n 0 0 c6) ∧ ∀ (n8 : Nat) (y11 : Int32) (y12 : Int32) (c13 : cM), I7 n8 y11 y12 c13 → ((((c13 x1 1) ≤ y12) → (f_Diff_putNew x1 (y12 - y11) y11 x2 c13 (fun c15 => K c15))) ∧ (¬ ((c13 x1 1) ≤ y12) → (f_Diff_bestPlace x0 x1 y12 c13 (fun v17 c16 => f_Diff_alike x0 v17 x1 y12 c16 (fun v19 c18 => ∃ J28 : Int32 → Int32 → cM → Prop, (∀ (y25 : Int32) (y26 : Int32) (c27 : cM), J28 y25 y26 c27 → (∃ m, m < n8 ∧ I7 m y25 y26 c27)) ∧ (((v19 < 4) → (J28 (y11 + 1) (y12 + 1) c18)) ∧ (¬ (v19 < 4) → (f_Diff_putNew x1 (y12 - y11) y11 x2 c18 (fun c30 => f_Row_put x2 145 c30 (fun c31 => f_Row_put x2 v17 c31 (fun c32 => f_Row_put x2 v19 c32 (fun c33 => J28 0 (y12 + v19) c33))))))))))))))))))
theorem c_Diff_write {x0 : Nat} {x1 : Nat} {x2 : Nat} {c : cM} {K : cM → Prop} (h : f_Diff_write x0 x1 x2 c K) : Ct M_Diff_write 3 0 0 (wd c) [.ref x0, .ref x1, .ref x2] (PoV K) := by
  refine Ct.of (by decide +kernel) (Nat.le_of_ble_eq_true rfl) (fun Z T => ?_)
  have F := T.F
  unfold f_Diff_write at h
  show Z (wd c) 0 [(0, .ref x0), (1, .ref x1), (2, .ref x2)] [] 0 0
  refine g_aload_n F (pc := 0) d_Diff_write_0 2 rfl ?_
  obtain ⟨o1, h⟩ := h
  refine gc_callVV (As := []) (st := []) F (pc := 1) d_Diff_write_1 cb_Diff_9 iv_Row_clear np_Row_clear o1 vc_1 (c_Row_clear h) rfl (by decide) (Nat.le_refl _) (Nat.le_refl _) (Nat.le_of_ble_eq_true rfl) (fun c2 h => ?_)
  refine g_aload_n F (pc := 4) d_Diff_write_4 2 rfl (g_aload_n F (pc := 5) d_Diff_write_5 0 rfl ?_)
  obtain ⟨o3, h⟩ := h
  refine gc_getI F (pc := 6) d_Diff_write_6 fi_Diff_14 o3 ?_
  refine gc_callVV (As := [.int (c2 x0 1)]) (st := []) F (pc := 9) d_Diff_write_9 cb_Diff_18 iv_Row_put np_Row_put o1 vc_1 (c_Row_put h) rfl (by decide) (Nat.le_refl _) (Nat.le_refl _) (Nat.le_of_ble_eq_true rfl) (fun c4 h => ?_)
  refine g_aload_n F (pc := 12) d_Diff_write_12 2 rfl (g_aload_n F (pc := 13) d_Diff_write_13 1 rfl ?_)
  obtain ⟨o5, h⟩ := h
  refine gc_getI F (pc := 14) d_Diff_write_14 fi_Diff_14 o5 ?_
  refine gc_callVV (As := [.int (c4 x1 1)]) (st := []) F (pc := 17) d_Diff_write_17 cb_Diff_18 iv_Row_put np_Row_put o1 vc_1 (c_Row_put h) rfl (by decide) (Nat.le_refl _) (Nat.le_refl _) (Nat.le_of_ble_eq_true rfl) (fun c6 h => ?_)
  refine g_iconst (v := 0) F (pc := 20) d_Diff_write_20 (by decide) (g_istore_n (lv' := [(3, .int 0), (0, .ref x0), (1, .ref x1), (2, .ref x2)]) F (pc := 21) d_Diff_write_21 (by decide) rfl (g_iconst (v := 0) F (pc := 22) d_Diff_write_22 (by decide) (g_istore (lv' := [(4, .int 0), (3, .int 0), (0, .ref x0), (1, .ref x1), (2, .ref x2)]) F (pc := 23) d_Diff_write_23 (by decide) rfl ?_)))
  refine g_lv (lv' := [(0, .ref x0), (1, .ref x1), (2, .ref x2), (3, .int 0), (4, .int 0)]) F [2, 3, 4, 1, 0] rfl ?_
  obtain ⟨I7, ⟨n0, h⟩, hI7⟩ := h
  have lp10 : ∀ (n8 : Nat) (y11 : Int32) (y12 : Int32) (c13 : cM), I7 n8 y11 y12 c13 → Z (wd c13) 25 [(0, .ref x0), (1, .ref x1), (2, .ref x2), (3, .int y11), (4, .int y12)] [] 0 0 := by
    intro n8
    induction n8 using Nat.strongRecOn with
    | _ n8 ih9 =>
      intro y11 y12 c13 h
      replace h := hI7 n8 y11 y12 c13 h
      refine g_iload F (pc := 25) d_Diff_write_25 4 rfl (g_aload_n F (pc := 27) d_Diff_write_27 1 rfl (gc_getI F (pc := 28) d_Diff_write_28 fi_Diff_14 o5 ?_))
      refine g_icmp_ge (tgt := 110) F (pc := 31) d_Diff_write_31 (by decide) (fun b14 => ?_) (fun b14 => ?_)
      · replace h := h.1 b14
        refine g_aload_n F (pc := 110) d_Diff_write_110 1 rfl (g_iload F (pc := 111) d_Diff_write_111 4 rfl (g_iload_n F (pc := 113) d_Diff_write_113 3 rfl (g_isub F (pc := 114) d_Diff_write_114 (g_iload_n F (pc := 115) d_Diff_write_115 3 rfl (g_aload_n F (pc := 116) d_Diff_write_116 2 rfl ?_)))))
        refine gc_callSV (As := [.ref x1, .int (y12 - y11), .int y11, .ref x2]) (st := []) F (pc := 117) d_Diff_write_117 cb_Diff_32 iv_Diff_putNew np_Diff_putNew (c_Diff_putNew h) rfl (by decide) (Nat.le_refl _) (Nat.le_refl _) (Nat.le_of_ble_eq_true rfl) (fun c15 h => ?_)
        exact g_vret T (pc := 120) d_Diff_write_120 rfl (Nat.le_refl _) (Nat.le_refl _) (poV h)
      · replace h := h.2 b14
        refine g_aload_n F (pc := 34) d_Diff_write_34 0 rfl (g_aload_n F (pc := 35) d_Diff_write_35 1 rfl (g_iload F (pc := 36) d_Diff_write_36 4 rfl ?_))
        refine gc_callSI (As := [.ref x0, .ref x1, .int y12]) (st := []) F (pc := 38) d_Diff_write_38 cb_Diff_22 iv_Diff_bestPlace np_Diff_bestPlace (c_Diff_bestPlace h) rfl (by decide) (Nat.le_refl _) (Nat.le_refl _) (Nat.le_of_ble_eq_true rfl) (fun v17 c16 h => ?_)
        refine g_istore (lv' := [(5, .int v17), (0, .ref x0), (1, .ref x1), (2, .ref x2), (3, .int y11), (4, .int y12)]) F (pc := 41) d_Diff_write_41 (by decide) rfl (g_aload_n F (pc := 43) d_Diff_write_43 1 rfl (g_iload F (pc := 44) d_Diff_write_44 0 rfl (g_aload_n F (pc := 46) d_Diff_write_46 2 rfl (g_iload F (pc := 47) d_Diff_write_47 5 rfl ?_))))
        refine gc_callSI (As := [.ref x0, .int v17, .ref x1, .int y12]) (st := []) F (pc := 49) d_Diff_write_49 cb_Diff_28 iv_Diff_alike np_Diff_alike (c_Diff_alike h) rfl (by decide) (Nat.le_refl _) (Nat.le_refl _) (Nat.le_of_ble_eq_true rfl) (fun v19 c18 h => ?_)
        refine g_istore (lv' := [(6, .int v19), (5, .int v17), (0, .ref x0), (1, .ref x1), (2, .ref x2), (3, .int y11), (4, .int y12)]) F (pc := 52) d_Diff_write_52 (by decide) rfl (g_iload F (pc := 54) d_Diff_write_54 0 rfl (g_iconst (v := 4) F (pc := 56) d_Diff_write_56 (by decide) ?_))
        obtain ⟨J28, hJ28, h⟩ := h
        have jn29 : ∀ (y25 : Int32) (y26 : Int32) (c27 : cM), J28 y25 y26 c27 → Z (wd c27) 107 [(0, .ref x0), (1, .ref x1), (2, .ref x2), (3, .int y25), (4, .int y26)] [] 0 0 := by
          intro y25 y26 c27 h
          replace h := hJ28 y25 y26 c27 h
          refine g_goto (tgt := 25) F (pc := 107) d_Diff_write_107 (by decide) ?_
          obtain ⟨m, hm, h⟩ := h
          exact ih9 m hm _ _ _ h
        refine g_icmp_lt (tgt := 101) F (pc := 57) d_Diff_write_57 (by decide) (fun b20 => ?_) (fun b20 => ?_)
        · replace h := h.1 b20
          refine g_iinc (v := (y11 + 1)) (lv' := [(3, .int (y11 + 1)), (6, .int v19), (5, .int v17), (0, .ref x0), (1, .ref x1), (2, .ref x2), (4, .int y12)]) F (pc := 101) d_Diff_write_101 5 rfl (sk_inc (by decide)) (by decide) rfl (g_iinc (v := (y12 + 1)) (lv' := [(4, .int (y12 + 1)), (3, .int (y11 + 1)), (6, .int v19), (5, .int v17), (0, .ref x0), (1, .ref x1), (2, .ref x2)]) F (pc := 104) d_Diff_write_104 6 rfl (sk_inc (by decide)) (by decide) rfl ?_)
          refine g_lv (lv' := [(0, .ref x0), (1, .ref x1), (2, .ref x2), (3, .int (y11 + 1)), (4, .int (y12 + 1))]) F [4, 5, 6, 1, 0] rfl ?_
          exact jn29 _ _ _ h
        · replace h := h.2 b20
          refine g_aload_n F (pc := 60) d_Diff_write_60 3 rfl (g_iload F (pc := 61) d_Diff_write_61 6 rfl (g_iload_n F (pc := 63) d_Diff_write_63 5 rfl (g_isub F (pc := 64) d_Diff_write_64 (g_iload_n F (pc := 65) d_Diff_write_65 5 rfl (g_aload_n F (pc := 66) d_Diff_write_66 4 rfl ?_)))))
          refine gc_callSV (As := [.ref x1, .int (y12 - y11), .int y11, .ref x2]) (st := []) F (pc := 67) d_Diff_write_67 cb_Diff_32 iv_Diff_putNew np_Diff_putNew (c_Diff_putNew h) rfl (by decide) (Nat.le_refl _) (Nat.le_refl _) (Nat.le_of_ble_eq_true rfl) (fun c30 h => ?_)
          refine g_iconst (v := 0) F (pc := 70) d_Diff_write_70 (by decide) (g_istore_n (lv' := [(3, .int 0), (6, .int v19), (5, .int v17), (0, .ref x0), (1, .ref x1), (2, .ref x2), (4, .int y12)]) F (pc := 71) d_Diff_write_71 (by decide) rfl (g_aload_n F (pc := 72) d_Diff_write_72 5 rfl (g_sipush (v := 145) F (pc := 73) d_Diff_write_73 (by decide) ?_)))
          refine gc_callVV (As := [.int 145]) (st := []) F (pc := 76) d_Diff_write_76 cb_Diff_18 iv_Row_put np_Row_put o1 vc_1 (c_Row_put h) rfl (by decide) (Nat.le_refl _) (Nat.le_refl _) (Nat.le_of_ble_eq_true rfl) (fun c31 h => ?_)
          refine g_aload_n F (pc := 79) d_Diff_write_79 5 rfl (g_iload F (pc := 80) d_Diff_write_80 2 rfl ?_)
          refine gc_callVV (As := [.int v17]) (st := []) F (pc := 82) d_Diff_write_82 cb_Diff_18 iv_Row_put np_Row_put o1 vc_1 (c_Row_put h) rfl (by decide) (Nat.le_refl _) (Nat.le_refl _) (Nat.le_of_ble_eq_true rfl) (fun c32 h => ?_)
          refine g_aload_n F (pc := 85) d_Diff_write_85 5 rfl (g_iload F (pc := 86) d_Diff_write_86 1 rfl ?_)
          refine gc_callVV (As := [.int v19]) (st := []) F (pc := 88) d_Diff_write_88 cb_Diff_18 iv_Row_put np_Row_put o1 vc_1 (c_Row_put h) rfl (by decide) (Nat.le_refl _) (Nat.le_refl _) (Nat.le_of_ble_eq_true rfl) (fun c33 h => ?_)
          refine g_iload F (pc := 91) d_Diff_write_91 6 rfl (g_iload F (pc := 93) d_Diff_write_93 1 rfl (g_iadd F (pc := 95) d_Diff_write_95 (g_istore (lv' := [(4, .int (y12 + v19)), (3, .int 0), (6, .int v19), (5, .int v17), (0, .ref x0), (1, .ref x1), (2, .ref x2)]) F (pc := 96) d_Diff_write_96 (by decide) rfl (g_goto (tgt := 107) F (pc := 98) d_Diff_write_98 (by decide) ?_))))
          refine g_lv (lv' := [(0, .ref x0), (1, .ref x1), (2, .ref x2), (3, .int 0), (4, .int (y12 + v19))]) F [4, 5, 6, 1, 0] rfl ?_
          exact jn29 _ _ _ h
  exact lp10 n0 _ _ _ h
theorem d_Wrap_putTail_0 : decode M_Wrap_putTail.2.1 0 = .ok (.iconst 1, 1) := by decide +kernel
theorem d_Wrap_putTail_1 : decode M_Wrap_putTail.2.1 1 = .ok (.istore_n 2, 1) := by decide +kernel
theorem d_Wrap_putTail_2 : decode M_Wrap_putTail.2.1 2 = .ok (.iconst 0, 1) := by decide +kernel
theorem d_Wrap_putTail_3 : decode M_Wrap_putTail.2.1 3 = .ok (.istore_n 3, 1) := by decide +kernel
theorem d_Wrap_putTail_4 : decode M_Wrap_putTail.2.1 4 = .ok (.iconst 0, 1) := by decide +kernel
theorem d_Wrap_putTail_5 : decode M_Wrap_putTail.2.1 5 = .ok (.istore 4, 2) := by decide +kernel
theorem d_Wrap_putTail_7 : decode M_Wrap_putTail.2.1 7 = .ok (.iload 4, 2) := by decide +kernel
theorem d_Wrap_putTail_9 : decode M_Wrap_putTail.2.1 9 = .ok (.aload_n 0, 1) := by decide +kernel
theorem d_Wrap_putTail_10 : decode M_Wrap_putTail.2.1 10 = .ok (.getfield 18, 3) := by decide +kernel
theorem d_Wrap_putTail_13 : decode M_Wrap_putTail.2.1 13 = .ok (.if_icmp .ge 28, 3) := by decide +kernel
theorem d_Wrap_putTail_16 : decode M_Wrap_putTail.2.1 16 = .ok (.iload_n 2, 1) := by decide +kernel
theorem d_Wrap_putTail_17 : decode M_Wrap_putTail.2.1 17 = .ok (.aload_n 0, 1) := by decide +kernel
theorem d_Wrap_putTail_18 : decode M_Wrap_putTail.2.1 18 = .ok (.iload 4, 2) := by decide +kernel
theorem d_Wrap_putTail_20 : decode M_Wrap_putTail.2.1 20 = .ok (.invokevirtual 22, 3) := by decide +kernel
theorem d_Wrap_putTail_23 : decode M_Wrap_putTail.2.1 23 = .ok (.iadd, 1) := by decide +kernel
theorem d_Wrap_putTail_24 : decode M_Wrap_putTail.2.1 24 = .ok (.ldc 28, 2) := by decide +kernel
theorem d_Wrap_putTail_26 : decode M_Wrap_putTail.2.1 26 = .ok (.irem, 1) := by decide +kernel
theorem d_Wrap_putTail_27 : decode M_Wrap_putTail.2.1 27 = .ok (.istore_n 2, 1) := by decide +kernel
theorem d_Wrap_putTail_28 : decode M_Wrap_putTail.2.1 28 = .ok (.iload_n 3, 1) := by decide +kernel
theorem d_Wrap_putTail_29 : decode M_Wrap_putTail.2.1 29 = .ok (.iload_n 2, 1) := by decide +kernel
theorem d_Wrap_putTail_30 : decode M_Wrap_putTail.2.1 30 = .ok (.iadd, 1) := by decide +kernel
theorem d_Wrap_putTail_31 : decode M_Wrap_putTail.2.1 31 = .ok (.ldc 28, 2) := by decide +kernel
theorem d_Wrap_putTail_33 : decode M_Wrap_putTail.2.1 33 = .ok (.irem, 1) := by decide +kernel
theorem d_Wrap_putTail_34 : decode M_Wrap_putTail.2.1 34 = .ok (.istore_n 3, 1) := by decide +kernel
theorem d_Wrap_putTail_35 : decode M_Wrap_putTail.2.1 35 = .ok (.iinc 4 1, 3) := by decide +kernel
theorem d_Wrap_putTail_38 : decode M_Wrap_putTail.2.1 38 = .ok (.goto (-31), 3) := by decide +kernel
theorem d_Wrap_putTail_41 : decode M_Wrap_putTail.2.1 41 = .ok (.aload_n 1, 1) := by decide +kernel
theorem d_Wrap_putTail_42 : decode M_Wrap_putTail.2.1 42 = .ok (.iload_n 3, 1) := by decide +kernel
theorem d_Wrap_putTail_43 : decode M_Wrap_putTail.2.1 43 = .ok (.iconst 2, 1) := by decide +kernel
theorem d_Wrap_putTail_44 : decode M_Wrap_putTail.2.1 44 = .ok (.invokevirtual 29, 3) := by decide +kernel
theorem d_Wrap_putTail_47 : decode M_Wrap_putTail.2.1 47 = .ok (.aload_n 1, 1) := by decide +kernel
theorem d_Wrap_putTail_48 : decode M_Wrap_putTail.2.1 48 = .ok (.iload_n 2, 1) := by decide +kernel
theorem d_Wrap_putTail_49 : decode M_Wrap_putTail.2.1 49 = .ok (.iconst 2, 1) := by decide +kernel
theorem d_Wrap_putTail_50 : decode M_Wrap_putTail.2.1 50 = .ok (.invokevirtual 29, 3) := by decide +kernel
theorem d_Wrap_putTail_53 : decode M_Wrap_putTail.2.1 53 = .ok (.return_, 1) := by decide +kernel
def f_Wrap_putTail (x0 : Nat) (x1 : Nat) (c : cM) (K : cM → Prop) : Prop :=
  ∃ I1 : Nat → Int32 → Int32 → Int32 → cM → Prop, (∃ n, I1 n 1 0 0 c) ∧ ∀ (n2 : Nat) (y5 : Int32) (y6 : Int32) (y7 : Int32) (c8 : cM), I1 n2 y5 y6 y7 c8 → (kd x0 = 1 ∧ ((((c8 x0 1) ≤ y7) → (kd x1 = 1 ∧ (f_Row_putHighFirst x1 y6 2 c8 (fun c12 => f_Row_putHighFirst x1 y5 2 c12 (fun c13 => K c13))))) ∧ (¬ ((c8 x0 1) ≤ y7) → (f_Row_at x0 y7 c8 (fun v15 c14 => ∃ m, m < n2 ∧ I1 m (c_rem (y5 + v15) 65521) (c_rem (y6 + (c_rem (y5 + v15) 65521)) 65521) (y7 + 1) c14)))))
theorem c_Wrap_putTail {x0 : Nat} {x1 : Nat} {c : cM} {K : cM → Prop} (h : f_Wrap_putTail x0 x1 c K) : Ct M_Wrap_putTail 2 0 0 (wd c) [.ref x0, .ref x1] (PoV K) := by
  refine Ct.of (by decide +kernel) (Nat.le_of_ble_eq_true rfl) (fun Z T => ?_)
  have F := T.F
  unfold f_Wrap_putTail at h
  show Z (wd c) 0 [(0, .ref x0), (1, .ref x1)] [] 0 0
  refine g_iconst (v := 1) F (pc := 0) d_Wrap_putTail_0 (by decide) (g_istore_n (lv' := [(2, .int 1), (0, .ref x0), (1, .ref x1)]) F (pc := 1) d_Wrap_putTail_1 (by decide) rfl (g_iconst (v := 0) F (pc := 2) d_Wrap_putTail_2 (by decide) (g_istore_n (lv' := [(3, .int 0), (2, .int 1), (0, .ref x0), (1, .ref x1)]) F (pc := 3) d_Wrap_putTail_3 (by decide) rfl (g_iconst (v := 0) F (pc := 4) d_Wrap_putTail_4 (by decide) (g_istore (lv' := [(4, .int 0), (3, .int 0), (2, .int 1), (0, .ref x0), (1, .ref x1)]) F (pc := 5) d_Wrap_putTail_5 (by decide) rfl ?_)))))
  refine g_lv (lv' := [(0, .ref x0), (1, .ref x1), (2, .int 1), (3, .int 0), (4, .int 0)]) F [3, 4, 2, 1, 0] rfl ?_
  obtain ⟨I1, ⟨n0, h⟩, hI1⟩ := h
  have lp4 : ∀ (n2 : Nat) (y5 : Int32) (y6 : Int32) (y7 : Int32) (c8 : cM), I1 n2 y5 y6 y7 c8 → Z (wd c8) 7 [(0, .ref x0), (1, .ref x1), (2, .int y5), (3, .int y6), (4, .int y7)] [] 0 0 := by
    intro n2
    induction n2 using Nat.strongRecOn with
    | _ n2 ih3 =>
      intro y5 y6 y7 c8 h
      replace h := hI1 n2 y5 y6 y7 c8 h
      refine g_iload F (pc := 7) d_Wrap_putTail_7 4 rfl (g_aload_n F (pc := 9) d_Wrap_putTail_9 0 rfl ?_)
      obtain ⟨o9, h⟩ := h
      refine gc_getI F (pc := 10) d_Wrap_putTail_10 fi_Wrap_18 o9 ?_
      refine g_icmp_ge (tgt := 41) F (pc := 13) d_Wrap_putTail_13 (by decide) (fun b10 => ?_) (fun b10 => ?_)
      · replace h := h.1 b10
        refine g_aload_n F (pc := 41) d_Wrap_putTail_41 1 rfl (g_iload_n F (pc := 42) d_Wrap_putTail_42 3 rfl (g_iconst (v := 2) F (pc := 43) d_Wrap_putTail_43 (by decide) ?_))
        obtain ⟨o11, h⟩ := h
        refine gc_callVV (As := [.int y6, .int 2]) (st := []) F (pc := 44) d_Wrap_putTail_44 cb_Wrap_29 iv_Row_putHighFirst np_Row_putHighFirst o11 vc_1 (c_Row_putHighFirst h) rfl (by decide) (Nat.le_refl _) (Nat.le_refl _) (Nat.le_of_ble_eq_true rfl) (fun c12 h => ?_)
        refine g_aload_n F (pc := 47) d_Wrap_putTail_47 1 rfl (g_iload_n F (pc := 48) d_Wrap_putTail_48 2 rfl (g_iconst (v := 2) F (pc := 49) d_Wrap_putTail_49 (by decide) ?_))
        refine gc_callVV (As := [.int y5, .int 2]) (st := []) F (pc := 50) d_Wrap_putTail_50 cb_Wrap_29 iv_Row_putHighFirst np_Row_putHighFirst o11 vc_1 (c_Row_putHighFirst h) rfl (by decide) (Nat.le_refl _) (Nat.le_refl _) (Nat.le_of_ble_eq_true rfl) (fun c13 h => ?_)
        exact g_vret T (pc := 53) d_Wrap_putTail_53 rfl (Nat.le_refl _) (Nat.le_refl _) (poV h)
      · replace h := h.2 b10
        refine g_iload_n F (pc := 16) d_Wrap_putTail_16 2 rfl (g_aload_n F (pc := 17) d_Wrap_putTail_17 0 rfl (g_iload F (pc := 18) d_Wrap_putTail_18 4 rfl ?_))
        refine gc_callVI (As := [.int y7]) (st := [.int y5]) F (pc := 20) d_Wrap_putTail_20 cb_Wrap_22 iv_Row_at np_Row_at o9 vc_1 (c_Row_at h) rfl (by decide) (Nat.le_refl _) (Nat.le_refl _) (Nat.le_of_ble_eq_true rfl) (fun v15 c14 h => ?_)
        refine g_iadd F (pc := 23) d_Wrap_putTail_23 (g_ldc F (pc := 24) d_Wrap_putTail_24 kc_Wrap_28 (g_irem F (pc := 26) d_Wrap_putTail_26 (by decide) (g_istore_n (lv' := [(2, .int (c_rem (y5 + v15) 65521)), (0, .ref x0), (1, .ref x1), (3, .int y6), (4, .int y7)]) F (pc := 27) d_Wrap_putTail_27 (by decide) rfl (g_iload_n F (pc := 28) d_Wrap_putTail_28 3 rfl (g_iload_n F (pc := 29) d_Wrap_putTail_29 0 rfl ?_)))))
        refine g_iadd F (pc := 30) d_Wrap_putTail_30 (g_ldc F (pc := 31) d_Wrap_putTail_31 kc_Wrap_28 (g_irem F (pc := 33) d_Wrap_putTail_33 (by decide) (g_istore_n (lv' := [(3, .int (c_rem (y6 + (c_rem (y5 + v15) 65521)) 65521)), (2, .int (c_rem (y5 + v15) 65521)), (0, .ref x0), (1, .ref x1), (4, .int y7)]) F (pc := 34) d_Wrap_putTail_34 (by decide) rfl (g_iinc (v := (y7 + 1)) (lv' := [(4, .int (y7 + 1)), (3, .int (c_rem (y6 + (c_rem (y5 + v15) 65521)) 65521)), (2, .int (c_rem (y5 + v15) 65521)), (0, .ref x0), (1, .ref x1)]) F (pc := 35) d_Wrap_putTail_35 4 rfl (sk_inc (by decide)) (by decide) rfl (g_goto (tgt := 7) F (pc := 38) d_Wrap_putTail_38 (by decide) ?_)))))
        refine g_lv (lv' := [(0, .ref x0), (1, .ref x1), (2, .int (c_rem (y5 + v15) 65521)), (3, .int (c_rem (y6 + (c_rem (y5 + v15) 65521)) 65521)), (4, .int (y7 + 1))]) F [3, 4, 2, 1, 0] rfl ?_
        obtain ⟨m, hm, h⟩ := h
        exact ih3 m hm _ _ _ _ h
  exact lp4 n0 _ _ _ _ h
theorem d_Wrap_putHead_0 : decode M_Wrap_putHead.2.1 0 = .ok (.aload_n 1, 1) := by decide +kernel
theorem d_Wrap_putHead_1 : decode M_Wrap_putHead.2.1 1 = .ok (.bipush 120, 2) := by decide +kernel
theorem d_Wrap_putHead_3 : decode M_Wrap_putHead.2.1 3 = .ok (.invokevirtual 7, 3) := by decide +kernel
theorem d_Wrap_putHead_6 : decode M_Wrap_putHead.2.1 6 = .ok (.aload_n 1, 1) := by decide +kernel
theorem d_Wrap_putHead_7 : decode M_Wrap_putHead.2.1 7 = .ok (.iconst 1, 1) := by decide +kernel
theorem d_Wrap_putHead_8 : decode M_Wrap_putHead.2.1 8 = .ok (.invokevirtual 7, 3) := by decide +kernel
theorem d_Wrap_putHead_11 : decode M_Wrap_putHead.2.1 11 = .ok (.aload_n 1, 1) := by decide +kernel
theorem d_Wrap_putHead_12 : decode M_Wrap_putHead.2.1 12 = .ok (.iconst 1, 1) := by decide +kernel
theorem d_Wrap_putHead_13 : decode M_Wrap_putHead.2.1 13 = .ok (.invokevirtual 7, 3) := by decide +kernel
theorem d_Wrap_putHead_16 : decode M_Wrap_putHead.2.1 16 = .ok (.aload_n 1, 1) := by decide +kernel
theorem d_Wrap_putHead_17 : decode M_Wrap_putHead.2.1 17 = .ok (.iload_n 0, 1) := by decide +kernel
theorem d_Wrap_putHead_18 : decode M_Wrap_putHead.2.1 18 = .ok (.iconst 2, 1) := by decide +kernel
theorem d_Wrap_putHead_19 : decode M_Wrap_putHead.2.1 19 = .ok (.invokevirtual 13, 3) := by decide +kernel
theorem d_Wrap_putHead_22 : decode M_Wrap_putHead.2.1 22 = .ok (.aload_n 1, 1) := by decide +kernel
theorem d_Wrap_putHead_23 : decode M_Wrap_putHead.2.1 23 = .ok (.ldc 17, 2) := by decide +kernel
theorem d_Wrap_putHead_25 : decode M_Wrap_putHead.2.1 25 = .ok (.iload_n 0, 1) := by decide +kernel
theorem d_Wrap_putHead_26 : decode M_Wrap_putHead.2.1 26 = .ok (.isub, 1) := by decide +kernel
theorem d_Wrap_putHead_27 : decode M_Wrap_putHead.2.1 27 = .ok (.iconst 2, 1) := by decide +kernel
theorem d_Wrap_putHead_28 : decode M_Wrap_putHead.2.1 28 = .ok (.invokevirtual 13, 3) := by decide +kernel
theorem d_Wrap_putHead_31 : decode M_Wrap_putHead.2.1 31 = .ok (.return_, 1) := by decide +kernel
def f_Wrap_putHead (x0 : Int32) (x1 : Nat) (c : cM) (K : cM → Prop) : Prop :=
  kd x1 = 1 ∧ (f_Row_put x1 120 c (fun c2 => f_Row_put x1 1 c2 (fun c3 => f_Row_put x1 1 c3 (fun c4 => f_Row_putLowFirst x1 x0 2 c4 (fun c5 => f_Row_putLowFirst x1 (65535 - x0) 2 c5 (fun c6 => K c6))))))
theorem c_Wrap_putHead {x0 : Int32} {x1 : Nat} {c : cM} {K : cM → Prop} (h : f_Wrap_putHead x0 x1 c K) : Ct M_Wrap_putHead 2 0 0 (wd c) [.int x0, .ref x1] (PoV K) := by
  refine Ct.of (by decide +kernel) (Nat.le_of_ble_eq_true rfl) (fun Z T => ?_)
  have F := T.F
  unfold f_Wrap_putHead at h
  show Z (wd c) 0 [(0, .int x0), (1, .ref x1)] [] 0 0
  refine g_aload_n F (pc := 0) d_Wrap_putHead_0 1 rfl (g_bipush (v := 120) F (pc := 1) d_Wrap_putHead_1 (by decide) ?_)
  obtain ⟨o1, h⟩ := h
  refine gc_callVV (As := [.int 120]) (st := []) F (pc := 3) d_Wrap_putHead_3 cb_Wrap_7 iv_Row_put np_Row_put o1 vc_1 (c_Row_put h) rfl (by decide) (Nat.le_refl _) (Nat.le_refl _) (Nat.le_of_ble_eq_true rfl) (fun c2 h => ?_)
  refine g_aload_n F (pc := 6) d_Wrap_putHead_6 1 rfl (g_iconst (v := 1) F (pc := 7) d_Wrap_putHead_7 (by decide) ?_)
  refine gc_callVV (As := [.int 1]) (st := []) F (pc := 8) d_Wrap_putHead_8 cb_Wrap_7 iv_Row_put np_Row_put o1 vc_1 (c_Row_put h) rfl (by decide) (Nat.le_refl _) (Nat.le_refl _) (Nat.le_of_ble_eq_true rfl) (fun c3 h => ?_)
  refine g_aload_n F (pc := 11) d_Wrap_putHead_11 1 rfl (g_iconst (v := 1) F (pc := 12) d_Wrap_putHead_12 (by decide) ?_)
  refine gc_callVV (As := [.int 1]) (st := []) F (pc := 13) d_Wrap_putHead_13 cb_Wrap_7 iv_Row_put np_Row_put o1 vc_1 (c_Row_put h) rfl (by decide) (Nat.le_refl _) (Nat.le_refl _) (Nat.le_of_ble_eq_true rfl) (fun c4 h => ?_)
  refine g_aload_n F (pc := 16) d_Wrap_putHead_16 1 rfl (g_iload_n F (pc := 17) d_Wrap_putHead_17 0 rfl (g_iconst (v := 2) F (pc := 18) d_Wrap_putHead_18 (by decide) ?_))
  refine gc_callVV (As := [.int x0, .int 2]) (st := []) F (pc := 19) d_Wrap_putHead_19 cb_Wrap_13 iv_Row_putLowFirst np_Row_putLowFirst o1 vc_1 (c_Row_putLowFirst h) rfl (by decide) (Nat.le_refl _) (Nat.le_refl _) (Nat.le_of_ble_eq_true rfl) (fun c5 h => ?_)
  refine g_aload_n F (pc := 22) d_Wrap_putHead_22 1 rfl (g_ldc F (pc := 23) d_Wrap_putHead_23 kc_Wrap_17 (g_iload_n F (pc := 25) d_Wrap_putHead_25 0 rfl (g_isub F (pc := 26) d_Wrap_putHead_26 (g_iconst (v := 2) F (pc := 27) d_Wrap_putHead_27 (by decide) ?_))))
  refine gc_callVV (As := [.int (65535 - x0), .int 2]) (st := []) F (pc := 28) d_Wrap_putHead_28 cb_Wrap_13 iv_Row_putLowFirst np_Row_putLowFirst o1 vc_1 (c_Row_putLowFirst h) rfl (by decide) (Nat.le_refl _) (Nat.le_refl _) (Nat.le_of_ble_eq_true rfl) (fun c6 h => ?_)
  exact g_vret T (pc := 31) d_Wrap_putHead_31 rfl (Nat.le_refl _) (Nat.le_refl _) (poV h)
theorem d_Diff_carryOut_0 : decode M_Diff_carryOut.2.1 0 = .ok (.aload_n 0, 1) := by decide +kernel
theorem d_Diff_carryOut_1 : decode M_Diff_carryOut.2.1 1 = .ok (.getfield 14, 3) := by decide +kernel
theorem d_Diff_carryOut_4 : decode M_Diff_carryOut.2.1 4 = .ok (.iconst 2, 1) := by decide +kernel
theorem d_Diff_carryOut_5 : decode M_Diff_carryOut.2.1 5 = .ok (.if_icmp .lt 15, 3) := by decide +kernel
theorem d_Diff_carryOut_8 : decode M_Diff_carryOut.2.1 8 = .ok (.aload_n 0, 1) := by decide +kernel
theorem d_Diff_carryOut_9 : decode M_Diff_carryOut.2.1 9 = .ok (.iconst 0, 1) := by decide +kernel
theorem d_Diff_carryOut_10 : decode M_Diff_carryOut.2.1 10 = .ok (.invokevirtual 44, 3) := by decide +kernel
theorem d_Diff_carryOut_13 : decode M_Diff_carryOut.2.1 13 = .ok (.aload_n 1, 1) := by decide +kernel
theorem d_Diff_carryOut_14 : decode M_Diff_carryOut.2.1 14 = .ok (.getfield 14, 3) := by decide +kernel
theorem d_Diff_carryOut_17 : decode M_Diff_carryOut.2.1 17 = .ok (.if_icmp .eq 5, 3) := by decide +kernel
theorem d_Diff_carryOut_20 : decode M_Diff_carryOut.2.1 20 = .ok (.iconst 0, 1) := by decide +kernel
theorem d_Diff_carryOut_21 : decode M_Diff_carryOut.2.1 21 = .ok (.ireturn, 1) := by decide +kernel
theorem d_Diff_carryOut_22 : decode M_Diff_carryOut.2.1 22 = .ok (.iconst 2, 1) := by decide +kernel
theorem d_Diff_carryOut_23 : decode M_Diff_carryOut.2.1 23 = .ok (.istore_n 3, 1) := by decide +kernel
theorem d_Diff_carryOut_24 : decode M_Diff_carryOut.2.1 24 = .ok (.iload_n 3, 1) := by decide +kernel
theorem d_Diff_carryOut_25 : decode M_Diff_carryOut.2.1 25 = .ok (.aload_n 0, 1) := by decide +kernel
theorem d_Diff_carryOut_26 : decode M_Diff_carryOut.2.1 26 = .ok (.getfield 14, 3) := by decide +kernel
theorem d_Diff_carryOut_29 : decode M_Diff_carryOut.2.1 29 = .ok (.if_icmp .ge 94, 3) := by decide +kernel
theorem d_Diff_carryOut_32 : decode M_Diff_carryOut.2.1 32 = .ok (.aload_n 0, 1) := by decide +kernel
theorem d_Diff_carryOut_33 : decode M_Diff_carryOut.2.1 33 = .ok (.iload_n 3, 1) := by decide +kernel
theorem d_Diff_carryOut_34 : decode M_Diff_carryOut.2.1 34 = .ok (.invokevirtual 44, 3) := by decide +kernel
theorem d_Diff_carryOut_37 : decode M_Diff_carryOut.2.1 37 = .ok (.istore 4, 2) := by decide +kernel
theorem d_Diff_carryOut_39 : decode M_Diff_carryOut.2.1 39 = .ok (.iload 4, 2) := by decide +kernel
theorem d_Diff_carryOut_41 : decode M_Diff_carryOut.2.1 41 = .ok (.sipush 145, 3) := by decide +kernel
theorem d_Diff_carryOut_44 : decode M_Diff_carryOut.2.1 44 = .ok (.if_icmp .ne 30, 3) := by decide +kernel
theorem d_Diff_carryOut_47 : decode M_Diff_carryOut.2.1 47 = .ok (.aload_n 2, 1) := by decide +kernel
theorem d_Diff_carryOut_48 : decode M_Diff_carryOut.2.1 48 = .ok (.aload_n 1, 1) := by decide +kernel
theorem d_Diff_carryOut_49 : decode M_Diff_carryOut.2.1 49 = .ok (.aload_n 0, 1) := by decide +kernel
theorem d_Diff_carryOut_50 : decode M_Diff_carryOut.2.1 50 = .ok (.iload_n 3, 1) := by decide +kernel
theorem d_Diff_carryOut_51 : decode M_Diff_carryOut.2.1 51 = .ok (.iconst 1, 1) := by decide +kernel
theorem d_Diff_carryOut_52 : decode M_Diff_carryOut.2.1 52 = .ok (.iadd, 1) := by decide +kernel
theorem d_Diff_carryOut_53 : decode M_Diff_carryOut.2.1 53 = .ok (.invokevirtual 44, 3) := by decide +kernel
theorem d_Diff_carryOut_56 : decode M_Diff_carryOut.2.1 56 = .ok (.aload_n 0, 1) := by decide +kernel
theorem d_Diff_carryOut_57 : decode M_Diff_carryOut.2.1 57 = .ok (.iload_n 3, 1) := by decide +kernel
theorem d_Diff_carryOut_58 : decode M_Diff_carryOut.2.1 58 = .ok (.iconst 2, 1) := by decide +kernel
theorem d_Diff_carryOut_59 : decode M_Diff_carryOut.2.1 59 = .ok (.iadd, 1) := by decide +kernel
theorem d_Diff_carryOut_60 : decode M_Diff_carryOut.2.1 60 = .ok (.invokevirtual 44, 3) := by decide +kernel
theorem d_Diff_carryOut_63 : decode M_Diff_carryOut.2.1 63 = .ok (.invokevirtual 36, 3) := by decide +kernel
theorem d_Diff_carryOut_66 : decode M_Diff_carryOut.2.1 66 = .ok (.istore 5, 2) := by decide +kernel
theorem d_Diff_carryOut_68 : decode M_Diff_carryOut.2.1 68 = .ok (.iinc 3 3, 3) := by decide +kernel
theorem d_Diff_carryOut_71 : decode M_Diff_carryOut.2.1 71 = .ok (.goto 42, 3) := by decide +kernel
theorem d_Diff_carryOut_74 : decode M_Diff_carryOut.2.1 74 = .ok (.iload 4, 2) := by decide +kernel
theorem d_Diff_carryOut_76 : decode M_Diff_carryOut.2.1 76 = .ok (.ifCond .le 27, 3) := by decide +kernel
theorem d_Diff_carryOut_79 : decode M_Diff_carryOut.2.1 79 = .ok (.iload 4, 2) := by decide +kernel
theorem d_Diff_carryOut_81 : decode M_Diff_carryOut.2.1 81 = .ok (.bipush 127, 2) := by decide +kernel
theorem d_Diff_carryOut_83 : decode M_Diff_carryOut.2.1 83 = .ok (.if_icmp .gt 20, 3) := by decide +kernel
theorem d_Diff_carryOut_86 : decode M_Diff_carryOut.2.1 86 = .ok (.aload_n 2, 1) := by decide +kernel
theorem d_Diff_carryOut_87 : decode M_Diff_carryOut.2.1 87 = .ok (.aload_n 0, 1) := by decide +kernel
theorem d_Diff_carryOut_88 : decode M_Diff_carryOut.2.1 88 = .ok (.iload_n 3, 1) := by decide +kernel
theorem d_Diff_carryOut_89 : decode M_Diff_carryOut.2.1 89 = .ok (.iconst 1, 1) := by decide +kernel
theorem d_Diff_carryOut_90 : decode M_Diff_carryOut.2.1 90 = .ok (.iadd, 1) := by decide +kernel
theorem d_Diff_carryOut_91 : decode M_Diff_carryOut.2.1 91 = .ok (.iload 4, 2) := by decide +kernel
theorem d_Diff_carryOut_93 : decode M_Diff_carryOut.2.1 93 = .ok (.invokevirtual 36, 3) := by decide +kernel
theorem d_Diff_carryOut_96 : decode M_Diff_carryOut.2.1 96 = .ok (.ifCond .eq 7, 3) := by decide +kernel
theorem d_Diff_carryOut_99 : decode M_Diff_carryOut.2.1 99 = .ok (.iconst 1, 1) := by decide +kernel
theorem d_Diff_carryOut_100 : decode M_Diff_carryOut.2.1 100 = .ok (.goto 4, 3) := by decide +kernel
theorem d_Diff_carryOut_103 : decode M_Diff_carryOut.2.1 103 = .ok (.iconst 0, 1) := by decide +kernel
theorem d_Diff_carryOut_104 : decode M_Diff_carryOut.2.1 104 = .ok (.istore 5, 2) := by decide +kernel
theorem d_Diff_carryOut_106 : decode M_Diff_carryOut.2.1 106 = .ok (.iload_n 3, 1) := by decide +kernel
theorem d_Diff_carryOut_107 : decode M_Diff_carryOut.2.1 107 = .ok (.iconst 1, 1) := by decide +kernel
theorem d_Diff_carryOut_108 : decode M_Diff_carryOut.2.1 108 = .ok (.iload 4, 2) := by decide +kernel
theorem d_Diff_carryOut_110 : decode M_Diff_carryOut.2.1 110 = .ok (.iadd, 1) := by decide +kernel
theorem d_Diff_carryOut_111 : decode M_Diff_carryOut.2.1 111 = .ok (.iadd, 1) := by decide +kernel
theorem d_Diff_carryOut_112 : decode M_Diff_carryOut.2.1 112 = .ok (.istore_n 3, 1) := by decide +kernel
theorem d_Diff_carryOut_113 : decode M_Diff_carryOut.2.1 113 = .ok (.iload 5, 2) := by decide +kernel
theorem d_Diff_carryOut_115 : decode M_Diff_carryOut.2.1 115 = .ok (.ifCond .ne 5, 3) := by decide +kernel
theorem d_Diff_carryOut_118 : decode M_Diff_carryOut.2.1 118 = .ok (.iconst 0, 1) := by decide +kernel
theorem d_Diff_carryOut_119 : decode M_Diff_carryOut.2.1 119 = .ok (.ireturn, 1) := by decide +kernel
theorem d_Diff_carryOut_120 : decode M_Diff_carryOut.2.1 120 = .ok (.goto (-96), 3) := by decide +kernel
theorem d_Diff_carryOut_123 : decode M_Diff_carryOut.2.1 123 = .ok (.aload_n 2, 1) := by decide +kernel
theorem d_Diff_carryOut_124 : decode M_Diff_carryOut.2.1 124 = .ok (.getfield 14, 3) := by decide +kernel
theorem d_Diff_carryOut_127 : decode M_Diff_carryOut.2.1 127 = .ok (.aload_n 0, 1) := by decide +kernel
theorem d_Diff_carryOut_128 : decode M_Diff_carryOut.2.1 128 = .ok (.iconst 1, 1) := by decide +kernel
theorem d_Diff_carryOut_129 : decode M_Diff_carryOut.2.1 129 = .ok (.invokevirtual 44, 3) := by decide +kernel
theorem d_Diff_carryOut_132 : decode M_Diff_carryOut.2.1 132 = .ok (.if_icmp .ne 7, 3) := by decide +kernel
theorem d_Diff_carryOut_135 : decode M_Diff_carryOut.2.1 135 = .ok (.iconst 1, 1) := by decide +kernel
theorem d_Diff_carryOut_136 : decode M_Diff_carryOut.2.1 136 = .ok (.goto 4, 3) := by decide +kernel
theorem d_Diff_carryOut_139 : decode M_Diff_carryOut.2.1 139 = .ok (.iconst 0, 1) := by decide +kernel
theorem d_Diff_carryOut_140 : decode M_Diff_carryOut.2.1 140 = .ok (.ireturn, 1) := by decide +kernel
def f_Diff_carryOut (x0 : Nat) (x1 : Nat) (x2 : Nat) (c : cM) (K : Int32 → cM → Prop) : Prop :=
  kd x0 = 1 ∧ ((((c x0 1) < 2) → (K 0 c)) ∧ (¬ ((c x0 1) < 2) → (f_Row_at x0 0 c (fun v4 c3 => kd x1 = 1 ∧ (((v4 = (c3 x1 1)) → (∃ I7 : Nat → Int32 → cM → Prop, (∃ n, I7 n 2 c3) ∧ ∀ (n8 : Nat) (y11 : Int32) (c12 : cM), I7 n8 y11 c12 → ((((c12 x0 1) ≤ y11) → (kd x2 = 1 ∧ (f_Row_at x0 1 c12 (fun v16 c15 => ((¬ (c12 x2 1) = v16) → (K 0 c15)) ∧ ((c12 x2 1) = v16 → (K 1 c15)))))) ∧ (¬ ((c12 x0 1) ≤ y11) → (f_Row_at x0 y11 c12 (fun v19 c18 => ∃ J37 : Int32 → Int32 → cM → Prop, (∀ (y34 : Int32) (y35 : Int32) (c36 : cM), J37 y34 y35 c36 → (((¬ y35 = 0) → (∃ m, m < n8 ∧ I7 m y34 c36)) ∧ (y35 = 0 → (K 0 c36)))) ∧ (((¬ v19 = 145) → (∃ J48 : Int32 → cM → Prop, (∀ (s46 : Int32) (c47 : cM), J48 s46 c47 → (J37 (y11 + (1 + v19)) s46 c47)) ∧ (∃ J56 : cM → Prop, (∀ (c55 : cM), J56 c55 → (J48 0 c55)) ∧ (((v19 ≤ 0) → (J56 c18)) ∧ (¬ (v19 ≤ 0) → (((127 < v19) → (J56 c18)) ∧ (¬ (127 < v19) → (kd x2 = 1 ∧ (f_Row_putPart x2 x0 (y11 + 1) v19 c18 (fun v61 c60 => ((v61 = 0) → (J56 c60)) ∧ (¬ (v61 = 0) → (J48 1 c60)))))))))))) ∧ (v19 = 145 → (f_Row_at x0 (y11 + 1) c18 (fun v64 c63 => f_Row_at x0 (y11 + 2) c63 (fun v66 c65 => kd x2 = 1 ∧ (f_Row_putPart x2 x1 v64 v66 c65 (fun v69 c68 => J37 (y11 + 3) v69 c68))))))))))))) ∧ (¬ (v4 = (c3 x1 1)) → (K 0 c3)))))))
theorem c_Diff_carryOut {x0 : Nat} {x1 : Nat} {x2 : Nat} {c : cM} {K : Int32 → cM → Prop} (h : f_Diff_carryOut x0 x1 x2 c K) : Ct M_Diff_carryOut 2 0 0 (wd c) [.ref x0, .ref x1, .ref x2] (PoI K) := by
  refine Ct.of (by decide +kernel) (Nat.le_of_ble_eq_true rfl) (fun Z T => ?_)
  have F := T.F
  unfold f_Diff_carryOut at h
  show Z (wd c) 0 [(0, .ref x0), (1, .ref x1), (2, .ref x2)] [] 0 0
  refine g_aload_n F (pc := 0) d_Diff_carryOut_0 0 rfl ?_
  obtain ⟨o1, h⟩ := h
  refine gc_getI F (pc := 1) d_Diff_carryOut_1 fi_Diff_14 o1 (g_iconst (v := 2) F (pc := 4) d_Diff_carryOut_4 (by decide) ?_)
  refine g_icmp_lt (tgt := 20) F (pc := 5) d_Diff_carryOut_5 (by decide) (fun b2 => ?_) (fun b2 => ?_)
  · replace h := h.1 b2
    refine g_iconst (v := 0) F (pc := 20) d_Diff_carryOut_20 (by decide) ?_
    exact g_zret T (pc := 21) d_Diff_carryOut_21 rfl (by decide) (Nat.le_refl _) (Nat.le_refl _) (poI h)
  · replace h := h.2 b2
    refine g_aload_n F (pc := 8) d_Diff_carryOut_8 0 rfl (g_iconst (v := 0) F (pc := 9) d_Diff_carryOut_9 (by decide) ?_)
    refine gc_callVI (As := [.int 0]) (st := []) F (pc := 10) d_Diff_carryOut_10 cb_Diff_44 iv_Row_at np_Row_at o1 vc_1 (c_Row_at h) rfl (by decide) (Nat.le_refl _) (Nat.le_refl _) (Nat.le_of_ble_eq_true rfl) (fun v4 c3 h => ?_)
    refine g_aload_n F (pc := 13) d_Diff_carryOut_13 1 rfl ?_
    obtain ⟨o5, h⟩ := h
    refine gc_getI F (pc := 14) d_Diff_carryOut_14 fi_Diff_14 o5 ?_
    refine g_icmp_eq (tgt := 22) F (pc := 17) d_Diff_carryOut_17 (by decide) (fun b6 => ?_) (fun b6 => ?_)
    · replace h := h.1 b6
      refine g_iconst (v := 2) F (pc := 22) d_Diff_carryOut_22 (by decide) (g_istore_n (lv' := [(3, .int 2), (0, .ref x0), (1, .ref x1), (2, .ref x2)]) F (pc := 23) d_Diff_carryOut_23 (by decide) rfl ?_)
      refine g_lv (lv' := [(0, .ref x0), (1, .ref x1), (2, .ref x2), (3, .int 2)]) F [1, 2, 3, 0] rfl ?_
      obtain ⟨I7, ⟨n0, h⟩, hI7⟩ := h
      have lp10 : ∀ (n8 : Nat) (y11 : Int32) (c12 : cM), I7 n8 y11 c12 → Z (wd c12) 24 [(0, .ref x0), (1, .ref x1), (2, .ref x2), (3, .int y11)] [] 0 0 := by
        intro n8
        induction n8 using Nat.strongRecOn with
        | _ n8 ih9 =>
          intro y11 c12 h
          replace h := hI7 n8 y11 c12 h
          refine g_iload_n F (pc := 24) d_Diff_carryOut_24 3 rfl (g_aload_n F (pc := 25) d_Diff_carryOut_25 0 rfl (gc_getI F (pc := 26) d_Diff_carryOut_26 fi_Diff_14 o1 ?_))
          refine g_icmp_ge (tgt := 123) F (pc := 29) d_Diff_carryOut_29 (by decide) (fun b13 => ?_) (fun b13 => ?_)
          · replace h := h.1 b13
            refine g_aload_n F (pc := 123) d_Diff_carryOut_123 2 rfl ?_
            obtain ⟨o14, h⟩ := h
            refine gc_getI F (pc := 124) d_Diff_carryOut_124 fi_Diff_14 o14 (g_aload_n F (pc := 127) d_Diff_carryOut_127 0 rfl (g_iconst (v := 1) F (pc := 128) d_Diff_carryOut_128 (by decide) ?_))
            refine gc_callVI (As := [.int 1]) (st := [.int (c12 x2 1)]) F (pc := 129) d_Diff_carryOut_129 cb_Diff_44 iv_Row_at np_Row_at o1 vc_1 (c_Row_at h) rfl (by decide) (Nat.le_refl _) (Nat.le_refl _) (Nat.le_of_ble_eq_true rfl) (fun v16 c15 h => ?_)
            refine g_icmp_ne (tgt := 139) F (pc := 132) d_Diff_carryOut_132 (by decide) (fun b17 => ?_) (fun b17 => ?_)
            · replace h := h.1 b17
              refine g_iconst (v := 0) F (pc := 139) d_Diff_carryOut_139 (by decide) ?_
              exact g_zret T (pc := 140) d_Diff_carryOut_140 rfl (by decide) (Nat.le_refl _) (Nat.le_refl _) (poI h)
            · replace h := h.2 b17
              refine g_iconst (v := 1) F (pc := 135) d_Diff_carryOut_135 (by decide) (g_goto (tgt := 140) F (pc := 136) d_Diff_carryOut_136 (by decide) ?_)
              exact g_zret T (pc := 140) d_Diff_carryOut_140 rfl (by decide) (Nat.le_refl _) (Nat.le_refl _) (poI h)
          · replace h := h.2 b13
            refine g_aload_n F (pc := 32) d_Diff_carryOut_32 0 rfl (g_iload_n F (pc := 33) d_Diff_carryOut_33 3 rfl ?_)
            refine gc_callVI (As := [.int y11]) (st := []) F (pc := 34) d_Diff_carryOut_34 cb_Diff_44 iv_Row_at np_Row_at o1 vc_1 (c_Row_at h) rfl (by decide) (Nat.le_refl _) (Nat.le_refl _) (Nat.le_of_ble_eq_true rfl) (fun v19 c18 h => ?_)
            refine g_istore (lv' := [(4, .int v19), (0, .ref x0), (1, .ref x1), (2, .ref x2), (3, .int y11)]) F (pc := 37) d_Diff_carryOut_37 (by decide) rfl (g_iload F (pc := 39) d_Diff_carryOut_39 0 rfl (g_sipush (v := 145) F (pc := 41) d_Diff_carryOut_41 (by decide) ?_))
            obtain ⟨J37, hJ37, h⟩ := h
            have jn38 : ∀ (y34 : Int32) (y35 : Int32) (c36 : cM), J37 y34 y35 c36 → Z (wd c36) 113 [(0, .ref x0), (1, .ref x1), (2, .ref x2), (3, .int y34), (5, .int y35)] [] 0 0 := by
              intro y34 y35 c36 h
              replace h := hJ37 y34 y35 c36 h
              refine g_iload F (pc := 113) d_Diff_carryOut_113 4 rfl ?_
              refine g_if_ne (tgt := 120) F (pc := 115) d_Diff_carryOut_115 (by decide) (fun b39 => ?_) (fun b39 => ?_)
              · replace h := h.1 b39
                refine g_goto (tgt := 24) F (pc := 120) d_Diff_carryOut_120 (by decide) ?_
                refine g_lv (lv' := [(0, .ref x0), (1, .ref x1), (2, .ref x2), (3, .int y34)]) F [0, 1, 2, 3] rfl ?_
                obtain ⟨m, hm, h⟩ := h
                exact ih9 m hm _ _ h
              · replace h := h.2 b39
                refine g_iconst (v := 0) F (pc := 118) d_Diff_carryOut_118 (by decide) ?_
                exact g_zret T (pc := 119) d_Diff_carryOut_119 rfl (by decide) (Nat.le_refl _) (Nat.le_refl _) (poI h)
            refine g_icmp_ne (tgt := 74) F (pc := 44) d_Diff_carryOut_44 (by decide) (fun b20 => ?_) (fun b20 => ?_)
            · replace h := h.1 b20
              refine g_iload F (pc := 74) d_Diff_carryOut_74 0 rfl ?_
              obtain ⟨J48, hJ48, h⟩ := h
              have jn49 : ∀ (s46 : Int32) (c47 : cM), J48 s46 c47 → Z (wd c47) 104 [(0, .ref x0), (1, .ref x1), (2, .ref x2), (3, .int y11), (4, .int v19)] [.int s46] 0 0 := by
                intro s46 c47 h
                replace h := hJ48 s46 c47 h
                refine g_istore (lv' := [(5, .int s46), (0, .ref x0), (1, .ref x1), (2, .ref x2), (3, .int y11), (4, .int v19)]) F (pc := 104) d_Diff_carryOut_104 (by decide) rfl (g_iload_n F (pc := 106) d_Diff_carryOut_106 4 rfl (g_iconst (v := 1) F (pc := 107) d_Diff_carryOut_107 (by decide) (g_iload F (pc := 108) d_Diff_carryOut_108 5 rfl (g_iadd F (pc := 110) d_Diff_carryOut_110 (g_iadd F (pc := 111) d_Diff_carryOut_111 ?_)))))
                refine g_istore_n (lv' := [(3, .int (y11 + (1 + v19))), (5, .int s46), (0, .ref x0), (1, .ref x1), (2, .ref x2), (4, .int v19)]) F (pc := 112) d_Diff_carryOut_112 (by decide) rfl ?_
                refine g_lv (lv' := [(0, .ref x0), (1, .ref x1), (2, .ref x2), (3, .int (y11 + (1 + v19))), (5, .int s46)]) F [2, 3, 4, 0, 1] rfl ?_
                exact jn38 _ _ _ h
              obtain ⟨J56, hJ56, h⟩ := h
              have jn57 : ∀ (c55 : cM), J56 c55 → Z (wd c55) 103 [(0, .ref x0), (1, .ref x1), (2, .ref x2), (3, .int y11), (4, .int v19)] [] 0 0 := by
                intro c55 h
                replace h := hJ56 c55 h
                refine g_iconst (v := 0) F (pc := 103) d_Diff_carryOut_103 (by decide) ?_
                exact jn49 _ _ h
              refine g_if_le (tgt := 103) F (pc := 76) d_Diff_carryOut_76 (by decide) (fun b40 => ?_) (fun b40 => ?_)
              · replace h := h.1 b40
                refine g_lv (lv' := [(0, .ref x0), (1, .ref x1), (2, .ref x2), (3, .int y11), (4, .int v19)]) F [1, 2, 3, 4, 0] rfl ?_
                exact jn57 _ h
              · replace h := h.2 b40
                refine g_iload F (pc := 79) d_Diff_carryOut_79 0 rfl (g_bipush (v := 127) F (pc := 81) d_Diff_carryOut_81 (by decide) ?_)
                refine g_icmp_gt (tgt := 103) F (pc := 83) d_Diff_carryOut_83 (by decide) (fun b58 => ?_) (fun b58 => ?_)
                · replace h := h.1 b58
                  refine g_lv (lv' := [(0, .ref x0), (1, .ref x1), (2, .ref x2), (3, .int y11), (4, .int v19)]) F [1, 2, 3, 4, 0] rfl ?_
                  exact jn57 _ h
                · replace h := h.2 b58
                  refine g_aload_n F (pc := 86) d_Diff_carryOut_86 3 rfl (g_aload_n F (pc := 87) d_Diff_carryOut_87 1 rfl (g_iload_n F (pc := 88) d_Diff_carryOut_88 4 rfl (g_iconst (v := 1) F (pc := 89) d_Diff_carryOut_89 (by decide) (g_iadd F (pc := 90) d_Diff_carryOut_90 (g_iload F (pc := 91) d_Diff_carryOut_91 0 rfl ?_)))))
                  obtain ⟨o59, h⟩ := h
                  refine gc_callVI (As := [.ref x0, .int (y11 + 1), .int v19]) (st := []) F (pc := 93) d_Diff_carryOut_93 cb_Diff_36 iv_Row_putPart np_Row_putPart o59 vc_1 (c_Row_putPart h) rfl (by decide) (Nat.le_refl _) (Nat.le_refl _) (Nat.le_of_ble_eq_true rfl) (fun v61 c60 h => ?_)
                  refine g_if_eq (tgt := 103) F (pc := 96) d_Diff_carryOut_96 (by decide) (fun b62 => ?_) (fun b62 => ?_)
                  · replace h := h.1 b62
                    refine g_lv (lv' := [(0, .ref x0), (1, .ref x1), (2, .ref x2), (3, .int y11), (4, .int v19)]) F [1, 2, 3, 4, 0] rfl ?_
                    exact jn57 _ h
                  · replace h := h.2 b62
                    refine g_iconst (v := 1) F (pc := 99) d_Diff_carryOut_99 (by decide) (g_goto (tgt := 104) F (pc := 100) d_Diff_carryOut_100 (by decide) ?_)
                    refine g_lv (lv' := [(0, .ref x0), (1, .ref x1), (2, .ref x2), (3, .int y11), (4, .int v19)]) F [1, 2, 3, 4, 0] rfl ?_
                    exact jn49 _ _ h
            · replace h := h.2 b20
              refine g_aload_n F (pc := 47) d_Diff_carryOut_47 3 rfl (g_aload_n F (pc := 48) d_Diff_carryOut_48 2 rfl (g_aload_n F (pc := 49) d_Diff_carryOut_49 1 rfl (g_iload_n F (pc := 50) d_Diff_carryOut_50 4 rfl (g_iconst (v := 1) F (pc := 51) d_Diff_carryOut_51 (by decide) (g_iadd F (pc := 52) d_Diff_carryOut_52 ?_)))))
              refine gc_callVI (As := [.int (y11 + 1)]) (st := [.ref x1, .ref x2]) F (pc := 53) d_Diff_carryOut_53 cb_Diff_44 iv_Row_at np_Row_at o1 vc_1 (c_Row_at h) rfl (by decide) (Nat.le_refl _) (Nat.le_refl _) (Nat.le_of_ble_eq_true rfl) (fun v64 c63 h => ?_)
              refine g_aload_n F (pc := 56) d_Diff_carryOut_56 1 rfl (g_iload_n F (pc := 57) d_Diff_carryOut_57 4 rfl (g_iconst (v := 2) F (pc := 58) d_Diff_carryOut_58 (by decide) (g_iadd F (pc := 59) d_Diff_carryOut_59 ?_)))
              refine gc_callVI (As := [.int (y11 + 2)]) (st := [.int v64, .ref x1, .ref x2]) F (pc := 60) d_Diff_carryOut_60 cb_Diff_44 iv_Row_at np_Row_at o1 vc_1 (c_Row_at h) rfl (by decide) (Nat.le_refl _) (Nat.le_refl _) (Nat.le_of_ble_eq_true rfl) (fun v66 c65 h => ?_)
              obtain ⟨o67, h⟩ := h
              refine gc_callVI (As := [.ref x1, .int v64, .int v66]) (st := []) F (pc := 63) d_Diff_carryOut_63 cb_Diff_36 iv_Row_putPart np_Row_putPart o67 vc_1 (c_Row_putPart h) rfl (by decide) (Nat.le_refl _) (Nat.le_refl _) (Nat.le_of_ble_eq_true rfl) (fun v69 c68 h => ?_)
              refine g_istore (lv' := [(5, .int v69), (4, .int v19), (0, .ref x0), (1, .ref x1), (2, .ref x2), (3, .int y11)]) F (pc := 66) d_Diff_carryOut_66 (by decide) rfl (g_iinc (v := (y11 + 3)) (lv' := [(3, .int (y11 + 3)), (5, .int v69), (4, .int v19), (0, .ref x0), (1, .ref x1), (2, .ref x2)]) F (pc := 68) d_Diff_carryOut_68 5 rfl (sk_inc (by decide)) (by decide) rfl (g_goto (tgt := 113) F (pc := 71) d_Diff_carryOut_71 (by decide) ?_))
              refine g_lv (lv' := [(0, .ref x0), (1, .ref x1), (2, .ref x2), (3, .int (y11 + 3)), (5, .int v69)]) F [3, 4, 5, 0, 1] rfl ?_
              exact jn38 _ _ _ h
      exact lp10 n0 _ _ h
    · replace h := h.2 b6
      refine g_iconst (v := 0) F (pc := 20) d_Diff_carryOut_20 (by decide) ?_
      exact g_zret T (pc := 21) d_Diff_carryOut_21 rfl (by decide) (Nat.le_refl _) (Nat.le_refl _) (poI h)
