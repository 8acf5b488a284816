theorem d_Rea_takeWhole_0 : decode M_Rea_takeWhole.2.1 0 = .ok (.aload_n 2, 1) := by decide +kernel
theorem d_Rea_takeWhole_1 : decode M_Rea_takeWhole.2.1 1 = .ok (.iload_n 1, 1) := by decide +kernel
theorem d_Rea_takeWhole_2 : decode M_Rea_takeWhole.2.1 2 = .ok (.invokevirtual 93, 3) := by decide +kernel
theorem d_Rea_takeWhole_5 : decode M_Rea_takeWhole.2.1 5 = .ok (.aload_n 2, 1) := by decide +kernel
theorem d_Rea_takeWhole_6 : decode M_Rea_takeWhole.2.1 6 = .ok (.getfield 96, 3) := by decide +kernel
theorem d_Rea_takeWhole_9 : decode M_Rea_takeWhole.2.1 9 = .ok (.aload_n 0, 1) := by decide +kernel
theorem d_Rea_takeWhole_10 : decode M_Rea_takeWhole.2.1 10 = .ok (.getfield 31, 3) := by decide +kernel
theorem d_Rea_takeWhole_13 : decode M_Rea_takeWhole.2.1 13 = .ok (.iconst 0, 1) := by decide +kernel
theorem d_Rea_takeWhole_14 : decode M_Rea_takeWhole.2.1 14 = .ok (.aload_n 0, 1) := by decide +kernel
theorem d_Rea_takeWhole_15 : decode M_Rea_takeWhole.2.1 15 = .ok (.getfield 31, 3) := by decide +kernel
theorem d_Rea_takeWhole_18 : decode M_Rea_takeWhole.2.1 18 = .ok (.getfield 50, 3) := by decide +kernel
theorem d_Rea_takeWhole_21 : decode M_Rea_takeWhole.2.1 21 = .ok (.invokevirtual 99, 3) := by decide +kernel
theorem d_Rea_takeWhole_24 : decode M_Rea_takeWhole.2.1 24 = .ok (.pop, 1) := by decide +kernel
theorem d_Rea_takeWhole_25 : decode M_Rea_takeWhole.2.1 25 = .ok (.iconst 0, 1) := by decide +kernel
theorem d_Rea_takeWhole_26 : decode M_Rea_takeWhole.2.1 26 = .ok (.ireturn, 1) := by decide +kernel
def f_Rea_takeWhole (x0 : Nat) (x1 : Int32) (x2 : Nat) (c : cM) (K : Int32 → cM → Prop) : Prop :=
  kd x2 = 3 ∧ (f_Thing_begin x2 x1 c (fun c2 => kd x0 = 6 ∧ (kd (rf x0 3) = 1 ∧ (kd (rf x2 1) = 1 ∧ (f_Row_putPart (rf x2 1) (rf x0 3) 0 (c2 (rf x0 3) 1) c2 (fun v7 c6 => K 0 c6))))))
theorem c_Rea_takeWhole {x0 : Nat} {x1 : Int32} {x2 : Nat} {c : cM} {K : Int32 → cM → Prop} (h : f_Rea_takeWhole x0 x1 x2 c K) : Ct M_Rea_takeWhole 2 0 0 (wd c) [.ref x0, .int x1, .ref x2] (PoI K) := by
  refine Ct.of (by decide +kernel) (Nat.le_of_ble_eq_true rfl) (fun Z T => ?_)
  have F := T.F
  unfold f_Rea_takeWhole at h
  show Z (wd c) 0 [(0, .ref x0), (1, .int x1), (2, .ref x2)] [] 0 0
  refine g_aload_n F (pc := 0) d_Rea_takeWhole_0 2 rfl (g_iload_n F (pc := 1) d_Rea_takeWhole_1 1 rfl ?_)
  obtain ⟨o1, h⟩ := h
  refine gc_callVV (As := [.int x1]) (st := []) F (pc := 2) d_Rea_takeWhole_2 cb_Rea_93 iv_Thing_begin np_Thing_begin o1 vc_3 (c_Thing_begin h) rfl (by decide) (Nat.le_refl _) (Nat.le_refl _) (Nat.le_of_ble_eq_true rfl) (fun c2 h => ?_)
  refine g_aload_n F (pc := 5) d_Rea_takeWhole_5 2 rfl (gc_getR F (pc := 6) d_Rea_takeWhole_6 fi_Rea_96 o1 (g_aload_n F (pc := 9) d_Rea_takeWhole_9 0 rfl ?_))
  obtain ⟨o3, h⟩ := h
  refine gc_getR F (pc := 10) d_Rea_takeWhole_10 fi_Rea_31 o3 (g_iconst (v := 0) F (pc := 13) d_Rea_takeWhole_13 (by decide) (g_aload_n F (pc := 14) d_Rea_takeWhole_14 0 rfl (gc_getR F (pc := 15) d_Rea_takeWhole_15 fi_Rea_31 o3 ?_)))
  obtain ⟨o4, h⟩ := h
  refine gc_getI F (pc := 18) d_Rea_takeWhole_18 fi_Rea_50 o4 ?_
  obtain ⟨o5, h⟩ := h
  refine gc_callVI (As := [.ref (rf x0 3), .int 0, .int (c2 (rf x0 3) 1)]) (st := []) F (pc := 21) d_Rea_takeWhole_21 cb_Rea_99 iv_Row_putPart np_Row_putPart o5 vc_1 (c_Row_putPart h) rfl (by decide) (Nat.le_refl _) (Nat.le_refl _) (Nat.le_of_ble_eq_true rfl) (fun v7 c6 h => ?_)
  refine g_pop F (pc := 24) d_Rea_takeWhole_24 rfl (g_iconst (v := 0) F (pc := 25) d_Rea_takeWhole_25 (by decide) ?_)
  exact g_iret T (pc := 26) d_Rea_takeWhole_26 rfl (Nat.le_refl _) (Nat.le_refl _) (poI h)
theorem d_Rea_nextByte_0 : decode M_Rea_nextByte.2.1 0 = .ok (.aload_n 0, 1) := by decide +kernel
theorem d_Rea_nextByte_1 : decode M_Rea_nextByte.2.1 1 = .ok (.getfield 40, 3) := by decide +kernel
theorem d_Rea_nextByte_4 : decode M_Rea_nextByte.2.1 4 = .ok (.aload_n 0, 1) := by decide +kernel
theorem d_Rea_nextByte_5 : decode M_Rea_nextByte.2.1 5 = .ok (.getfield 43, 3) := by decide +kernel
theorem d_Rea_nextByte_8 : decode M_Rea_nextByte.2.1 8 = .ok (.if_icmp .lt 6, 3) := by decide +kernel
theorem d_Rea_nextByte_11 : decode M_Rea_nextByte.2.1 11 = .ok (.bipush (-5), 2) := by decide +kernel
theorem d_Rea_nextByte_13 : decode M_Rea_nextByte.2.1 13 = .ok (.ireturn, 1) := by decide +kernel
theorem d_Rea_nextByte_14 : decode M_Rea_nextByte.2.1 14 = .ok (.aload_n 0, 1) := by decide +kernel
theorem d_Rea_nextByte_15 : decode M_Rea_nextByte.2.1 15 = .ok (.dup, 1) := by decide +kernel
theorem d_Rea_nextByte_16 : decode M_Rea_nextByte.2.1 16 = .ok (.getfield 40, 3) := by decide +kernel
theorem d_Rea_nextByte_19 : decode M_Rea_nextByte.2.1 19 = .ok (.iconst 1, 1) := by decide +kernel
theorem d_Rea_nextByte_20 : decode M_Rea_nextByte.2.1 20 = .ok (.iadd, 1) := by decide +kernel
theorem d_Rea_nextByte_21 : decode M_Rea_nextByte.2.1 21 = .ok (.putfield 40, 3) := by decide +kernel
theorem d_Rea_nextByte_24 : decode M_Rea_nextByte.2.1 24 = .ok (.aload_n 1, 1) := by decide +kernel
theorem d_Rea_nextByte_25 : decode M_Rea_nextByte.2.1 25 = .ok (.aload_n 0, 1) := by decide +kernel
theorem d_Rea_nextByte_26 : decode M_Rea_nextByte.2.1 26 = .ok (.getfield 40, 3) := by decide +kernel
theorem d_Rea_nextByte_29 : decode M_Rea_nextByte.2.1 29 = .ok (.iconst 1, 1) := by decide +kernel
theorem d_Rea_nextByte_30 : decode M_Rea_nextByte.2.1 30 = .ok (.isub, 1) := by decide +kernel
theorem d_Rea_nextByte_31 : decode M_Rea_nextByte.2.1 31 = .ok (.invokevirtual 112, 3) := by decide +kernel
theorem d_Rea_nextByte_34 : decode M_Rea_nextByte.2.1 34 = .ok (.ireturn, 1) := by decide +kernel
def f_Rea_nextByte (x0 : Nat) (x1 : Nat) (c : cM) (K : Int32 → cM → Prop) : Prop :=
  kd x0 = 6 ∧ ((((c x0 5) < (c x0 6)) → (∀ c3 : cM, c3 = c_up c x0 5 ((c x0 5) + 1) → (kd x1 = 1 ∧ (f_Row_at x1 ((c3 x0 5) - 1) c3 (fun v6 c5 => K v6 c5))))) ∧ (¬ ((c x0 5) < (c x0 6)) → (K (-5) c)))
theorem c_Rea_nextByte {x0 : Nat} {x1 : Nat} {c : cM} {K : Int32 → cM → Prop} (h : f_Rea_nextByte x0 x1 c K) : Ct M_Rea_nextByte 1 0 0 (wd c) [.ref x0, .ref x1] (PoI K) := by
  refine Ct.of (by decide +kernel) (Nat.le_of_ble_eq_true rfl) (fun Z T => ?_)
  have F := T.F
  unfold f_Rea_nextByte at h
  show Z (wd c) 0 [(0, .ref x0), (1, .ref x1)] [] 0 0
  refine g_aload_n F (pc := 0) d_Rea_nextByte_0 0 rfl ?_
  obtain ⟨o1, h⟩ := h
  refine gc_getI F (pc := 1) d_Rea_nextByte_1 fi_Rea_40 o1 (g_aload_n F (pc := 4) d_Rea_nextByte_4 0 rfl (gc_getI F (pc := 5) d_Rea_nextByte_5 fi_Rea_43 o1 ?_))
  refine g_icmp_lt (tgt := 14) F (pc := 8) d_Rea_nextByte_8 (by decide) (fun b2 => ?_) (fun b2 => ?_)
  · replace h := h.1 b2
    refine g_aload_n F (pc := 14) d_Rea_nextByte_14 0 rfl (g_dup F (pc := 15) d_Rea_nextByte_15 rfl (gc_getI F (pc := 16) d_Rea_nextByte_16 fi_Rea_40 o1 (g_iconst (v := 1) F (pc := 19) d_Rea_nextByte_19 (by decide) (g_iadd F (pc := 20) d_Rea_nextByte_20 (gc_putI F (pc := 21) d_Rea_nextByte_21 pi_Rea_40 o1 ?_)))))
    obtain ⟨c3, ec3⟩ : ∃ c3 : cM, c3 = c_up c x0 5 ((c x0 5) + 1) := ⟨_, rfl⟩
    rw [← ec3]
    replace h := h c3 ec3
    refine g_aload_n F (pc := 24) d_Rea_nextByte_24 1 rfl (g_aload_n F (pc := 25) d_Rea_nextByte_25 0 rfl (gc_getI F (pc := 26) d_Rea_nextByte_26 fi_Rea_40 o1 (g_iconst (v := 1) F (pc := 29) d_Rea_nextByte_29 (by decide) (g_isub F (pc := 30) d_Rea_nextByte_30 ?_))))
    obtain ⟨o4, h⟩ := h
    refine gc_callVI (As := [.int ((c3 x0 5) - 1)]) (st := []) F (pc := 31) d_Rea_nextByte_31 cb_Rea_112 iv_Row_at np_Row_at o4 vc_1 (c_Row_at h) rfl (by decide) (Nat.le_refl _) (Nat.le_refl _) (Nat.le_of_ble_eq_true rfl) (fun v6 c5 h => ?_)
    exact g_iret T (pc := 34) d_Rea_nextByte_34 rfl (Nat.le_refl _) (Nat.le_refl _) (poI h)
  · replace h := h.2 b2
    refine g_bipush (v := (-5)) F (pc := 11) d_Rea_nextByte_11 (by decide) ?_
    exact g_iret T (pc := 13) d_Rea_nextByte_13 rfl (Nat.le_refl _) (Nat.le_refl _) (poI h)
theorem d_Rea_readOther_0 : decode M_Rea_readOther.2.1 0 = .ok (.aload_n 0, 1) := by decide +kernel
theorem d_Rea_readOther_1 : decode M_Rea_readOther.2.1 1 = .ok (.aload_n 1, 1) := by decide +kernel
theorem d_Rea_readOther_2 : decode M_Rea_readOther.2.1 2 = .ok (.invokevirtual 71, 3) := by decide +kernel
theorem d_Rea_readOther_5 : decode M_Rea_readOther.2.1 5 = .ok (.istore_n 2, 1) := by decide +kernel
theorem d_Rea_readOther_6 : decode M_Rea_readOther.2.1 6 = .ok (.iload_n 2, 1) := by decide +kernel
theorem d_Rea_readOther_7 : decode M_Rea_readOther.2.1 7 = .ok (.ifCond .ge 5, 3) := by decide +kernel
theorem d_Rea_readOther_10 : decode M_Rea_readOther.2.1 10 = .ok (.iload_n 2, 1) := by decide +kernel
theorem d_Rea_readOther_11 : decode M_Rea_readOther.2.1 11 = .ok (.ireturn, 1) := by decide +kernel
theorem d_Rea_readOther_12 : decode M_Rea_readOther.2.1 12 = .ok (.iload_n 2, 1) := by decide +kernel
theorem d_Rea_readOther_13 : decode M_Rea_readOther.2.1 13 = .ok (.sipush 128, 3) := by decide +kernel
theorem d_Rea_readOther_16 : decode M_Rea_readOther.2.1 16 = .ok (.if_icmp .lt 26, 3) := by decide +kernel
theorem d_Rea_readOther_19 : decode M_Rea_readOther.2.1 19 = .ok (.aload_n 0, 1) := by decide +kernel
theorem d_Rea_readOther_20 : decode M_Rea_readOther.2.1 20 = .ok (.aload_n 1, 1) := by decide +kernel
theorem d_Rea_readOther_21 : decode M_Rea_readOther.2.1 21 = .ok (.invokevirtual 71, 3) := by decide +kernel
theorem d_Rea_readOther_24 : decode M_Rea_readOther.2.1 24 = .ok (.istore_n 3, 1) := by decide +kernel
theorem d_Rea_readOther_25 : decode M_Rea_readOther.2.1 25 = .ok (.iload_n 3, 1) := by decide +kernel
theorem d_Rea_readOther_26 : decode M_Rea_readOther.2.1 26 = .ok (.ifCond .ge 5, 3) := by decide +kernel
theorem d_Rea_readOther_29 : decode M_Rea_readOther.2.1 29 = .ok (.iload_n 3, 1) := by decide +kernel
theorem d_Rea_readOther_30 : decode M_Rea_readOther.2.1 30 = .ok (.ireturn, 1) := by decide +kernel
theorem d_Rea_readOther_31 : decode M_Rea_readOther.2.1 31 = .ok (.sipush 128, 3) := by decide +kernel
theorem d_Rea_readOther_34 : decode M_Rea_readOther.2.1 34 = .ok (.iload_n 2, 1) := by decide +kernel
theorem d_Rea_readOther_35 : decode M_Rea_readOther.2.1 35 = .ok (.bipush 127, 2) := by decide +kernel
theorem d_Rea_readOther_37 : decode M_Rea_readOther.2.1 37 = .ok (.isub, 1) := by decide +kernel
theorem d_Rea_readOther_38 : decode M_Rea_readOther.2.1 38 = .ok (.imul, 1) := by decide +kernel
theorem d_Rea_readOther_39 : decode M_Rea_readOther.2.1 39 = .ok (.iload_n 3, 1) := by decide +kernel
theorem d_Rea_readOther_40 : decode M_Rea_readOther.2.1 40 = .ok (.iadd, 1) := by decide +kernel
theorem d_Rea_readOther_41 : decode M_Rea_readOther.2.1 41 = .ok (.istore_n 2, 1) := by decide +kernel
theorem d_Rea_readOther_42 : decode M_Rea_readOther.2.1 42 = .ok (.iconst 0, 1) := by decide +kernel
theorem d_Rea_readOther_43 : decode M_Rea_readOther.2.1 43 = .ok (.istore_n 3, 1) := by decide +kernel
theorem d_Rea_readOther_44 : decode M_Rea_readOther.2.1 44 = .ok (.iload_n 3, 1) := by decide +kernel
theorem d_Rea_readOther_45 : decode M_Rea_readOther.2.1 45 = .ok (.aload_n 0, 1) := by decide +kernel
theorem d_Rea_readOther_46 : decode M_Rea_readOther.2.1 46 = .ok (.getfield 18, 3) := by decide +kernel
theorem d_Rea_readOther_49 : decode M_Rea_readOther.2.1 49 = .ok (.if_icmp .ge 31, 3) := by decide +kernel
theorem d_Rea_readOther_52 : decode M_Rea_readOther.2.1 52 = .ok (.aload_n 0, 1) := by decide +kernel
theorem d_Rea_readOther_53 : decode M_Rea_readOther.2.1 53 = .ok (.getfield 22, 3) := by decide +kernel
theorem d_Rea_readOther_56 : decode M_Rea_readOther.2.1 56 = .ok (.iload_n 3, 1) := by decide +kernel
theorem d_Rea_readOther_57 : decode M_Rea_readOther.2.1 57 = .ok (.iaload, 1) := by decide +kernel
theorem d_Rea_readOther_58 : decode M_Rea_readOther.2.1 58 = .ok (.aload_n 0, 1) := by decide +kernel
theorem d_Rea_readOther_59 : decode M_Rea_readOther.2.1 59 = .ok (.getfield 22, 3) := by decide +kernel
theorem d_Rea_readOther_62 : decode M_Rea_readOther.2.1 62 = .ok (.aload_n 0, 1) := by decide +kernel
theorem d_Rea_readOther_63 : decode M_Rea_readOther.2.1 63 = .ok (.getfield 18, 3) := by decide +kernel
theorem d_Rea_readOther_66 : decode M_Rea_readOther.2.1 66 = .ok (.iaload, 1) := by decide +kernel
theorem d_Rea_readOther_67 : decode M_Rea_readOther.2.1 67 = .ok (.iload_n 2, 1) := by decide +kernel
theorem d_Rea_readOther_68 : decode M_Rea_readOther.2.1 68 = .ok (.isub, 1) := by decide +kernel
theorem d_Rea_readOther_69 : decode M_Rea_readOther.2.1 69 = .ok (.if_icmp .ne 5, 3) := by decide +kernel
theorem d_Rea_readOther_72 : decode M_Rea_readOther.2.1 72 = .ok (.iload_n 3, 1) := by decide +kernel
theorem d_Rea_readOther_73 : decode M_Rea_readOther.2.1 73 = .ok (.ireturn, 1) := by decide +kernel
theorem d_Rea_readOther_74 : decode M_Rea_readOther.2.1 74 = .ok (.iinc 3 1, 3) := by decide +kernel
theorem d_Rea_readOther_77 : decode M_Rea_readOther.2.1 77 = .ok (.goto (-33), 3) := by decide +kernel
theorem d_Rea_readOther_80 : decode M_Rea_readOther.2.1 80 = .ok (.bipush (-8), 2) := by decide +kernel
theorem d_Rea_readOther_82 : decode M_Rea_readOther.2.1 82 = .ok (.ireturn, 1) := by decide +kernel
def f_Rea_readOther (x0 : Nat) (x1 : Nat) (c : cM) (K : Int32 → cM → Prop) : Prop :=
  kd x0 = 6 ∧ (f_Rea_nextByte x0 x1 c (fun v3 c2 => ((0 ≤ v3) → (∃ J11 : Int32 → cM → Prop, (∀ (y9 : Int32) (c10 : cM), J11 y9 c10 → (∃ I13 : Nat → Int32 → Prop, (∃ n, I13 n 0) ∧ ∀ (n14 : Nat) (y17 : Int32), I13 n14 y17 → ((((c10 x0 1) ≤ y17) → (K (-8) c10)) ∧ (¬ ((c10 x0 1) ≤ y17) → (kd (rf x0 2) = 100 ∧ (vp_in y17 (ln (rf x0 2)) ∧ (vp_in (c10 x0 1) (ln (rf x0 2)) ∧ (((¬ (c10 (rf x0 2) (Int32.toNatClampNeg y17)) = ((c10 (rf x0 2) (Int32.toNatClampNeg (c10 x0 1))) - y9)) → (∃ m, m < n14 ∧ I13 m (y17 + 1))) ∧ ((c10 (rf x0 2) (Int32.toNatClampNeg y17)) = ((c10 (rf x0 2) (Int32.toNatClampNeg (c10 x0 1))) - y9) → (K y17 c10)))))))))) ∧ (((v3 < 128) → (J11 v3 c2)) ∧ (¬ (v3 < 128) → (f_Rea_nextByte x0 x1 c2 (fun v24 c23 => ((0 ≤ v24) → (J11 ((128 * (v3 - 127)) + v24) c23)) ∧ (¬ (0 ≤ v24) → (K v24 c23)))))))) ∧ (¬ (0 ≤ v3) → (K v3 c2))))
theorem c_Rea_readOther {x0 : Nat} {x1 : Nat} {c : cM} {K : Int32 → cM → Prop} (h : f_Rea_readOther x0 x1 c K) : Ct M_Rea_readOther 2 0 0 (wd c) [.ref x0, .ref x1] (PoI K) := by
  refine Ct.of (by decide +kernel) (Nat.le_of_ble_eq_true rfl) (fun Z T => ?_)
  have F := T.F
  unfold f_Rea_readOther at h
  show Z (wd c) 0 [(0, .ref x0), (1, .ref x1)] [] 0 0
  refine g_aload_n F (pc := 0) d_Rea_readOther_0 0 rfl (g_aload_n F (pc := 1) d_Rea_readOther_1 1 rfl ?_)
  obtain ⟨o1, h⟩ := h
  refine gc_callVI (As := [.ref x1]) (st := []) F (pc := 2) d_Rea_readOther_2 cb_Rea_71 iv_Rea_nextByte np_Rea_nextByte o1 vc_6 (c_Rea_nextByte h) rfl (by decide) (Nat.le_refl _) (Nat.le_refl _) (Nat.le_of_ble_eq_true rfl) (fun v3 c2 h => ?_)
  refine g_istore_n (lv' := [(2, .int v3), (0, .ref x0), (1, .ref x1)]) F (pc := 5) d_Rea_readOther_5 (by decide) rfl (g_iload_n F (pc := 6) d_Rea_readOther_6 0 rfl ?_)
  refine g_if_ge (tgt := 12) F (pc := 7) d_Rea_readOther_7 (by decide) (fun b4 => ?_) (fun b4 => ?_)
  · replace h := h.1 b4
    refine g_iload_n F (pc := 12) d_Rea_readOther_12 0 rfl (g_sipush (v := 128) F (pc := 13) d_Rea_readOther_13 (by decide) ?_)
    obtain ⟨J11, hJ11, h⟩ := h
    have jn12 : ∀ (y9 : Int32) (c10 : cM), J11 y9 c10 → Z (wd c10) 42 [(0, .ref x0), (2, .int y9)] [] 0 0 := by
      intro y9 c10 h
      replace h := hJ11 y9 c10 h
      refine g_iconst (v := 0) F (pc := 42) d_Rea_readOther_42 (by decide) (g_istore_n (lv' := [(3, .int 0), (0, .ref x0), (2, .int y9)]) F (pc := 43) d_Rea_readOther_43 (by decide) rfl ?_)
      refine g_lv (lv' := [(0, .ref x0), (2, .int y9), (3, .int 0)]) F [1, 2, 0] rfl ?_
      obtain ⟨I13, ⟨n0, h⟩, hI13⟩ := h
      have lp16 : ∀ (n14 : Nat) (y17 : Int32), I13 n14 y17 → Z (wd c10) 44 [(0, .ref x0), (2, .int y9), (3, .int y17)] [] 0 0 := by
        intro n14
        induction n14 using Nat.strongRecOn with
        | _ n14 ih15 =>
          intro y17 h
          replace h := hI13 n14 y17 h
          refine g_iload_n F (pc := 44) d_Rea_readOther_44 2 rfl (g_aload_n F (pc := 45) d_Rea_readOther_45 0 rfl (gc_getI F (pc := 46) d_Rea_readOther_46 fi_Rea_18 o1 ?_))
          refine g_icmp_ge (tgt := 80) F (pc := 49) d_Rea_readOther_49 (by decide) (fun b18 => ?_) (fun b18 => ?_)
          · replace h := h.1 b18
            refine g_bipush (v := (-8)) F (pc := 80) d_Rea_readOther_80 (by decide) ?_
            exact g_iret T (pc := 82) d_Rea_readOther_82 rfl (Nat.le_refl _) (Nat.le_refl _) (poI h)
          · replace h := h.2 b18
            refine g_aload_n F (pc := 52) d_Rea_readOther_52 0 rfl (gc_getR F (pc := 53) d_Rea_readOther_53 fi_Rea_22 o1 (g_iload_n F (pc := 56) d_Rea_readOther_56 2 rfl ?_))
            obtain ⟨o19, h⟩ := h
            obtain ⟨o20, h⟩ := h
            refine gc_iald F (pc := 57) d_Rea_readOther_57 o19 o20 (g_aload_n F (pc := 58) d_Rea_readOther_58 0 rfl (gc_getR F (pc := 59) d_Rea_readOther_59 fi_Rea_22 o1 (g_aload_n F (pc := 62) d_Rea_readOther_62 0 rfl (gc_getI F (pc := 63) d_Rea_readOther_63 fi_Rea_18 o1 ?_))))
            obtain ⟨o21, h⟩ := h
            refine gc_iald F (pc := 66) d_Rea_readOther_66 o19 o21 (g_iload_n F (pc := 67) d_Rea_readOther_67 1 rfl (g_isub F (pc := 68) d_Rea_readOther_68 ?_))
            refine g_icmp_ne (tgt := 74) F (pc := 69) d_Rea_readOther_69 (by decide) (fun b22 => ?_) (fun b22 => ?_)
            · replace h := h.1 b22
              refine g_iinc (v := (y17 + 1)) (lv' := [(3, .int (y17 + 1)), (0, .ref x0), (2, .int y9)]) F (pc := 74) d_Rea_readOther_74 2 rfl (sk_inc (by decide)) (by decide) rfl (g_goto (tgt := 44) F (pc := 77) d_Rea_readOther_77 (by decide) ?_)
              refine g_lv (lv' := [(0, .ref x0), (2, .int y9), (3, .int (y17 + 1))]) F [1, 2, 0] rfl ?_
              obtain ⟨m, hm, h⟩ := h
              exact ih15 m hm _ h
            · replace h := h.2 b22
              refine g_iload_n F (pc := 72) d_Rea_readOther_72 2 rfl ?_
              exact g_iret T (pc := 73) d_Rea_readOther_73 rfl (Nat.le_refl _) (Nat.le_refl _) (poI h)
      exact lp16 n0 _ h
    refine g_icmp_lt (tgt := 42) F (pc := 16) d_Rea_readOther_16 (by decide) (fun b5 => ?_) (fun b5 => ?_)
    · replace h := h.1 b5
      refine g_lv (lv' := [(0, .ref x0), (2, .int v3)]) F [1, 0] rfl ?_
      exact jn12 _ _ h
    · replace h := h.2 b5
      refine g_aload_n F (pc := 19) d_Rea_readOther_19 1 rfl (g_aload_n F (pc := 20) d_Rea_readOther_20 2 rfl ?_)
      refine gc_callVI (As := [.ref x1]) (st := []) F (pc := 21) d_Rea_readOther_21 cb_Rea_71 iv_Rea_nextByte np_Rea_nextByte o1 vc_6 (c_Rea_nextByte h) rfl (by decide) (Nat.le_refl _) (Nat.le_refl _) (Nat.le_of_ble_eq_true rfl) (fun v24 c23 h => ?_)
      refine g_istore_n (lv' := [(3, .int v24), (2, .int v3), (0, .ref x0), (1, .ref x1)]) F (pc := 24) d_Rea_readOther_24 (by decide) rfl (g_iload_n F (pc := 25) d_Rea_readOther_25 0 rfl ?_)
      refine g_if_ge (tgt := 31) F (pc := 26) d_Rea_readOther_26 (by decide) (fun b25 => ?_) (fun b25 => ?_)
      · replace h := h.1 b25
        refine g_sipush (v := 128) F (pc := 31) d_Rea_readOther_31 (by decide) (g_iload_n F (pc := 34) d_Rea_readOther_34 1 rfl (g_bipush (v := 127) F (pc := 35) d_Rea_readOther_35 (by decide) (g_isub F (pc := 37) d_Rea_readOther_37 (g_imul F (pc := 38) d_Rea_readOther_38 (g_iload_n F (pc := 39) d_Rea_readOther_39 0 rfl ?_)))))
        refine g_iadd F (pc := 40) d_Rea_readOther_40 (g_istore_n (lv' := [(2, .int ((128 * (v3 - 127)) + v24)), (3, .int v24), (0, .ref x0), (1, .ref x1)]) F (pc := 41) d_Rea_readOther_41 (by decide) rfl ?_)
        refine g_lv (lv' := [(0, .ref x0), (2, .int ((128 * (v3 - 127)) + v24))]) F [2, 0] rfl ?_
        exact jn12 _ _ h
      · replace h := h.2 b25
        refine g_iload_n F (pc := 29) d_Rea_readOther_29 0 rfl ?_
        exact g_iret T (pc := 30) d_Rea_readOther_30 rfl (Nat.le_refl _) (Nat.le_refl _) (poI h)
  · replace h := h.2 b4
    refine g_iload_n F (pc := 10) d_Rea_readOther_10 0 rfl ?_
    exact g_iret T (pc := 11) d_Rea_readOther_11 rfl (Nat.le_refl _) (Nat.le_refl _) (poI h)
theorem d_Rea_readDue_0 : decode M_Rea_readDue.2.1 0 = .ok (.iconst 0, 1) := by decide +kernel
theorem d_Rea_readDue_1 : decode M_Rea_readDue.2.1 1 = .ok (.istore_n 2, 1) := by decide +kernel
theorem d_Rea_readDue_2 : decode M_Rea_readDue.2.1 2 = .ok (.iload_n 2, 1) := by decide +kernel
theorem d_Rea_readDue_3 : decode M_Rea_readDue.2.1 3 = .ok (.aload_n 0, 1) := by decide +kernel
theorem d_Rea_readDue_4 : decode M_Rea_readDue.2.1 4 = .ok (.getfield 37, 3) := by decide +kernel
theorem d_Rea_readDue_7 : decode M_Rea_readDue.2.1 7 = .ok (.getfield 50, 3) := by decide +kernel
theorem d_Rea_readDue_10 : decode M_Rea_readDue.2.1 10 = .ok (.if_icmp .ge 36, 3) := by decide +kernel
theorem d_Rea_readDue_13 : decode M_Rea_readDue.2.1 13 = .ok (.aload_n 0, 1) := by decide +kernel
theorem d_Rea_readDue_14 : decode M_Rea_readDue.2.1 14 = .ok (.aload_n 1, 1) := by decide +kernel
theorem d_Rea_readDue_15 : decode M_Rea_readDue.2.1 15 = .ok (.invokevirtual 71, 3) := by decide +kernel
theorem d_Rea_readDue_18 : decode M_Rea_readDue.2.1 18 = .ok (.istore_n 3, 1) := by decide +kernel
theorem d_Rea_readDue_19 : decode M_Rea_readDue.2.1 19 = .ok (.iload_n 3, 1) := by decide +kernel
theorem d_Rea_readDue_20 : decode M_Rea_readDue.2.1 20 = .ok (.ifCond .ge 5, 3) := by decide +kernel
theorem d_Rea_readDue_23 : decode M_Rea_readDue.2.1 23 = .ok (.iload_n 3, 1) := by decide +kernel
theorem d_Rea_readDue_24 : decode M_Rea_readDue.2.1 24 = .ok (.ireturn, 1) := by decide +kernel
theorem d_Rea_readDue_25 : decode M_Rea_readDue.2.1 25 = .ok (.iload_n 3, 1) := by decide +kernel
theorem d_Rea_readDue_26 : decode M_Rea_readDue.2.1 26 = .ok (.aload_n 0, 1) := by decide +kernel
theorem d_Rea_readDue_27 : decode M_Rea_readDue.2.1 27 = .ok (.getfield 37, 3) := by decide +kernel
theorem d_Rea_readDue_30 : decode M_Rea_readDue.2.1 30 = .ok (.iload_n 2, 1) := by decide +kernel
theorem d_Rea_readDue_31 : decode M_Rea_readDue.2.1 31 = .ok (.invokevirtual 112, 3) := by decide +kernel
theorem d_Rea_readDue_34 : decode M_Rea_readDue.2.1 34 = .ok (.if_icmp .eq 6, 3) := by decide +kernel
theorem d_Rea_readDue_37 : decode M_Rea_readDue.2.1 37 = .ok (.bipush (-9), 2) := by decide +kernel
theorem d_Rea_readDue_39 : decode M_Rea_readDue.2.1 39 = .ok (.ireturn, 1) := by decide +kernel
theorem d_Rea_readDue_40 : decode M_Rea_readDue.2.1 40 = .ok (.iinc 2 1, 3) := by decide +kernel
theorem d_Rea_readDue_43 : decode M_Rea_readDue.2.1 43 = .ok (.goto (-41), 3) := by decide +kernel
theorem d_Rea_readDue_46 : decode M_Rea_readDue.2.1 46 = .ok (.iconst 0, 1) := by decide +kernel
theorem d_Rea_readDue_47 : decode M_Rea_readDue.2.1 47 = .ok (.ireturn, 1) := by decide +kernel
def f_Rea_readDue (x0 : Nat) (x1 : Nat) (c : cM) (K : Int32 → cM → Prop) : Prop :=
  ∃ I1 : Nat → Int32 → cM → Prop, (∃ n, I1 n 0 c) ∧ ∀ (n2 : Nat) (y5 : Int32) (c6 : cM), I1 n2 y5 c6 → (kd x0 = 6 ∧ (kd (rf x0 4) = 1 ∧ ((((c6 (rf x0 4) 1) ≤ y5) → (K 0 c6)) ∧ (¬ ((c6 (rf x0 4) 1) ≤ y5) → (f_Rea_nextByte x0 x1 c6 (fun v11 c10 => ((0 ≤ v11) → (f_Row_at (rf x0 4) y5 c10 (fun v14 c13 => ((v11 = v14) → (∃ m, m < n2 ∧ I1 m (y5 + 1) c13)) ∧ (¬ (v11 = v14) → (K (-9) c13))))) ∧ (¬ (0 ≤ v11) → (K v11 c10))))))))
theorem c_Rea_readDue {x0 : Nat} {x1 : Nat} {c : cM} {K : Int32 → cM → Prop} (h : f_Rea_readDue x0 x1 c K) : Ct M_Rea_readDue 2 0 0 (wd c) [.ref x0, .ref x1] (PoI K) := by
  refine Ct.of (by decide +kernel) (Nat.le_of_ble_eq_true rfl) (fun Z T => ?_)
  have F := T.F
  unfold f_Rea_readDue at h
  show Z (wd c) 0 [(0, .ref x0), (1, .ref x1)] [] 0 0
  refine g_iconst (v := 0) F (pc := 0) d_Rea_readDue_0 (by decide) (g_istore_n (lv' := [(2, .int 0), (0, .ref x0), (1, .ref x1)]) F (pc := 1) d_Rea_readDue_1 (by decide) rfl ?_)
  refine g_lv (lv' := [(0, .ref x0), (1, .ref x1), (2, .int 0)]) F [1, 2, 0] rfl ?_
  obtain ⟨I1, ⟨n0, h⟩, hI1⟩ := h
  have lp4 : ∀ (n2 : Nat) (y5 : Int32) (c6 : cM), I1 n2 y5 c6 → Z (wd c6) 2 [(0, .ref x0), (1, .ref x1), (2, .int y5)] [] 0 0 := by
    intro n2
    induction n2 using Nat.strongRecOn with
    | _ n2 ih3 =>
      intro y5 c6 h
      replace h := hI1 n2 y5 c6 h
      refine g_iload_n F (pc := 2) d_Rea_readDue_2 2 rfl (g_aload_n F (pc := 3) d_Rea_readDue_3 0 rfl ?_)
      obtain ⟨o7, h⟩ := h
      refine gc_getR F (pc := 4) d_Rea_readDue_4 fi_Rea_37 o7 ?_
      obtain ⟨o8, h⟩ := h
      refine gc_getI F (pc := 7) d_Rea_readDue_7 fi_Rea_50 o8 ?_
      refine g_icmp_ge (tgt := 46) F (pc := 10) d_Rea_readDue_10 (by decide) (fun b9 => ?_) (fun b9 => ?_)
      · replace h := h.1 b9
        refine g_iconst (v := 0) F (pc := 46) d_Rea_readDue_46 (by decide) ?_
        exact g_iret T (pc := 47) d_Rea_readDue_47 rfl (Nat.le_refl _) (Nat.le_refl _) (poI h)
      · replace h := h.2 b9
        refine g_aload_n F (pc := 13) d_Rea_readDue_13 0 rfl (g_aload_n F (pc := 14) d_Rea_readDue_14 1 rfl ?_)
        refine gc_callVI (As := [.ref x1]) (st := []) F (pc := 15) d_Rea_readDue_15 cb_Rea_71 iv_Rea_nextByte np_Rea_nextByte o7 vc_6 (c_Rea_nextByte h) rfl (by decide) (Nat.le_refl _) (Nat.le_refl _) (Nat.le_of_ble_eq_true rfl) (fun v11 c10 h => ?_)
        refine g_istore_n (lv' := [(3, .int v11), (0, .ref x0), (1, .ref x1), (2, .int y5)]) F (pc := 18) d_Rea_readDue_18 (by decide) rfl (g_iload_n F (pc := 19) d_Rea_readDue_19 0 rfl ?_)
        refine g_if_ge (tgt := 25) F (pc := 20) d_Rea_readDue_20 (by decide) (fun b12 => ?_) (fun b12 => ?_)
        · replace h := h.1 b12
          refine g_iload_n F (pc := 25) d_Rea_readDue_25 0 rfl (g_aload_n F (pc := 26) d_Rea_readDue_26 1 rfl (gc_getR F (pc := 27) d_Rea_readDue_27 fi_Rea_37 o7 (g_iload_n F (pc := 30) d_Rea_readDue_30 3 rfl ?_)))
          refine gc_callVI (As := [.int y5]) (st := [.int v11]) F (pc := 31) d_Rea_readDue_31 cb_Rea_112 iv_Row_at np_Row_at o8 vc_1 (c_Row_at h) rfl (by decide) (Nat.le_refl _) (Nat.le_refl _) (Nat.le_of_ble_eq_true rfl) (fun v14 c13 h => ?_)
          refine g_icmp_eq (tgt := 40) F (pc := 34) d_Rea_readDue_34 (by decide) (fun b15 => ?_) (fun b15 => ?_)
          · replace h := h.1 b15
            refine g_iinc (v := (y5 + 1)) (lv' := [(2, .int (y5 + 1)), (3, .int v11), (0, .ref x0), (1, .ref x1)]) F (pc := 40) d_Rea_readDue_40 3 rfl (sk_inc (by decide)) (by decide) rfl (g_goto (tgt := 2) F (pc := 43) d_Rea_readDue_43 (by decide) ?_)
            refine g_lv (lv' := [(0, .ref x0), (1, .ref x1), (2, .int (y5 + 1))]) F [2, 3, 0] rfl ?_
            obtain ⟨m, hm, h⟩ := h
            exact ih3 m hm _ _ h
          · replace h := h.2 b15
            refine g_bipush (v := (-9)) F (pc := 37) d_Rea_readDue_37 (by decide) ?_
            exact g_iret T (pc := 39) d_Rea_readDue_39 rfl (Nat.le_refl _) (Nat.le_refl _) (poI h)
        · replace h := h.2 b12
          refine g_iload_n F (pc := 23) d_Rea_readDue_23 0 rfl ?_
          exact g_iret T (pc := 24) d_Rea_readDue_24 rfl (Nat.le_refl _) (Nat.le_refl _) (poI h)
  exact lp4 n0 _ _ h
theorem d_Rea_takeDifference_0 : decode M_Rea_takeDifference.2.1 0 = .ok (.aload_n 2, 1) := by decide +kernel
theorem d_Rea_takeDifference_1 : decode M_Rea_takeDifference.2.1 1 = .ok (.aload_n 1, 1) := by decide +kernel
theorem d_Rea_takeDifference_2 : decode M_Rea_takeDifference.2.1 2 = .ok (.getfield 103, 3) := by decide +kernel
theorem d_Rea_takeDifference_5 : decode M_Rea_takeDifference.2.1 5 = .ok (.invokevirtual 93, 3) := by decide +kernel
theorem d_Rea_takeDifference_8 : decode M_Rea_takeDifference.2.1 8 = .ok (.aload_n 0, 1) := by decide +kernel
theorem d_Rea_takeDifference_9 : decode M_Rea_takeDifference.2.1 9 = .ok (.getfield 31, 3) := by decide +kernel
theorem d_Rea_takeDifference_12 : decode M_Rea_takeDifference.2.1 12 = .ok (.aload_n 1, 1) := by decide +kernel
theorem d_Rea_takeDifference_13 : decode M_Rea_takeDifference.2.1 13 = .ok (.getfield 96, 3) := by decide +kernel
theorem d_Rea_takeDifference_16 : decode M_Rea_takeDifference.2.1 16 = .ok (.aload_n 2, 1) := by decide +kernel
theorem d_Rea_takeDifference_17 : decode M_Rea_takeDifference.2.1 17 = .ok (.getfield 96, 3) := by decide +kernel
theorem d_Rea_takeDifference_20 : decode M_Rea_takeDifference.2.1 20 = .ok (.invokestatic 106, 3) := by decide +kernel
theorem d_Rea_takeDifference_23 : decode M_Rea_takeDifference.2.1 23 = .ok (.ifCond .eq 7, 3) := by decide +kernel
theorem d_Rea_takeDifference_26 : decode M_Rea_takeDifference.2.1 26 = .ok (.iconst 0, 1) := by decide +kernel
theorem d_Rea_takeDifference_27 : decode M_Rea_takeDifference.2.1 27 = .ok (.goto 5, 3) := by decide +kernel
theorem d_Rea_takeDifference_30 : decode M_Rea_takeDifference.2.1 30 = .ok (.bipush (-10), 2) := by decide +kernel
theorem d_Rea_takeDifference_32 : decode M_Rea_takeDifference.2.1 32 = .ok (.ireturn, 1) := by decide +kernel
def f_Rea_takeDifference (x0 : Nat) (x1 : Nat) (x2 : Nat) (c : cM) (K : Int32 → cM → Prop) : Prop :=
  kd x1 = 3 ∧ (kd x2 = 3 ∧ (f_Thing_begin x2 (c x1 0) c (fun c3 => kd x0 = 6 ∧ (f_Diff_carryOut (rf x0 3) (rf x1 1) (rf x2 1) c3 (fun v6 c5 => ((v6 = 0) → (K (-10) c5)) ∧ (¬ (v6 = 0) → (K 0 c5)))))))
theorem c_Rea_takeDifference {x0 : Nat} {x1 : Nat} {x2 : Nat} {c : cM} {K : Int32 → cM → Prop} (h : f_Rea_takeDifference x0 x1 x2 c K) : Ct M_Rea_takeDifference 3 0 0 (wd c) [.ref x0, .ref x1, .ref x2] (PoI K) := by
  refine Ct.of (by decide +kernel) (Nat.le_of_ble_eq_true rfl) (fun Z T => ?_)
  have F := T.F
  unfold f_Rea_takeDifference at h
  show Z (wd c) 0 [(0, .ref x0), (1, .ref x1), (2, .ref x2)] [] 0 0
  refine g_aload_n F (pc := 0) d_Rea_takeDifference_0 2 rfl (g_aload_n F (pc := 1) d_Rea_takeDifference_1 1 rfl ?_)
  obtain ⟨o1, h⟩ := h
  refine gc_getI F (pc := 2) d_Rea_takeDifference_2 fi_Rea_103 o1 ?_
  obtain ⟨o2, h⟩ := h
  refine gc_callVV (As := [.int (c x1 0)]) (st := []) F (pc := 5) d_Rea_takeDifference_5 cb_Rea_93 iv_Thing_begin np_Thing_begin o2 vc_3 (c_Thing_begin h) rfl (by decide) (Nat.le_refl _) (Nat.le_refl _) (Nat.le_of_ble_eq_true rfl) (fun c3 h => ?_)
  refine g_aload_n F (pc := 8) d_Rea_takeDifference_8 0 rfl ?_
  obtain ⟨o4, h⟩ := h
  refine gc_getR F (pc := 9) d_Rea_takeDifference_9 fi_Rea_31 o4 (g_aload_n F (pc := 12) d_Rea_takeDifference_12 1 rfl (gc_getR F (pc := 13) d_Rea_takeDifference_13 fi_Rea_96 o1 (g_aload_n F (pc := 16) d_Rea_takeDifference_16 2 rfl (gc_getR F (pc := 17) d_Rea_takeDifference_17 fi_Rea_96 o2 ?_))))
  refine gc_callSI (As := [.ref (rf x0 3), .ref (rf x1 1), .ref (rf x2 1)]) (st := []) F (pc := 20) d_Rea_takeDifference_20 cb_Rea_106 iv_Diff_carryOut np_Diff_carryOut (c_Diff_carryOut h) rfl (by decide) (Nat.le_refl _) (Nat.le_refl _) (Nat.le_of_ble_eq_true rfl) (fun v6 c5 h => ?_)
  refine g_if_eq (tgt := 30) F (pc := 23) d_Rea_takeDifference_23 (by decide) (fun b7 => ?_) (fun b7 => ?_)
  · replace h := h.1 b7
    refine g_bipush (v := (-10)) F (pc := 30) d_Rea_takeDifference_30 (by decide) ?_
    exact g_iret T (pc := 32) d_Rea_takeDifference_32 rfl (Nat.le_refl _) (Nat.le_refl _) (poI h)
  · replace h := h.2 b7
    refine g_iconst (v := 0) F (pc := 26) d_Rea_takeDifference_26 (by decide) (g_goto (tgt := 32) F (pc := 27) d_Rea_takeDifference_27 (by decide) ?_)
    exact g_iret T (pc := 32) d_Rea_takeDifference_32 rfl (Nat.le_refl _) (Nat.le_refl _) (poI h)
theorem d_Rea_readNumber_0 : decode M_Rea_readNumber.2.1 0 = .ok (.iload_n 2, 1) := by decide +kernel
theorem d_Rea_readNumber_1 : decode M_Rea_readNumber.2.1 1 = .ok (.bipush 15, 2) := by decide +kernel
theorem d_Rea_readNumber_3 : decode M_Rea_readNumber.2.1 3 = .ok (.iand, 1) := by decide +kernel
theorem d_Rea_readNumber_4 : decode M_Rea_readNumber.2.1 4 = .ok (.istore_n 3, 1) := by decide +kernel
theorem d_Rea_readNumber_5 : decode M_Rea_readNumber.2.1 5 = .ok (.bipush 16, 2) := by decide +kernel
theorem d_Rea_readNumber_7 : decode M_Rea_readNumber.2.1 7 = .ok (.istore 4, 2) := by decide +kernel
theorem d_Rea_readNumber_9 : decode M_Rea_readNumber.2.1 9 = .ok (.iload_n 2, 1) := by decide +kernel
theorem d_Rea_readNumber_10 : decode M_Rea_readNumber.2.1 10 = .ok (.sipush 128, 3) := by decide +kernel
theorem d_Rea_readNumber_13 : decode M_Rea_readNumber.2.1 13 = .ok (.if_icmp .lt 7, 3) := by decide +kernel
theorem d_Rea_readNumber_16 : decode M_Rea_readNumber.2.1 16 = .ok (.iconst 1, 1) := by decide +kernel
theorem d_Rea_readNumber_17 : decode M_Rea_readNumber.2.1 17 = .ok (.goto 4, 3) := by decide +kernel
theorem d_Rea_readNumber_20 : decode M_Rea_readNumber.2.1 20 = .ok (.iconst 0, 1) := by decide +kernel
theorem d_Rea_readNumber_21 : decode M_Rea_readNumber.2.1 21 = .ok (.istore 5, 2) := by decide +kernel
theorem d_Rea_readNumber_23 : decode M_Rea_readNumber.2.1 23 = .ok (.aload_n 0, 1) := by decide +kernel
theorem d_Rea_readNumber_24 : decode M_Rea_readNumber.2.1 24 = .ok (.getfield 43, 3) := by decide +kernel
theorem d_Rea_readNumber_27 : decode M_Rea_readNumber.2.1 27 = .ok (.aload_n 0, 1) := by decide +kernel
theorem d_Rea_readNumber_28 : decode M_Rea_readNumber.2.1 28 = .ok (.getfield 40, 3) := by decide +kernel
theorem d_Rea_readNumber_31 : decode M_Rea_readNumber.2.1 31 = .ok (.isub, 1) := by decide +kernel
theorem d_Rea_readNumber_32 : decode M_Rea_readNumber.2.1 32 = .ok (.istore 6, 2) := by decide +kernel
theorem d_Rea_readNumber_34 : decode M_Rea_readNumber.2.1 34 = .ok (.iload 5, 2) := by decide +kernel
theorem d_Rea_readNumber_36 : decode M_Rea_readNumber.2.1 36 = .ok (.ifCond .eq 65, 3) := by decide +kernel
theorem d_Rea_readNumber_39 : decode M_Rea_readNumber.2.1 39 = .ok (.iload 6, 2) := by decide +kernel
theorem d_Rea_readNumber_41 : decode M_Rea_readNumber.2.1 41 = .ok (.ifCond .le 60, 3) := by decide +kernel
theorem d_Rea_readNumber_44 : decode M_Rea_readNumber.2.1 44 = .ok (.aload_n 0, 1) := by decide +kernel
theorem d_Rea_readNumber_45 : decode M_Rea_readNumber.2.1 45 = .ok (.aload_n 1, 1) := by decide +kernel
theorem d_Rea_readNumber_46 : decode M_Rea_readNumber.2.1 46 = .ok (.invokevirtual 71, 3) := by decide +kernel
theorem d_Rea_readNumber_49 : decode M_Rea_readNumber.2.1 49 = .ok (.istore 7, 2) := by decide +kernel
theorem d_Rea_readNumber_51 : decode M_Rea_readNumber.2.1 51 = .ok (.iload_n 3, 1) := by decide +kernel
theorem d_Rea_readNumber_52 : decode M_Rea_readNumber.2.1 52 = .ok (.iload 7, 2) := by decide +kernel
theorem d_Rea_readNumber_54 : decode M_Rea_readNumber.2.1 54 = .ok (.bipush 127, 2) := by decide +kernel
theorem d_Rea_readNumber_56 : decode M_Rea_readNumber.2.1 56 = .ok (.iand, 1) := by decide +kernel
theorem d_Rea_readNumber_57 : decode M_Rea_readNumber.2.1 57 = .ok (.iload 4, 2) := by decide +kernel
theorem d_Rea_readNumber_59 : decode M_Rea_readNumber.2.1 59 = .ok (.imul, 1) := by decide +kernel
theorem d_Rea_readNumber_60 : decode M_Rea_readNumber.2.1 60 = .ok (.iadd, 1) := by decide +kernel
theorem d_Rea_readNumber_61 : decode M_Rea_readNumber.2.1 61 = .ok (.bipush 121, 2) := by decide +kernel
theorem d_Rea_readNumber_63 : decode M_Rea_readNumber.2.1 63 = .ok (.invokestatic 115, 3) := by decide +kernel
theorem d_Rea_readNumber_66 : decode M_Rea_readNumber.2.1 66 = .ok (.istore_n 3, 1) := by decide +kernel
theorem d_Rea_readNumber_67 : decode M_Rea_readNumber.2.1 67 = .ok (.iload 4, 2) := by decide +kernel
theorem d_Rea_readNumber_69 : decode M_Rea_readNumber.2.1 69 = .ok (.sipush 128, 3) := by decide +kernel
theorem d_Rea_readNumber_72 : decode M_Rea_readNumber.2.1 72 = .ok (.imul, 1) := by decide +kernel
theorem d_Rea_readNumber_73 : decode M_Rea_readNumber.2.1 73 = .ok (.ldc 121, 2) := by decide +kernel
theorem d_Rea_readNumber_75 : decode M_Rea_readNumber.2.1 75 = .ok (.invokestatic 115, 3) := by decide +kernel
theorem d_Rea_readNumber_78 : decode M_Rea_readNumber.2.1 78 = .ok (.istore 4, 2) := by decide +kernel
theorem d_Rea_readNumber_80 : decode M_Rea_readNumber.2.1 80 = .ok (.iload 7, 2) := by decide +kernel
theorem d_Rea_readNumber_82 : decode M_Rea_readNumber.2.1 82 = .ok (.sipush 128, 3) := by decide +kernel
theorem d_Rea_readNumber_85 : decode M_Rea_readNumber.2.1 85 = .ok (.if_icmp .lt 7, 3) := by decide +kernel
theorem d_Rea_readNumber_88 : decode M_Rea_readNumber.2.1 88 = .ok (.iconst 1, 1) := by decide +kernel
theorem d_Rea_readNumber_89 : decode M_Rea_readNumber.2.1 89 = .ok (.goto 4, 3) := by decide +kernel
theorem d_Rea_readNumber_92 : decode M_Rea_readNumber.2.1 92 = .ok (.iconst 0, 1) := by decide +kernel
theorem d_Rea_readNumber_93 : decode M_Rea_readNumber.2.1 93 = .ok (.istore 5, 2) := by decide +kernel
theorem d_Rea_readNumber_95 : decode M_Rea_readNumber.2.1 95 = .ok (.iinc 6 (-1), 3) := by decide +kernel
theorem d_Rea_readNumber_98 : decode M_Rea_readNumber.2.1 98 = .ok (.goto (-64), 3) := by decide +kernel
theorem d_Rea_readNumber_101 : decode M_Rea_readNumber.2.1 101 = .ok (.iload 5, 2) := by decide +kernel
theorem d_Rea_readNumber_103 : decode M_Rea_readNumber.2.1 103 = .ok (.ifCond .eq 6, 3) := by decide +kernel
theorem d_Rea_readNumber_106 : decode M_Rea_readNumber.2.1 106 = .ok (.bipush (-5), 2) := by decide +kernel
theorem d_Rea_readNumber_108 : decode M_Rea_readNumber.2.1 108 = .ok (.ireturn, 1) := by decide +kernel
theorem d_Rea_readNumber_109 : decode M_Rea_readNumber.2.1 109 = .ok (.iload_n 3, 1) := by decide +kernel
theorem d_Rea_readNumber_110 : decode M_Rea_readNumber.2.1 110 = .ok (.bipush 120, 2) := by decide +kernel
theorem d_Rea_readNumber_112 : decode M_Rea_readNumber.2.1 112 = .ok (.if_icmp .le 8, 3) := by decide +kernel
theorem d_Rea_readNumber_115 : decode M_Rea_readNumber.2.1 115 = .ok (.bipush (-7), 2) := by decide +kernel
theorem d_Rea_readNumber_117 : decode M_Rea_readNumber.2.1 117 = .ok (.goto 4, 3) := by decide +kernel
theorem d_Rea_readNumber_120 : decode M_Rea_readNumber.2.1 120 = .ok (.iload_n 3, 1) := by decide +kernel
theorem d_Rea_readNumber_121 : decode M_Rea_readNumber.2.1 121 = .ok (.ireturn, 1) := by decide +kernel
def f_Rea_readNumber (x0 : Nat) (x1 : Nat) (x2 : Int32) (c : cM) (K : Int32 → cM → Prop) : Prop :=
  ∃ J3 : Int32 → Prop, (∀ (s2 : Int32), J3 s2 → (kd x0 = 6 ∧ (∃ I6 : Nat → Int32 → Int32 → Int32 → Int32 → cM → Prop, (∃ n, I6 n (x2 &&& 15) 16 s2 ((c x0 6) - (c x0 5)) c) ∧ ∀ (n7 : Nat) (y10 : Int32) (y11 : Int32) (y12 : Int32) (y13 : Int32) (c14 : cM), I6 n7 y10 y11 y12 y13 c14 → (∃ J20 : Prop, (J20  → (((y12 = 0) → (((y10 ≤ 120) → (K y10 c14)) ∧ (¬ (y10 ≤ 120) → (K (-7) c14)))) ∧ (¬ (y12 = 0) → (K (-5) c14)))) ∧ (((y12 = 0) → (J20)) ∧ (¬ (y12 = 0) → (((y13 ≤ 0) → (J20)) ∧ (¬ (y13 ≤ 0) → (f_Rea_nextByte x0 x1 c14 (fun v26 c25 => ∃ J29 : Int32 → Prop, (∀ (s28 : Int32), J29 s28 → (∃ m, m < n7 ∧ I6 m (c_min (y10 + ((v26 &&& 127) * y11)) 121) (c_min (y11 * 128) 65536) s28 (y13 + (-1)) c25)) ∧ (((v26 < 128) → (J29 0)) ∧ (¬ (v26 < 128) → (J29 1))))))))))))) ∧ (((x2 < 128) → (J3 0)) ∧ (¬ (x2 < 128) → (J3 1)))
theorem c_Rea_readNumber {x0 : Nat} {x1 : Nat} {x2 : Int32} {c : cM} {K : Int32 → cM → Prop} (h : f_Rea_readNumber x0 x1 x2 c K) : Ct M_Rea_readNumber 2 0 0 (wd c) [.ref x0, .ref x1, .int x2] (PoI K) := by
  refine Ct.of (by decide +kernel) (Nat.le_of_ble_eq_true rfl) (fun Z T => ?_)
  have F := T.F
  unfold f_Rea_readNumber at h
  show Z (wd c) 0 [(0, .ref x0), (1, .ref x1), (2, .int x2)] [] 0 0
  refine g_iload_n F (pc := 0) d_Rea_readNumber_0 2 rfl (g_bipush (v := 15) F (pc := 1) d_Rea_readNumber_1 (by decide) (g_iand F (pc := 3) d_Rea_readNumber_3 (g_istore_n (lv' := [(3, .int (x2 &&& 15)), (0, .ref x0), (1, .ref x1), (2, .int x2)]) F (pc := 4) d_Rea_readNumber_4 (by decide) rfl (g_bipush (v := 16) F (pc := 5) d_Rea_readNumber_5 (by decide) (g_istore (lv' := [(4, .int 16), (3, .int (x2 &&& 15)), (0, .ref x0), (1, .ref x1), (2, .int x2)]) F (pc := 7) d_Rea_readNumber_7 (by decide) rfl ?_)))))
  refine g_iload_n F (pc := 9) d_Rea_readNumber_9 4 rfl (g_sipush (v := 128) F (pc := 10) d_Rea_readNumber_10 (by decide) ?_)
  obtain ⟨J3, hJ3, h⟩ := h
  have jn4 : ∀ (s2 : Int32), J3 s2 → Z (wd c) 21 [(0, .ref x0), (1, .ref x1), (3, .int (x2 &&& 15)), (4, .int 16)] [.int s2] 0 0 := by
    intro s2 h
    replace h := hJ3 s2 h
    refine g_istore (lv' := [(5, .int s2), (0, .ref x0), (1, .ref x1), (3, .int (x2 &&& 15)), (4, .int 16)]) F (pc := 21) d_Rea_readNumber_21 (by decide) rfl (g_aload_n F (pc := 23) d_Rea_readNumber_23 1 rfl ?_)
    obtain ⟨o5, h⟩ := h
    refine gc_getI F (pc := 24) d_Rea_readNumber_24 fi_Rea_43 o5 (g_aload_n F (pc := 27) d_Rea_readNumber_27 1 rfl (gc_getI F (pc := 28) d_Rea_readNumber_28 fi_Rea_40 o5 (g_isub F (pc := 31) d_Rea_readNumber_31 (g_istore (lv' := [(6, .int ((c x0 6) - (c x0 5))), (5, .int s2), (0, .ref x0), (1, .ref x1), (3, .int (x2 &&& 15)), (4, .int 16)]) F (pc := 32) d_Rea_readNumber_32 (by decide) rfl ?_))))
    refine g_lv (lv' := [(0, .ref x0), (1, .ref x1), (3, .int (x2 &&& 15)), (4, .int 16), (5, .int s2), (6, .int ((c x0 6) - (c x0 5)))]) F [2, 3, 4, 5, 1, 0] rfl ?_
    obtain ⟨I6, ⟨n0, h⟩, hI6⟩ := h
    have lp9 : ∀ (n7 : Nat) (y10 : Int32) (y11 : Int32) (y12 : Int32) (y13 : Int32) (c14 : cM), I6 n7 y10 y11 y12 y13 c14 → Z (wd c14) 34 [(0, .ref x0), (1, .ref x1), (3, .int y10), (4, .int y11), (5, .int y12), (6, .int y13)] [] 0 0 := by
      intro n7
      induction n7 using Nat.strongRecOn with
      | _ n7 ih8 =>
        intro y10 y11 y12 y13 c14 h
        replace h := hI6 n7 y10 y11 y12 y13 c14 h
        refine g_iload F (pc := 34) d_Rea_readNumber_34 4 rfl ?_
        obtain ⟨J20, hJ20, h⟩ := h
        have jn21 : J20  → Z (wd c14) 101 [(3, .int y10), (5, .int y12)] [] 0 0 := by
          intro  h
          replace h := hJ20  h
          refine g_iload F (pc := 101) d_Rea_readNumber_101 1 rfl ?_
          refine g_if_eq (tgt := 109) F (pc := 103) d_Rea_readNumber_103 (by decide) (fun b22 => ?_) (fun b22 => ?_)
          · replace h := h.1 b22
            refine g_iload_n F (pc := 109) d_Rea_readNumber_109 0 rfl (g_bipush (v := 120) F (pc := 110) d_Rea_readNumber_110 (by decide) ?_)
            refine g_icmp_le (tgt := 120) F (pc := 112) d_Rea_readNumber_112 (by decide) (fun b23 => ?_) (fun b23 => ?_)
            · replace h := h.1 b23
              refine g_iload_n F (pc := 120) d_Rea_readNumber_120 0 rfl ?_
              exact g_iret T (pc := 121) d_Rea_readNumber_121 rfl (Nat.le_refl _) (Nat.le_refl _) (poI h)
            · replace h := h.2 b23
              refine g_bipush (v := (-7)) F (pc := 115) d_Rea_readNumber_115 (by decide) (g_goto (tgt := 121) F (pc := 117) d_Rea_readNumber_117 (by decide) ?_)
              exact g_iret T (pc := 121) d_Rea_readNumber_121 rfl (Nat.le_refl _) (Nat.le_refl _) (poI h)
          · replace h := h.2 b22
            refine g_bipush (v := (-5)) F (pc := 106) d_Rea_readNumber_106 (by decide) ?_
            exact g_iret T (pc := 108) d_Rea_readNumber_108 rfl (Nat.le_refl _) (Nat.le_refl _) (poI h)
        refine g_if_eq (tgt := 101) F (pc := 36) d_Rea_readNumber_36 (by decide) (fun b15 => ?_) (fun b15 => ?_)
        · replace h := h.1 b15
          refine g_lv (lv' := [(3, .int y10), (5, .int y12)]) F [2, 4] rfl ?_
          exact jn21  h
        · replace h := h.2 b15
          refine g_iload F (pc := 39) d_Rea_readNumber_39 5 rfl ?_
          refine g_if_le (tgt := 101) F (pc := 41) d_Rea_readNumber_41 (by decide) (fun b24 => ?_) (fun b24 => ?_)
          · replace h := h.1 b24
            refine g_lv (lv' := [(3, .int y10), (5, .int y12)]) F [2, 4] rfl ?_
            exact jn21  h
          · replace h := h.2 b24
            refine g_aload_n F (pc := 44) d_Rea_readNumber_44 0 rfl (g_aload_n F (pc := 45) d_Rea_readNumber_45 1 rfl ?_)
            refine gc_callVI (As := [.ref x1]) (st := []) F (pc := 46) d_Rea_readNumber_46 cb_Rea_71 iv_Rea_nextByte np_Rea_nextByte o5 vc_6 (c_Rea_nextByte h) rfl (by decide) (Nat.le_refl _) (Nat.le_refl _) (Nat.le_of_ble_eq_true rfl) (fun v26 c25 h => ?_)
            refine g_istore (lv' := [(7, .int v26), (0, .ref x0), (1, .ref x1), (3, .int y10), (4, .int y11), (5, .int y12), (6, .int y13)]) F (pc := 49) d_Rea_readNumber_49 (by decide) rfl (g_iload_n F (pc := 51) d_Rea_readNumber_51 3 rfl (g_iload F (pc := 52) d_Rea_readNumber_52 0 rfl (g_bipush (v := 127) F (pc := 54) d_Rea_readNumber_54 (by decide) (g_iand F (pc := 56) d_Rea_readNumber_56 (g_iload F (pc := 57) d_Rea_readNumber_57 4 rfl ?_)))))
            refine g_imul F (pc := 59) d_Rea_readNumber_59 (g_iadd F (pc := 60) d_Rea_readNumber_60 (g_bipush (v := 121) F (pc := 61) d_Rea_readNumber_61 (by decide) (g_mmin F (pc := 63) d_Rea_readNumber_63 ml_Rea_115 mm_2 mm_3 mm_4 (by decide) (Nat.le_refl _) (Nat.le_refl _) (Nat.le_of_ble_eq_true rfl) (g_istore_n (lv' := [(3, .int (c_min (y10 + ((v26 &&& 127) * y11)) 121)), (7, .int v26), (0, .ref x0), (1, .ref x1), (4, .int y11), (5, .int y12), (6, .int y13)]) F (pc := 66) d_Rea_readNumber_66 (by decide) rfl (g_iload F (pc := 67) d_Rea_readNumber_67 4 rfl ?_)))))
            refine g_sipush (v := 128) F (pc := 69) d_Rea_readNumber_69 (by decide) (g_imul F (pc := 72) d_Rea_readNumber_72 (g_ldc F (pc := 73) d_Rea_readNumber_73 kc_Rea_121 (g_mmin F (pc := 75) d_Rea_readNumber_75 ml_Rea_115 mm_2 mm_3 mm_4 (by decide) (Nat.le_refl _) (Nat.le_refl _) (Nat.le_of_ble_eq_true rfl) (g_istore (lv' := [(4, .int (c_min (y11 * 128) 65536)), (3, .int (c_min (y10 + ((v26 &&& 127) * y11)) 121)), (7, .int v26), (0, .ref x0), (1, .ref x1), (5, .int y12), (6, .int y13)]) F (pc := 78) d_Rea_readNumber_78 (by decide) rfl (g_iload F (pc := 80) d_Rea_readNumber_80 2 rfl ?_)))))
            refine g_sipush (v := 128) F (pc := 82) d_Rea_readNumber_82 (by decide) ?_
            obtain ⟨J29, hJ29, h⟩ := h
            have jn30 : ∀ (s28 : Int32), J29 s28 → Z (wd c25) 93 [(0, .ref x0), (1, .ref x1), (3, .int (c_min (y10 + ((v26 &&& 127) * y11)) 121)), (4, .int (c_min (y11 * 128) 65536)), (6, .int y13)] [.int s28] 0 0 := by
              intro s28 h
              replace h := hJ29 s28 h
              refine g_istore (lv' := [(5, .int s28), (0, .ref x0), (1, .ref x1), (3, .int (c_min (y10 + ((v26 &&& 127) * y11)) 121)), (4, .int (c_min (y11 * 128) 65536)), (6, .int y13)]) F (pc := 93) d_Rea_readNumber_93 (by decide) rfl (g_iinc (v := (y13 + (-1))) (lv' := [(6, .int (y13 + (-1))), (5, .int s28), (0, .ref x0), (1, .ref x1), (3, .int (c_min (y10 + ((v26 &&& 127) * y11)) 121)), (4, .int (c_min (y11 * 128) 65536))]) F (pc := 95) d_Rea_readNumber_95 5 rfl (sk_inc (by decide)) (by decide) rfl (g_goto (tgt := 34) F (pc := 98) d_Rea_readNumber_98 (by decide) ?_))
              refine g_lv (lv' := [(0, .ref x0), (1, .ref x1), (3, .int (c_min (y10 + ((v26 &&& 127) * y11)) 121)), (4, .int (c_min (y11 * 128) 65536)), (5, .int s28), (6, .int (y13 + (-1)))]) F [2, 3, 4, 5, 1, 0] rfl ?_
              obtain ⟨m, hm, h⟩ := h
              exact ih8 m hm _ _ _ _ _ h
            refine g_icmp_lt (tgt := 92) F (pc := 85) d_Rea_readNumber_85 (by decide) (fun b27 => ?_) (fun b27 => ?_)
            · replace h := h.1 b27
              refine g_iconst (v := 0) F (pc := 92) d_Rea_readNumber_92 (by decide) ?_
              refine g_lv (lv' := [(0, .ref x0), (1, .ref x1), (3, .int (c_min (y10 + ((v26 &&& 127) * y11)) 121)), (4, .int (c_min (y11 * 128) 65536)), (6, .int y13)]) F [3, 4, 1, 0, 6] rfl ?_
              exact jn30 _ h
            · replace h := h.2 b27
              refine g_iconst (v := 1) F (pc := 88) d_Rea_readNumber_88 (by decide) (g_goto (tgt := 93) F (pc := 89) d_Rea_readNumber_89 (by decide) ?_)
              refine g_lv (lv' := [(0, .ref x0), (1, .ref x1), (3, .int (c_min (y10 + ((v26 &&& 127) * y11)) 121)), (4, .int (c_min (y11 * 128) 65536)), (6, .int y13)]) F [3, 4, 1, 0, 6] rfl ?_
              exact jn30 _ h
    exact lp9 n0 _ _ _ _ _ h
  refine g_icmp_lt (tgt := 20) F (pc := 13) d_Rea_readNumber_13 (by decide) (fun b1 => ?_) (fun b1 => ?_)
  · replace h := h.1 b1
    refine g_iconst (v := 0) F (pc := 20) d_Rea_readNumber_20 (by decide) ?_
    refine g_lv (lv' := [(0, .ref x0), (1, .ref x1), (3, .int (x2 &&& 15)), (4, .int 16)]) F [2, 3, 1, 0] rfl ?_
    exact jn4 _ h
  · replace h := h.2 b1
    refine g_iconst (v := 1) F (pc := 16) d_Rea_readNumber_16 (by decide) (g_goto (tgt := 21) F (pc := 17) d_Rea_readNumber_17 (by decide) ?_)
    refine g_lv (lv' := [(0, .ref x0), (1, .ref x1), (3, .int (x2 &&& 15)), (4, .int 16)]) F [2, 3, 1, 0] rfl ?_
    exact jn4 _ h
theorem d_Rea_readWrapped_0 : decode M_Rea_readWrapped.2.1 0 = .ok (.aload_n 0, 1) := by decide +kernel
theorem d_Rea_readWrapped_1 : decode M_Rea_readWrapped.2.1 1 = .ok (.getfield 37, 3) := by decide +kernel
theorem d_Rea_readWrapped_4 : decode M_Rea_readWrapped.2.1 4 = .ok (.invokevirtual 122, 3) := by decide +kernel
theorem d_Rea_readWrapped_7 : decode M_Rea_readWrapped.2.1 7 = .ok (.iload_n 2, 1) := by decide +kernel
theorem d_Rea_readWrapped_8 : decode M_Rea_readWrapped.2.1 8 = .ok (.aload_n 0, 1) := by decide +kernel
theorem d_Rea_readWrapped_9 : decode M_Rea_readWrapped.2.1 9 = .ok (.getfield 37, 3) := by decide +kernel
theorem d_Rea_readWrapped_12 : decode M_Rea_readWrapped.2.1 12 = .ok (.invokestatic 125, 3) := by decide +kernel
theorem d_Rea_readWrapped_15 : decode M_Rea_readWrapped.2.1 15 = .ok (.aload_n 0, 1) := by decide +kernel
theorem d_Rea_readWrapped_16 : decode M_Rea_readWrapped.2.1 16 = .ok (.aload_n 1, 1) := by decide +kernel
theorem d_Rea_readWrapped_17 : decode M_Rea_readWrapped.2.1 17 = .ok (.invokevirtual 129, 3) := by decide +kernel
theorem d_Rea_readWrapped_20 : decode M_Rea_readWrapped.2.1 20 = .ok (.istore_n 3, 1) := by decide +kernel
theorem d_Rea_readWrapped_21 : decode M_Rea_readWrapped.2.1 21 = .ok (.iload_n 3, 1) := by decide +kernel
theorem d_Rea_readWrapped_22 : decode M_Rea_readWrapped.2.1 22 = .ok (.ifCond .eq 5, 3) := by decide +kernel
theorem d_Rea_readWrapped_25 : decode M_Rea_readWrapped.2.1 25 = .ok (.iload_n 3, 1) := by decide +kernel
theorem d_Rea_readWrapped_26 : decode M_Rea_readWrapped.2.1 26 = .ok (.ireturn, 1) := by decide +kernel
theorem d_Rea_readWrapped_27 : decode M_Rea_readWrapped.2.1 27 = .ok (.aload_n 0, 1) := by decide +kernel
theorem d_Rea_readWrapped_28 : decode M_Rea_readWrapped.2.1 28 = .ok (.getfield 31, 3) := by decide +kernel
theorem d_Rea_readWrapped_31 : decode M_Rea_readWrapped.2.1 31 = .ok (.invokevirtual 122, 3) := by decide +kernel
theorem d_Rea_readWrapped_34 : decode M_Rea_readWrapped.2.1 34 = .ok (.iconst 0, 1) := by decide +kernel
theorem d_Rea_readWrapped_35 : decode M_Rea_readWrapped.2.1 35 = .ok (.istore 4, 2) := by decide +kernel
theorem d_Rea_readWrapped_37 : decode M_Rea_readWrapped.2.1 37 = .ok (.iload 4, 2) := by decide +kernel
theorem d_Rea_readWrapped_39 : decode M_Rea_readWrapped.2.1 39 = .ok (.iload_n 2, 1) := by decide +kernel
theorem d_Rea_readWrapped_40 : decode M_Rea_readWrapped.2.1 40 = .ok (.if_icmp .ge 33, 3) := by decide +kernel
theorem d_Rea_readWrapped_43 : decode M_Rea_readWrapped.2.1 43 = .ok (.aload_n 0, 1) := by decide +kernel
theorem d_Rea_readWrapped_44 : decode M_Rea_readWrapped.2.1 44 = .ok (.aload_n 1, 1) := by decide +kernel
theorem d_Rea_readWrapped_45 : decode M_Rea_readWrapped.2.1 45 = .ok (.invokevirtual 71, 3) := by decide +kernel
theorem d_Rea_readWrapped_48 : decode M_Rea_readWrapped.2.1 48 = .ok (.istore 5, 2) := by decide +kernel
theorem d_Rea_readWrapped_50 : decode M_Rea_readWrapped.2.1 50 = .ok (.iload 5, 2) := by decide +kernel
theorem d_Rea_readWrapped_52 : decode M_Rea_readWrapped.2.1 52 = .ok (.ifCond .ge 6, 3) := by decide +kernel
theorem d_Rea_readWrapped_55 : decode M_Rea_readWrapped.2.1 55 = .ok (.iload 5, 2) := by decide +kernel
theorem d_Rea_readWrapped_57 : decode M_Rea_readWrapped.2.1 57 = .ok (.ireturn, 1) := by decide +kernel
theorem d_Rea_readWrapped_58 : decode M_Rea_readWrapped.2.1 58 = .ok (.aload_n 0, 1) := by decide +kernel
theorem d_Rea_readWrapped_59 : decode M_Rea_readWrapped.2.1 59 = .ok (.getfield 31, 3) := by decide +kernel
theorem d_Rea_readWrapped_62 : decode M_Rea_readWrapped.2.1 62 = .ok (.iload 5, 2) := by decide +kernel
theorem d_Rea_readWrapped_64 : decode M_Rea_readWrapped.2.1 64 = .ok (.invokevirtual 132, 3) := by decide +kernel
theorem d_Rea_readWrapped_67 : decode M_Rea_readWrapped.2.1 67 = .ok (.iinc 4 1, 3) := by decide +kernel
theorem d_Rea_readWrapped_70 : decode M_Rea_readWrapped.2.1 70 = .ok (.goto (-33), 3) := by decide +kernel
theorem d_Rea_readWrapped_73 : decode M_Rea_readWrapped.2.1 73 = .ok (.aload_n 0, 1) := by decide +kernel
theorem d_Rea_readWrapped_74 : decode M_Rea_readWrapped.2.1 74 = .ok (.getfield 37, 3) := by decide +kernel
theorem d_Rea_readWrapped_77 : decode M_Rea_readWrapped.2.1 77 = .ok (.invokevirtual 122, 3) := by decide +kernel
theorem d_Rea_readWrapped_80 : decode M_Rea_readWrapped.2.1 80 = .ok (.aload_n 0, 1) := by decide +kernel
theorem d_Rea_readWrapped_81 : decode M_Rea_readWrapped.2.1 81 = .ok (.getfield 31, 3) := by decide +kernel
theorem d_Rea_readWrapped_84 : decode M_Rea_readWrapped.2.1 84 = .ok (.aload_n 0, 1) := by decide +kernel
theorem d_Rea_readWrapped_85 : decode M_Rea_readWrapped.2.1 85 = .ok (.getfield 37, 3) := by decide +kernel
theorem d_Rea_readWrapped_88 : decode M_Rea_readWrapped.2.1 88 = .ok (.invokestatic 135, 3) := by decide +kernel
theorem d_Rea_readWrapped_91 : decode M_Rea_readWrapped.2.1 91 = .ok (.aload_n 0, 1) := by decide +kernel
theorem d_Rea_readWrapped_92 : decode M_Rea_readWrapped.2.1 92 = .ok (.aload_n 1, 1) := by decide +kernel
theorem d_Rea_readWrapped_93 : decode M_Rea_readWrapped.2.1 93 = .ok (.invokevirtual 129, 3) := by decide +kernel
theorem d_Rea_readWrapped_96 : decode M_Rea_readWrapped.2.1 96 = .ok (.ireturn, 1) := by decide +kernel
def f_Rea_readWrapped (x0 : Nat) (x1 : Nat) (x2 : Int32) (c : cM) (K : Int32 → cM → Prop) : Prop :=
  kd x0 = 6 ∧ (kd (rf x0 4) = 1 ∧ (f_Row_clear (rf x0 4) c (fun c3 => f_Wrap_putHead x2 (rf x0 4) c3 (fun c4 => f_Rea_readDue x0 x1 c4 (fun v6 c5 => ((v6 = 0) → (kd (rf x0 3) = 1 ∧ (f_Row_clear (rf x0 3) c5 (fun c9 => ∃ I10 : Nat → Int32 → cM → Prop, (∃ n, I10 n 0 c9) ∧ ∀ (n11 : Nat) (y14 : Int32) (c15 : cM), I10 n11 y14 c15 → (((x2 ≤ y14) → (f_Row_clear (rf x0 4) c15 (fun c17 => f_Wrap_putTail (rf x0 3) (rf x0 4) c17 (fun c18 => f_Rea_readDue x0 x1 c18 (fun v20 c19 => K v20 c19))))) ∧ (¬ (x2 ≤ y14) → (f_Rea_nextByte x0 x1 c15 (fun v22 c21 => ((0 ≤ v22) → (f_Row_put (rf x0 3) v22 c21 (fun c24 => ∃ m, m < n11 ∧ I10 m (y14 + 1) c24))) ∧ (¬ (0 ≤ v22) → (K v22 c21)))))))))) ∧ (¬ (v6 = 0) → (K v6 c5)))))))
theorem c_Rea_readWrapped {x0 : Nat} {x1 : Nat} {x2 : Int32} {c : cM} {K : Int32 → cM → Prop} (h : f_Rea_readWrapped x0 x1 x2 c K) : Ct M_Rea_readWrapped 3 0 0 (wd c) [.ref x0, .ref x1, .int x2] (PoI K) := by
  refine Ct.of (by decide +kernel) (Nat.le_of_ble_eq_true rfl) (fun Z T => ?_)
  have F := T.F
  unfold f_Rea_readWrapped at h
  show Z (wd c) 0 [(0, .ref x0), (1, .ref x1), (2, .int x2)] [] 0 0
  refine g_aload_n F (pc := 0) d_Rea_readWrapped_0 0 rfl ?_
  obtain ⟨o1, h⟩ := h
  refine gc_getR F (pc := 1) d_Rea_readWrapped_1 fi_Rea_37 o1 ?_
  obtain ⟨o2, h⟩ := h
  refine gc_callVV (As := []) (st := []) F (pc := 4) d_Rea_readWrapped_4 cb_Rea_122 iv_Row_clear np_Row_clear o2 vc_1 (c_Row_clear h) rfl (by decide) (Nat.le_refl _) (Nat.le_refl _) (Nat.le_of_ble_eq_true rfl) (fun c3 h => ?_)
  refine g_iload_n F (pc := 7) d_Rea_readWrapped_7 2 rfl (g_aload_n F (pc := 8) d_Rea_readWrapped_8 0 rfl (gc_getR F (pc := 9) d_Rea_readWrapped_9 fi_Rea_37 o1 ?_))
  refine gc_callSV (As := [.int x2, .ref (rf x0 4)]) (st := []) F (pc := 12) d_Rea_readWrapped_12 cb_Rea_125 iv_Wrap_putHead np_Wrap_putHead (c_Wrap_putHead h) rfl (by decide) (Nat.le_refl _) (Nat.le_refl _) (Nat.le_of_ble_eq_true rfl) (fun c4 h => ?_)
  refine g_aload_n F (pc := 15) d_Rea_readWrapped_15 0 rfl (g_aload_n F (pc := 16) d_Rea_readWrapped_16 1 rfl ?_)
  refine gc_callVI (As := [.ref x1]) (st := []) F (pc := 17) d_Rea_readWrapped_17 cb_Rea_129 iv_Rea_readDue np_Rea_readDue o1 vc_6 (c_Rea_readDue h) rfl (by decide) (Nat.le_refl _) (Nat.le_refl _) (Nat.le_of_ble_eq_true rfl) (fun v6 c5 h => ?_)
  refine g_istore_n (lv' := [(3, .int v6), (0, .ref x0), (1, .ref x1), (2, .int x2)]) F (pc := 20) d_Rea_readWrapped_20 (by decide) rfl (g_iload_n F (pc := 21) d_Rea_readWrapped_21 0 rfl ?_)
  refine g_if_eq (tgt := 27) F (pc := 22) d_Rea_readWrapped_22 (by decide) (fun b7 => ?_) (fun b7 => ?_)
  · replace h := h.1 b7
    refine g_aload_n F (pc := 27) d_Rea_readWrapped_27 1 rfl (gc_getR F (pc := 28) d_Rea_readWrapped_28 fi_Rea_31 o1 ?_)
    obtain ⟨o8, h⟩ := h
    refine gc_callVV (As := []) (st := []) F (pc := 31) d_Rea_readWrapped_31 cb_Rea_122 iv_Row_clear np_Row_clear o8 vc_1 (c_Row_clear h) rfl (by decide) (Nat.le_refl _) (Nat.le_refl _) (Nat.le_of_ble_eq_true rfl) (fun c9 h => ?_)
    refine g_iconst (v := 0) F (pc := 34) d_Rea_readWrapped_34 (by decide) (g_istore (lv' := [(4, .int 0), (3, .int v6), (0, .ref x0), (1, .ref x1), (2, .int x2)]) F (pc := 35) d_Rea_readWrapped_35 (by decide) rfl ?_)
    refine g_lv (lv' := [(0, .ref x0), (1, .ref x1), (2, .int x2), (4, .int 0)]) F [2, 3, 4, 0] rfl ?_
    obtain ⟨I10, ⟨n0, h⟩, hI10⟩ := h
    have lp13 : ∀ (n11 : Nat) (y14 : Int32) (c15 : cM), I10 n11 y14 c15 → Z (wd c15) 37 [(0, .ref x0), (1, .ref x1), (2, .int x2), (4, .int y14)] [] 0 0 := by
      intro n11
      induction n11 using Nat.strongRecOn with
      | _ n11 ih12 =>
        intro y14 c15 h
        replace h := hI10 n11 y14 c15 h
        refine g_iload F (pc := 37) d_Rea_readWrapped_37 3 rfl (g_iload_n F (pc := 39) d_Rea_readWrapped_39 2 rfl ?_)
        refine g_icmp_ge (tgt := 73) F (pc := 40) d_Rea_readWrapped_40 (by decide) (fun b16 => ?_) (fun b16 => ?_)
        · replace h := h.1 b16
          refine g_aload_n F (pc := 73) d_Rea_readWrapped_73 0 rfl (gc_getR F (pc := 74) d_Rea_readWrapped_74 fi_Rea_37 o1 ?_)
          refine gc_callVV (As := []) (st := []) F (pc := 77) d_Rea_readWrapped_77 cb_Rea_122 iv_Row_clear np_Row_clear o2 vc_1 (c_Row_clear h) rfl (by decide) (Nat.le_refl _) (Nat.le_refl _) (Nat.le_of_ble_eq_true rfl) (fun c17 h => ?_)
          refine g_aload_n F (pc := 80) d_Rea_readWrapped_80 0 rfl (gc_getR F (pc := 81) d_Rea_readWrapped_81 fi_Rea_31 o1 (g_aload_n F (pc := 84) d_Rea_readWrapped_84 0 rfl (gc_getR F (pc := 85) d_Rea_readWrapped_85 fi_Rea_37 o1 ?_)))
          refine gc_callSV (As := [.ref (rf x0 3), .ref (rf x0 4)]) (st := []) F (pc := 88) d_Rea_readWrapped_88 cb_Rea_135 iv_Wrap_putTail np_Wrap_putTail (c_Wrap_putTail h) rfl (by decide) (Nat.le_refl _) (Nat.le_refl _) (Nat.le_of_ble_eq_true rfl) (fun c18 h => ?_)
          refine g_aload_n F (pc := 91) d_Rea_readWrapped_91 0 rfl (g_aload_n F (pc := 92) d_Rea_readWrapped_92 1 rfl ?_)
          refine gc_callVI (As := [.ref x1]) (st := []) F (pc := 93) d_Rea_readWrapped_93 cb_Rea_129 iv_Rea_readDue np_Rea_readDue o1 vc_6 (c_Rea_readDue h) rfl (by decide) (Nat.le_refl _) (Nat.le_refl _) (Nat.le_of_ble_eq_true rfl) (fun v20 c19 h => ?_)
          exact g_iret T (pc := 96) d_Rea_readWrapped_96 rfl (Nat.le_refl _) (Nat.le_refl _) (poI h)
        · replace h := h.2 b16
          refine g_aload_n F (pc := 43) d_Rea_readWrapped_43 0 rfl (g_aload_n F (pc := 44) d_Rea_readWrapped_44 1 rfl ?_)
          refine gc_callVI (As := [.ref x1]) (st := []) F (pc := 45) d_Rea_readWrapped_45 cb_Rea_71 iv_Rea_nextByte np_Rea_nextByte o1 vc_6 (c_Rea_nextByte h) rfl (by decide) (Nat.le_refl _) (Nat.le_refl _) (Nat.le_of_ble_eq_true rfl) (fun v22 c21 h => ?_)
          refine g_istore (lv' := [(5, .int v22), (0, .ref x0), (1, .ref x1), (2, .int x2), (4, .int y14)]) F (pc := 48) d_Rea_readWrapped_48 (by decide) rfl (g_iload F (pc := 50) d_Rea_readWrapped_50 0 rfl ?_)
          refine g_if_ge (tgt := 58) F (pc := 52) d_Rea_readWrapped_52 (by decide) (fun b23 => ?_) (fun b23 => ?_)
          · replace h := h.1 b23
            refine g_aload_n F (pc := 58) d_Rea_readWrapped_58 1 rfl (gc_getR F (pc := 59) d_Rea_readWrapped_59 fi_Rea_31 o1 (g_iload F (pc := 62) d_Rea_readWrapped_62 0 rfl ?_))
            refine gc_callVV (As := [.int v22]) (st := []) F (pc := 64) d_Rea_readWrapped_64 cb_Rea_132 iv_Row_put np_Row_put o8 vc_1 (c_Row_put h) rfl (by decide) (Nat.le_refl _) (Nat.le_refl _) (Nat.le_of_ble_eq_true rfl) (fun c24 h => ?_)
            refine g_iinc (v := (y14 + 1)) (lv' := [(4, .int (y14 + 1)), (5, .int v22), (0, .ref x0), (1, .ref x1), (2, .int x2)]) F (pc := 67) d_Rea_readWrapped_67 4 rfl (sk_inc (by decide)) (by decide) rfl (g_goto (tgt := 37) F (pc := 70) d_Rea_readWrapped_70 (by decide) ?_)
            refine g_lv (lv' := [(0, .ref x0), (1, .ref x1), (2, .int x2), (4, .int (y14 + 1))]) F [2, 3, 4, 0] rfl ?_
            obtain ⟨m, hm, h⟩ := h
            exact ih12 m hm _ _ h
          · replace h := h.2 b23
            refine g_iload F (pc := 55) d_Rea_readWrapped_55 0 rfl ?_
            exact g_iret T (pc := 57) d_Rea_readWrapped_57 rfl (Nat.le_refl _) (Nat.le_refl _) (poI h)
    exact lp13 n0 _ _ h
  · replace h := h.2 b7
    refine g_iload_n F (pc := 25) d_Rea_readWrapped_25 0 rfl ?_
    exact g_iret T (pc := 26) d_Rea_readWrapped_26 rfl (Nat.le_refl _) (Nat.le_refl _) (poI h)
theorem d_Rea_readThing_0 : decode M_Rea_readThing.2.1 0 = .ok (.aload_n 0, 1) := by decide +kernel
theorem d_Rea_readThing_1 : decode M_Rea_readThing.2.1 1 = .ok (.getfield 22, 3) := by decide +kernel
theorem d_Rea_readThing_4 : decode M_Rea_readThing.2.1 4 = .ok (.aload_n 0, 1) := by decide +kernel
theorem d_Rea_readThing_5 : decode M_Rea_readThing.2.1 5 = .ok (.getfield 18, 3) := by decide +kernel
theorem d_Rea_readThing_8 : decode M_Rea_readThing.2.1 8 = .ok (.aload_n 0, 1) := by decide +kernel
theorem d_Rea_readThing_9 : decode M_Rea_readThing.2.1 9 = .ok (.getfield 40, 3) := by decide +kernel
theorem d_Rea_readThing_12 : decode M_Rea_readThing.2.1 12 = .ok (.iastore, 1) := by decide +kernel
theorem d_Rea_readThing_13 : decode M_Rea_readThing.2.1 13 = .ok (.aload_n 0, 1) := by decide +kernel
theorem d_Rea_readThing_14 : decode M_Rea_readThing.2.1 14 = .ok (.aload_n 1, 1) := by decide +kernel
theorem d_Rea_readThing_15 : decode M_Rea_readThing.2.1 15 = .ok (.invokevirtual 71, 3) := by decide +kernel
theorem d_Rea_readThing_18 : decode M_Rea_readThing.2.1 18 = .ok (.istore_n 3, 1) := by decide +kernel
theorem d_Rea_readThing_19 : decode M_Rea_readThing.2.1 19 = .ok (.iload_n 3, 1) := by decide +kernel
theorem d_Rea_readThing_20 : decode M_Rea_readThing.2.1 20 = .ok (.ifCond .ge 5, 3) := by decide +kernel
theorem d_Rea_readThing_23 : decode M_Rea_readThing.2.1 23 = .ok (.iload_n 3, 1) := by decide +kernel
theorem d_Rea_readThing_24 : decode M_Rea_readThing.2.1 24 = .ok (.ireturn, 1) := by decide +kernel
theorem d_Rea_readThing_25 : decode M_Rea_readThing.2.1 25 = .ok (.iload_n 3, 1) := by decide +kernel
theorem d_Rea_readThing_26 : decode M_Rea_readThing.2.1 26 = .ok (.iconst 4, 1) := by decide +kernel
theorem d_Rea_readThing_27 : decode M_Rea_readThing.2.1 27 = .ok (.ishr, 1) := by decide +kernel
theorem d_Rea_readThing_28 : decode M_Rea_readThing.2.1 28 = .ok (.bipush 7, 2) := by decide +kernel
theorem d_Rea_readThing_30 : decode M_Rea_readThing.2.1 30 = .ok (.iand, 1) := by decide +kernel
theorem d_Rea_readThing_31 : decode M_Rea_readThing.2.1 31 = .ok (.istore 4, 2) := by decide +kernel
theorem d_Rea_readThing_33 : decode M_Rea_readThing.2.1 33 = .ok (.iload 4, 2) := by decide +kernel
theorem d_Rea_readThing_35 : decode M_Rea_readThing.2.1 35 = .ok (.bipush 6, 2) := by decide +kernel
theorem d_Rea_readThing_37 : decode M_Rea_readThing.2.1 37 = .ok (.if_icmp .ne 7, 3) := by decide +kernel
theorem d_Rea_readThing_40 : decode M_Rea_readThing.2.1 40 = .ok (.iconst 1, 1) := by decide +kernel
theorem d_Rea_readThing_41 : decode M_Rea_readThing.2.1 41 = .ok (.goto 4, 3) := by decide +kernel
theorem d_Rea_readThing_44 : decode M_Rea_readThing.2.1 44 = .ok (.iconst 0, 1) := by decide +kernel
theorem d_Rea_readThing_45 : decode M_Rea_readThing.2.1 45 = .ok (.istore 5, 2) := by decide +kernel
theorem d_Rea_readThing_47 : decode M_Rea_readThing.2.1 47 = .ok (.iload 5, 2) := by decide +kernel
theorem d_Rea_readThing_49 : decode M_Rea_readThing.2.1 49 = .ok (.ifCond .ne 18, 3) := by decide +kernel
theorem d_Rea_readThing_52 : decode M_Rea_readThing.2.1 52 = .ok (.iload 4, 2) := by decide +kernel
theorem d_Rea_readThing_54 : decode M_Rea_readThing.2.1 54 = .ok (.iconst 1, 1) := by decide +kernel
theorem d_Rea_readThing_55 : decode M_Rea_readThing.2.1 55 = .ok (.if_icmp .lt 9, 3) := by decide +kernel
theorem d_Rea_readThing_58 : decode M_Rea_readThing.2.1 58 = .ok (.iload 4, 2) := by decide +kernel
theorem d_Rea_readThing_60 : decode M_Rea_readThing.2.1 60 = .ok (.iconst 3, 1) := by decide +kernel
theorem d_Rea_readThing_61 : decode M_Rea_readThing.2.1 61 = .ok (.if_icmp .le 6, 3) := by decide +kernel
theorem d_Rea_readThing_64 : decode M_Rea_readThing.2.1 64 = .ok (.bipush (-6), 2) := by decide +kernel
theorem d_Rea_readThing_66 : decode M_Rea_readThing.2.1 66 = .ok (.ireturn, 1) := by decide +kernel
theorem d_Rea_readThing_67 : decode M_Rea_readThing.2.1 67 = .ok (.aload_n 0, 1) := by decide +kernel
theorem d_Rea_readThing_68 : decode M_Rea_readThing.2.1 68 = .ok (.aload_n 1, 1) := by decide +kernel
theorem d_Rea_readThing_69 : decode M_Rea_readThing.2.1 69 = .ok (.iload_n 3, 1) := by decide +kernel
theorem d_Rea_readThing_70 : decode M_Rea_readThing.2.1 70 = .ok (.invokevirtual 75, 3) := by decide +kernel
theorem d_Rea_readThing_73 : decode M_Rea_readThing.2.1 73 = .ok (.istore 6, 2) := by decide +kernel
theorem d_Rea_readThing_75 : decode M_Rea_readThing.2.1 75 = .ok (.iload 6, 2) := by decide +kernel
theorem d_Rea_readThing_77 : decode M_Rea_readThing.2.1 77 = .ok (.ifCond .ge 6, 3) := by decide +kernel
theorem d_Rea_readThing_80 : decode M_Rea_readThing.2.1 80 = .ok (.iload 6, 2) := by decide +kernel
theorem d_Rea_readThing_82 : decode M_Rea_readThing.2.1 82 = .ok (.ireturn, 1) := by decide +kernel
theorem d_Rea_readThing_83 : decode M_Rea_readThing.2.1 83 = .ok (.iload 5, 2) := by decide +kernel
theorem d_Rea_readThing_85 : decode M_Rea_readThing.2.1 85 = .ok (.ifCond .eq 11, 3) := by decide +kernel
theorem d_Rea_readThing_88 : decode M_Rea_readThing.2.1 88 = .ok (.aload_n 0, 1) := by decide +kernel
theorem d_Rea_readThing_89 : decode M_Rea_readThing.2.1 89 = .ok (.aload_n 1, 1) := by decide +kernel
theorem d_Rea_readThing_90 : decode M_Rea_readThing.2.1 90 = .ok (.invokevirtual 79, 3) := by decide +kernel
theorem d_Rea_readThing_93 : decode M_Rea_readThing.2.1 93 = .ok (.goto 4, 3) := by decide +kernel
theorem d_Rea_readThing_96 : decode M_Rea_readThing.2.1 96 = .ok (.iconst 0, 1) := by decide +kernel
theorem d_Rea_readThing_97 : decode M_Rea_readThing.2.1 97 = .ok (.istore 7, 2) := by decide +kernel
theorem d_Rea_readThing_99 : decode M_Rea_readThing.2.1 99 = .ok (.iload 7, 2) := by decide +kernel
theorem d_Rea_readThing_101 : decode M_Rea_readThing.2.1 101 = .ok (.ifCond .ge 6, 3) := by decide +kernel
theorem d_Rea_readThing_104 : decode M_Rea_readThing.2.1 104 = .ok (.iload 7, 2) := by decide +kernel
theorem d_Rea_readThing_106 : decode M_Rea_readThing.2.1 106 = .ok (.ireturn, 1) := by decide +kernel
theorem d_Rea_readThing_107 : decode M_Rea_readThing.2.1 107 = .ok (.aload_n 0, 1) := by decide +kernel
theorem d_Rea_readThing_108 : decode M_Rea_readThing.2.1 108 = .ok (.aload_n 1, 1) := by decide +kernel
theorem d_Rea_readThing_109 : decode M_Rea_readThing.2.1 109 = .ok (.iload 6, 2) := by decide +kernel
theorem d_Rea_readThing_111 : decode M_Rea_readThing.2.1 111 = .ok (.invokevirtual 82, 3) := by decide +kernel
theorem d_Rea_readThing_114 : decode M_Rea_readThing.2.1 114 = .ok (.istore 8, 2) := by decide +kernel
theorem d_Rea_readThing_116 : decode M_Rea_readThing.2.1 116 = .ok (.iload 8, 2) := by decide +kernel
theorem d_Rea_readThing_118 : decode M_Rea_readThing.2.1 118 = .ok (.ifCond .eq 6, 3) := by decide +kernel
theorem d_Rea_readThing_121 : decode M_Rea_readThing.2.1 121 = .ok (.iload 8, 2) := by decide +kernel
theorem d_Rea_readThing_123 : decode M_Rea_readThing.2.1 123 = .ok (.ireturn, 1) := by decide +kernel
theorem d_Rea_readThing_124 : decode M_Rea_readThing.2.1 124 = .ok (.iload 5, 2) := by decide +kernel
theorem d_Rea_readThing_126 : decode M_Rea_readThing.2.1 126 = .ok (.ifCond .eq 18, 3) := by decide +kernel
theorem d_Rea_readThing_129 : decode M_Rea_readThing.2.1 129 = .ok (.aload_n 0, 1) := by decide +kernel
theorem d_Rea_readThing_130 : decode M_Rea_readThing.2.1 130 = .ok (.aload_n 0, 1) := by decide +kernel
theorem d_Rea_readThing_131 : decode M_Rea_readThing.2.1 131 = .ok (.getfield 11, 3) := by decide +kernel
theorem d_Rea_readThing_134 : decode M_Rea_readThing.2.1 134 = .ok (.iload 7, 2) := by decide +kernel
theorem d_Rea_readThing_136 : decode M_Rea_readThing.2.1 136 = .ok (.aaload, 1) := by decide +kernel
theorem d_Rea_readThing_137 : decode M_Rea_readThing.2.1 137 = .ok (.aload_n 2, 1) := by decide +kernel
theorem d_Rea_readThing_138 : decode M_Rea_readThing.2.1 138 = .ok (.invokevirtual 85, 3) := by decide +kernel
theorem d_Rea_readThing_141 : decode M_Rea_readThing.2.1 141 = .ok (.goto 10, 3) := by decide +kernel
theorem d_Rea_readThing_144 : decode M_Rea_readThing.2.1 144 = .ok (.aload_n 0, 1) := by decide +kernel
theorem d_Rea_readThing_145 : decode M_Rea_readThing.2.1 145 = .ok (.iload 4, 2) := by decide +kernel
theorem d_Rea_readThing_147 : decode M_Rea_readThing.2.1 147 = .ok (.aload_n 2, 1) := by decide +kernel
theorem d_Rea_readThing_148 : decode M_Rea_readThing.2.1 148 = .ok (.invokevirtual 89, 3) := by decide +kernel
theorem d_Rea_readThing_151 : decode M_Rea_readThing.2.1 151 = .ok (.ireturn, 1) := by decide +kernel
def f_Rea_readThing (x0 : Nat) (x1 : Nat) (x2 : Nat) (c : cM) (K : Int32 → cM → Prop) : Prop :=
  kd x0 = 6 ∧ (kd (rf x0 2) = 100 ∧ (vp_in (c x0 1) (ln (rf x0 2)) ∧ (∀ c4 : cM, c4 = c_up c (rf x0 2) (Int32.toNatClampNeg (c x0 1)) (c x0 5) → (f_Rea_nextByte x0 x1 c4 (fun v6 c5 => ((0 ≤ v6) → (∃ J10 : Int32 → Prop, (∀ (s9 : Int32), J10 s9 → (∃ J15 : Prop, (J15  → (f_Rea_readNumber x0 x1 v6 c5 (fun v18 c17 => ((0 ≤ v18) → (∃ J25 : Int32 → cM → Prop, (∀ (s23 : Int32) (c24 : cM), J25 s23 c24 → (((0 ≤ s23) → (f_Rea_readWrapped x0 x1 v18 c24 (fun v29 c28 => ((v29 = 0) → (((s9 = 0) → (f_Rea_takeWhole x0 ((c_shr v6 4) &&& 7) x2 c28 (fun v33 c32 => K v33 c32))) ∧ (¬ (s9 = 0) → (kd (rf x0 0) = 102 ∧ (vp_in s23 (ln (rf x0 0)) ∧ (f_Rea_takeDifference x0 (rf (rf x0 0) (Int32.toNatClampNeg s23)) x2 c28 (fun v37 c36 => K v37 c36))))))) ∧ (¬ (v29 = 0) → (K v29 c28))))) ∧ (¬ (0 ≤ s23) → (K s23 c24)))) ∧ (((s9 = 0) → (J25 0 c17)) ∧ (¬ (s9 = 0) → (f_Rea_readOther x0 x1 c17 (fun v39 c38 => J25 v39 c38)))))) ∧ (¬ (0 ≤ v18) → (K v18 c17))))) ∧ (((¬ s9 = 0) → (J15)) ∧ (s9 = 0 → (((((c_shr v6 4) &&& 7) < 1) → (K (-6) c5)) ∧ (¬ (((c_shr v6 4) &&& 7) < 1) → (((((c_shr v6 4) &&& 7) ≤ 3) → (J15)) ∧ (¬ (((c_shr v6 4) &&& 7) ≤ 3) → (K (-6) c5))))))))) ∧ (((¬ ((c_shr v6 4) &&& 7) = 6) → (J10 0)) ∧ (((c_shr v6 4) &&& 7) = 6 → (J10 1))))) ∧ (¬ (0 ≤ v6) → (K v6 c5)))))))
theorem c_Rea_readThing {x0 : Nat} {x1 : Nat} {x2 : Nat} {c : cM} {K : Int32 → cM → Prop} (h : f_Rea_readThing x0 x1 x2 c K) : Ct M_Rea_readThing 4 0 0 (wd c) [.ref x0, .ref x1, .ref x2] (PoI K) := by
  refine Ct.of (by decide +kernel) (Nat.le_of_ble_eq_true rfl) (fun Z T => ?_)
  have F := T.F
  unfold f_Rea_readThing at h
  show Z (wd c) 0 [(0, .ref x0), (1, .ref x1), (2, .ref x2)] [] 0 0
  refine g_aload_n F (pc := 0) d_Rea_readThing_0 0 rfl ?_
  obtain ⟨o1, h⟩ := h
  refine gc_getR F (pc := 1) d_Rea_readThing_1 fi_Rea_22 o1 (g_aload_n F (pc := 4) d_Rea_readThing_4 0 rfl (gc_getI F (pc := 5) d_Rea_readThing_5 fi_Rea_18 o1 (g_aload_n F (pc := 8) d_Rea_readThing_8 0 rfl (gc_getI F (pc := 9) d_Rea_readThing_9 fi_Rea_40 o1 ?_))))
  obtain ⟨o2, h⟩ := h
  obtain ⟨o3, h⟩ := h
  refine gc_iast F (pc := 12) d_Rea_readThing_12 o2 o3 ?_
  obtain ⟨c4, ec4⟩ : ∃ c4 : cM, c4 = c_up c (rf x0 2) (Int32.toNatClampNeg (c x0 1)) (c x0 5) := ⟨_, rfl⟩
  rw [← ec4]
  replace h := h c4 ec4
  refine g_aload_n F (pc := 13) d_Rea_readThing_13 0 rfl (g_aload_n F (pc := 14) d_Rea_readThing_14 1 rfl ?_)
  refine gc_callVI (As := [.ref x1]) (st := []) F (pc := 15) d_Rea_readThing_15 cb_Rea_71 iv_Rea_nextByte np_Rea_nextByte o1 vc_6 (c_Rea_nextByte h) rfl (by decide) (Nat.le_refl _) (Nat.le_refl _) (Nat.le_of_ble_eq_true rfl) (fun v6 c5 h => ?_)
  refine g_istore_n (lv' := [(3, .int v6), (0, .ref x0), (1, .ref x1), (2, .ref x2)]) F (pc := 18) d_Rea_readThing_18 (by decide) rfl (g_iload_n F (pc := 19) d_Rea_readThing_19 0 rfl ?_)
  refine g_if_ge (tgt := 25) F (pc := 20) d_Rea_readThing_20 (by decide) (fun b7 => ?_) (fun b7 => ?_)
  · replace h := h.1 b7
    refine g_iload_n F (pc := 25) d_Rea_readThing_25 0 rfl (g_iconst (v := 4) F (pc := 26) d_Rea_readThing_26 (by decide) (g_ishr F (pc := 27) d_Rea_readThing_27 (g_bipush (v := 7) F (pc := 28) d_Rea_readThing_28 (by decide) (g_iand F (pc := 30) d_Rea_readThing_30 (g_istore (lv' := [(4, .int ((c_shr v6 4) &&& 7)), (3, .int v6), (0, .ref x0), (1, .ref x1), (2, .ref x2)]) F (pc := 31) d_Rea_readThing_31 (by decide) rfl ?_)))))
    refine g_iload F (pc := 33) d_Rea_readThing_33 0 rfl (g_bipush (v := 6) F (pc := 35) d_Rea_readThing_35 (by decide) ?_)
    obtain ⟨J10, hJ10, h⟩ := h
    have jn11 : ∀ (s9 : Int32), J10 s9 → Z (wd c5) 45 [(0, .ref x0), (1, .ref x1), (2, .ref x2), (3, .int v6), (4, .int ((c_shr v6 4) &&& 7))] [.int s9] 0 0 := by
      intro s9 h
      replace h := hJ10 s9 h
      refine g_istore (lv' := [(5, .int s9), (0, .ref x0), (1, .ref x1), (2, .ref x2), (3, .int v6), (4, .int ((c_shr v6 4) &&& 7))]) F (pc := 45) d_Rea_readThing_45 (by decide) rfl (g_iload F (pc := 47) d_Rea_readThing_47 0 rfl ?_)
      obtain ⟨J15, hJ15, h⟩ := h
      have jn16 : J15  → Z (wd c5) 67 [(0, .ref x0), (1, .ref x1), (2, .ref x2), (3, .int v6), (4, .int ((c_shr v6 4) &&& 7)), (5, .int s9)] [] 0 0 := by
        intro  h
        replace h := hJ15  h
        refine g_aload_n F (pc := 67) d_Rea_readThing_67 0 rfl (g_aload_n F (pc := 68) d_Rea_readThing_68 1 rfl (g_iload_n F (pc := 69) d_Rea_readThing_69 3 rfl ?_))
        refine gc_callVI (As := [.ref x1, .int v6]) (st := []) F (pc := 70) d_Rea_readThing_70 cb_Rea_75 iv_Rea_readNumber np_Rea_readNumber o1 vc_6 (c_Rea_readNumber h) rfl (by decide) (Nat.le_refl _) (Nat.le_refl _) (Nat.le_of_ble_eq_true rfl) (fun v18 c17 h => ?_)
        refine g_istore (lv' := [(6, .int v18), (0, .ref x0), (1, .ref x1), (2, .ref x2), (3, .int v6), (4, .int ((c_shr v6 4) &&& 7)), (5, .int s9)]) F (pc := 73) d_Rea_readThing_73 (by decide) rfl (g_iload F (pc := 75) d_Rea_readThing_75 0 rfl ?_)
        refine g_if_ge (tgt := 83) F (pc := 77) d_Rea_readThing_77 (by decide) (fun b19 => ?_) (fun b19 => ?_)
        · replace h := h.1 b19
          refine g_iload F (pc := 83) d_Rea_readThing_83 6 rfl ?_
          obtain ⟨J25, hJ25, h⟩ := h
          have jn26 : ∀ (s23 : Int32) (c24 : cM), J25 s23 c24 → Z (wd c24) 97 [(0, .ref x0), (1, .ref x1), (2, .ref x2), (4, .int ((c_shr v6 4) &&& 7)), (5, .int s9), (6, .int v18)] [.int s23] 0 0 := by
            intro s23 c24 h
            replace h := hJ25 s23 c24 h
            refine g_istore (lv' := [(7, .int s23), (0, .ref x0), (1, .ref x1), (2, .ref x2), (4, .int ((c_shr v6 4) &&& 7)), (5, .int s9), (6, .int v18)]) F (pc := 97) d_Rea_readThing_97 (by decide) rfl (g_iload F (pc := 99) d_Rea_readThing_99 0 rfl ?_)
            refine g_if_ge (tgt := 107) F (pc := 101) d_Rea_readThing_101 (by decide) (fun b27 => ?_) (fun b27 => ?_)
            · replace h := h.1 b27
              refine g_aload_n F (pc := 107) d_Rea_readThing_107 1 rfl (g_aload_n F (pc := 108) d_Rea_readThing_108 2 rfl (g_iload F (pc := 109) d_Rea_readThing_109 6 rfl ?_))
              refine gc_callVI (As := [.ref x1, .int v18]) (st := []) F (pc := 111) d_Rea_readThing_111 cb_Rea_82 iv_Rea_readWrapped np_Rea_readWrapped o1 vc_6 (c_Rea_readWrapped h) rfl (by decide) (Nat.le_refl _) (Nat.le_refl _) (Nat.le_of_ble_eq_true rfl) (fun v29 c28 h => ?_)
              refine g_istore (lv' := [(8, .int v29), (7, .int s23), (0, .ref x0), (1, .ref x1), (2, .ref x2), (4, .int ((c_shr v6 4) &&& 7)), (5, .int s9), (6, .int v18)]) F (pc := 114) d_Rea_readThing_114 (by decide) rfl (g_iload F (pc := 116) d_Rea_readThing_116 0 rfl ?_)
              refine g_if_eq (tgt := 124) F (pc := 118) d_Rea_readThing_118 (by decide) (fun b30 => ?_) (fun b30 => ?_)
              · replace h := h.1 b30
                refine g_iload F (pc := 124) d_Rea_readThing_124 6 rfl ?_
                refine g_if_eq (tgt := 144) F (pc := 126) d_Rea_readThing_126 (by decide) (fun b31 => ?_) (fun b31 => ?_)
                · replace h := h.1 b31
                  refine g_aload_n F (pc := 144) d_Rea_readThing_144 2 rfl (g_iload F (pc := 145) d_Rea_readThing_145 5 rfl (g_aload_n F (pc := 147) d_Rea_readThing_147 4 rfl ?_))
                  refine gc_callVI (As := [.int ((c_shr v6 4) &&& 7), .ref x2]) (st := []) F (pc := 148) d_Rea_readThing_148 cb_Rea_89 iv_Rea_takeWhole np_Rea_takeWhole o1 vc_6 (c_Rea_takeWhole h) rfl (by decide) (Nat.le_refl _) (Nat.le_refl _) (Nat.le_of_ble_eq_true rfl) (fun v33 c32 h => ?_)
                  exact g_iret T (pc := 151) d_Rea_readThing_151 rfl (Nat.le_refl _) (Nat.le_refl _) (poI h)
                · replace h := h.2 b31
                  refine g_aload_n F (pc := 129) d_Rea_readThing_129 2 rfl (g_aload_n F (pc := 130) d_Rea_readThing_130 2 rfl (gc_getR F (pc := 131) d_Rea_readThing_131 fi_Rea_11 o1 (g_iload F (pc := 134) d_Rea_readThing_134 1 rfl ?_)))
                  obtain ⟨o34, h⟩ := h
                  obtain ⟨o35, h⟩ := h
                  refine gc_aald F (pc := 136) d_Rea_readThing_136 o34 o35 (g_aload_n F (pc := 137) d_Rea_readThing_137 4 rfl ?_)
                  refine gc_callVI (As := [.ref (rf (rf x0 0) (Int32.toNatClampNeg s23)), .ref x2]) (st := []) F (pc := 138) d_Rea_readThing_138 cb_Rea_85 iv_Rea_takeDifference np_Rea_takeDifference o1 vc_6 (c_Rea_takeDifference h) rfl (by decide) (Nat.le_refl _) (Nat.le_refl _) (Nat.le_of_ble_eq_true rfl) (fun v37 c36 h => ?_)
                  refine g_goto (tgt := 151) F (pc := 141) d_Rea_readThing_141 (by decide) ?_
                  exact g_iret T (pc := 151) d_Rea_readThing_151 rfl (Nat.le_refl _) (Nat.le_refl _) (poI h)
              · replace h := h.2 b30
                refine g_iload F (pc := 121) d_Rea_readThing_121 0 rfl ?_
                exact g_iret T (pc := 123) d_Rea_readThing_123 rfl (Nat.le_refl _) (Nat.le_refl _) (poI h)
            · replace h := h.2 b27
              refine g_iload F (pc := 104) d_Rea_readThing_104 0 rfl ?_
              exact g_iret T (pc := 106) d_Rea_readThing_106 rfl (Nat.le_refl _) (Nat.le_refl _) (poI h)
          refine g_if_eq (tgt := 96) F (pc := 85) d_Rea_readThing_85 (by decide) (fun b20 => ?_) (fun b20 => ?_)
          · replace h := h.1 b20
            refine g_iconst (v := 0) F (pc := 96) d_Rea_readThing_96 (by decide) ?_
            refine g_lv (lv' := [(0, .ref x0), (1, .ref x1), (2, .ref x2), (4, .int ((c_shr v6 4) &&& 7)), (5, .int s9), (6, .int v18)]) F [1, 2, 3, 5, 6, 0] rfl ?_
            exact jn26 _ _ h
          · replace h := h.2 b20
            refine g_aload_n F (pc := 88) d_Rea_readThing_88 1 rfl (g_aload_n F (pc := 89) d_Rea_readThing_89 2 rfl ?_)
            refine gc_callVI (As := [.ref x1]) (st := []) F (pc := 90) d_Rea_readThing_90 cb_Rea_79 iv_Rea_readOther np_Rea_readOther o1 vc_6 (c_Rea_readOther h) rfl (by decide) (Nat.le_refl _) (Nat.le_refl _) (Nat.le_of_ble_eq_true rfl) (fun v39 c38 h => ?_)
            refine g_goto (tgt := 97) F (pc := 93) d_Rea_readThing_93 (by decide) ?_
            refine g_lv (lv' := [(0, .ref x0), (1, .ref x1), (2, .ref x2), (4, .int ((c_shr v6 4) &&& 7)), (5, .int s9), (6, .int v18)]) F [1, 2, 3, 5, 6, 0] rfl ?_
            exact jn26 _ _ h
        · replace h := h.2 b19
          refine g_iload F (pc := 80) d_Rea_readThing_80 0 rfl ?_
          exact g_iret T (pc := 82) d_Rea_readThing_82 rfl (Nat.le_refl _) (Nat.le_refl _) (poI h)
      refine g_if_ne (tgt := 67) F (pc := 49) d_Rea_readThing_49 (by decide) (fun b12 => ?_) (fun b12 => ?_)
      · replace h := h.1 b12
        refine g_lv (lv' := [(0, .ref x0), (1, .ref x1), (2, .ref x2), (3, .int v6), (4, .int ((c_shr v6 4) &&& 7)), (5, .int s9)]) F [1, 2, 3, 4, 5, 0] rfl ?_
        exact jn16  h
      · replace h := h.2 b12
        refine g_iload F (pc := 52) d_Rea_readThing_52 5 rfl (g_iconst (v := 1) F (pc := 54) d_Rea_readThing_54 (by decide) ?_)
        refine g_icmp_lt (tgt := 64) F (pc := 55) d_Rea_readThing_55 (by decide) (fun b40 => ?_) (fun b40 => ?_)
        · replace h := h.1 b40
          refine g_bipush (v := (-6)) F (pc := 64) d_Rea_readThing_64 (by decide) ?_
          exact g_iret T (pc := 66) d_Rea_readThing_66 rfl (Nat.le_refl _) (Nat.le_refl _) (poI h)
        · replace h := h.2 b40
          refine g_iload F (pc := 58) d_Rea_readThing_58 5 rfl (g_iconst (v := 3) F (pc := 60) d_Rea_readThing_60 (by decide) ?_)
          refine g_icmp_le (tgt := 67) F (pc := 61) d_Rea_readThing_61 (by decide) (fun b41 => ?_) (fun b41 => ?_)
          · replace h := h.1 b41
            refine g_lv (lv' := [(0, .ref x0), (1, .ref x1), (2, .ref x2), (3, .int v6), (4, .int ((c_shr v6 4) &&& 7)), (5, .int s9)]) F [1, 2, 3, 4, 5, 0] rfl ?_
            exact jn16  h
          · replace h := h.2 b41
            refine g_bipush (v := (-6)) F (pc := 64) d_Rea_readThing_64 (by decide) ?_
            exact g_iret T (pc := 66) d_Rea_readThing_66 rfl (Nat.le_refl _) (Nat.le_refl _) (poI h)
    refine g_icmp_ne (tgt := 44) F (pc := 37) d_Rea_readThing_37 (by decide) (fun b8 => ?_) (fun b8 => ?_)
    · replace h := h.1 b8
      refine g_iconst (v := 0) F (pc := 44) d_Rea_readThing_44 (by decide) ?_
      refine g_lv (lv' := [(0, .ref x0), (1, .ref x1), (2, .ref x2), (3, .int v6), (4, .int ((c_shr v6 4) &&& 7))]) F [2, 3, 4, 1, 0] rfl ?_
      exact jn11 _ h
    · replace h := h.2 b8
      refine g_iconst (v := 1) F (pc := 40) d_Rea_readThing_40 (by decide) (g_goto (tgt := 45) F (pc := 41) d_Rea_readThing_41 (by decide) ?_)
      refine g_lv (lv' := [(0, .ref x0), (1, .ref x1), (2, .ref x2), (3, .int v6), (4, .int ((c_shr v6 4) &&& 7))]) F [2, 3, 4, 1, 0] rfl ?_
      exact jn11 _ h
  · replace h := h.2 b7
    refine g_iload_n F (pc := 23) d_Rea_readThing_23 0 rfl ?_
    exact g_iret T (pc := 24) d_Rea_readThing_24 rfl (Nat.le_refl _) (Nat.le_refl _) (poI h)
theorem d_Rea_readThings_0 : decode M_Rea_readThings.2.1 0 = .ok (.aload_n 1, 1) := by decide +kernel
theorem d_Rea_readThings_1 : decode M_Rea_readThings.2.1 1 = .ok (.bipush 8, 2) := by decide +kernel
theorem d_Rea_readThings_3 : decode M_Rea_readThings.2.1 3 = .ok (.invokevirtual 46, 3) := by decide +kernel
theorem d_Rea_readThings_6 : decode M_Rea_readThings.2.1 6 = .ok (.istore_n 2, 1) := by decide +kernel
theorem d_Rea_readThings_7 : decode M_Rea_readThings.2.1 7 = .ok (.aload_n 0, 1) := by decide +kernel
theorem d_Rea_readThings_8 : decode M_Rea_readThings.2.1 8 = .ok (.iconst 0, 1) := by decide +kernel
theorem d_Rea_readThings_9 : decode M_Rea_readThings.2.1 9 = .ok (.putfield 18, 3) := by decide +kernel
theorem d_Rea_readThings_12 : decode M_Rea_readThings.2.1 12 = .ok (.aload_n 0, 1) := by decide +kernel
theorem d_Rea_readThings_13 : decode M_Rea_readThings.2.1 13 = .ok (.bipush 12, 2) := by decide +kernel
theorem d_Rea_readThings_15 : decode M_Rea_readThings.2.1 15 = .ok (.putfield 40, 3) := by decide +kernel
theorem d_Rea_readThings_18 : decode M_Rea_readThings.2.1 18 = .ok (.aload_n 0, 1) := by decide +kernel
theorem d_Rea_readThings_19 : decode M_Rea_readThings.2.1 19 = .ok (.aload_n 1, 1) := by decide +kernel
theorem d_Rea_readThings_20 : decode M_Rea_readThings.2.1 20 = .ok (.getfield 50, 3) := by decide +kernel
theorem d_Rea_readThings_23 : decode M_Rea_readThings.2.1 23 = .ok (.bipush 20, 2) := by decide +kernel
theorem d_Rea_readThings_25 : decode M_Rea_readThings.2.1 25 = .ok (.isub, 1) := by decide +kernel
theorem d_Rea_readThings_26 : decode M_Rea_readThings.2.1 26 = .ok (.putfield 43, 3) := by decide +kernel
theorem d_Rea_readThings_29 : decode M_Rea_readThings.2.1 29 = .ok (.iconst 0, 1) := by decide +kernel
theorem d_Rea_readThings_30 : decode M_Rea_readThings.2.1 30 = .ok (.istore_n 3, 1) := by decide +kernel
theorem d_Rea_readThings_31 : decode M_Rea_readThings.2.1 31 = .ok (.iload_n 3, 1) := by decide +kernel
theorem d_Rea_readThings_32 : decode M_Rea_readThings.2.1 32 = .ok (.ifCond .ne 48, 3) := by decide +kernel
theorem d_Rea_readThings_35 : decode M_Rea_readThings.2.1 35 = .ok (.aload_n 0, 1) := by decide +kernel
theorem d_Rea_readThings_36 : decode M_Rea_readThings.2.1 36 = .ok (.getfield 18, 3) := by decide +kernel
theorem d_Rea_readThings_39 : decode M_Rea_readThings.2.1 39 = .ok (.iload_n 2, 1) := by decide +kernel
theorem d_Rea_readThings_40 : decode M_Rea_readThings.2.1 40 = .ok (.if_icmp .ge 40, 3) := by decide +kernel
theorem d_Rea_readThings_43 : decode M_Rea_readThings.2.1 43 = .ok (.aload_n 0, 1) := by decide +kernel
theorem d_Rea_readThings_44 : decode M_Rea_readThings.2.1 44 = .ok (.getfield 18, 3) := by decide +kernel
theorem d_Rea_readThings_47 : decode M_Rea_readThings.2.1 47 = .ok (.bipush 16, 2) := by decide +kernel
theorem d_Rea_readThings_49 : decode M_Rea_readThings.2.1 49 = .ok (.if_icmp .ge 31, 3) := by decide +kernel
theorem d_Rea_readThings_52 : decode M_Rea_readThings.2.1 52 = .ok (.aload_n 0, 1) := by decide +kernel
theorem d_Rea_readThings_53 : decode M_Rea_readThings.2.1 53 = .ok (.aload_n 1, 1) := by decide +kernel
theorem d_Rea_readThings_54 : decode M_Rea_readThings.2.1 54 = .ok (.aload_n 0, 1) := by decide +kernel
theorem d_Rea_readThings_55 : decode M_Rea_readThings.2.1 55 = .ok (.getfield 11, 3) := by decide +kernel
theorem d_Rea_readThings_58 : decode M_Rea_readThings.2.1 58 = .ok (.aload_n 0, 1) := by decide +kernel
theorem d_Rea_readThings_59 : decode M_Rea_readThings.2.1 59 = .ok (.getfield 18, 3) := by decide +kernel
theorem d_Rea_readThings_62 : decode M_Rea_readThings.2.1 62 = .ok (.aaload, 1) := by decide +kernel
theorem d_Rea_readThings_63 : decode M_Rea_readThings.2.1 63 = .ok (.invokevirtual 53, 3) := by decide +kernel
theorem d_Rea_readThings_66 : decode M_Rea_readThings.2.1 66 = .ok (.istore_n 3, 1) := by decide +kernel
theorem d_Rea_readThings_67 : decode M_Rea_readThings.2.1 67 = .ok (.aload_n 0, 1) := by decide +kernel
theorem d_Rea_readThings_68 : decode M_Rea_readThings.2.1 68 = .ok (.dup, 1) := by decide +kernel
theorem d_Rea_readThings_69 : decode M_Rea_readThings.2.1 69 = .ok (.getfield 18, 3) := by decide +kernel
theorem d_Rea_readThings_72 : decode M_Rea_readThings.2.1 72 = .ok (.iconst 1, 1) := by decide +kernel
theorem d_Rea_readThings_73 : decode M_Rea_readThings.2.1 73 = .ok (.iadd, 1) := by decide +kernel
theorem d_Rea_readThings_74 : decode M_Rea_readThings.2.1 74 = .ok (.putfield 18, 3) := by decide +kernel
theorem d_Rea_readThings_77 : decode M_Rea_readThings.2.1 77 = .ok (.goto (-46), 3) := by decide +kernel
theorem d_Rea_readThings_80 : decode M_Rea_readThings.2.1 80 = .ok (.iload_n 3, 1) := by decide +kernel
theorem d_Rea_readThings_81 : decode M_Rea_readThings.2.1 81 = .ok (.ifCond .ne 19, 3) := by decide +kernel
theorem d_Rea_readThings_84 : decode M_Rea_readThings.2.1 84 = .ok (.aload_n 0, 1) := by decide +kernel
theorem d_Rea_readThings_85 : decode M_Rea_readThings.2.1 85 = .ok (.getfield 40, 3) := by decide +kernel
theorem d_Rea_readThings_88 : decode M_Rea_readThings.2.1 88 = .ok (.aload_n 0, 1) := by decide +kernel
theorem d_Rea_readThings_89 : decode M_Rea_readThings.2.1 89 = .ok (.getfield 43, 3) := by decide +kernel
theorem d_Rea_readThings_92 : decode M_Rea_readThings.2.1 92 = .ok (.if_icmp .ge 8, 3) := by decide +kernel
theorem d_Rea_readThings_95 : decode M_Rea_readThings.2.1 95 = .ok (.bipush (-5), 2) := by decide +kernel
theorem d_Rea_readThings_97 : decode M_Rea_readThings.2.1 97 = .ok (.goto 4, 3) := by decide +kernel
theorem d_Rea_readThings_100 : decode M_Rea_readThings.2.1 100 = .ok (.iload_n 3, 1) := by decide +kernel
theorem d_Rea_readThings_101 : decode M_Rea_readThings.2.1 101 = .ok (.ireturn, 1) := by decide +kernel
def f_Rea_readThings (x0 : Nat) (x1 : Nat) (c : cM) (K : Int32 → cM → Prop) : Prop :=
  kd x1 = 1 ∧ (f_Row_intAt x1 8 c (fun v3 c2 => kd x0 = 6 ∧ (∀ c5 : cM, c5 = c_up c2 x0 1 0 → (∀ c6 : cM, c6 = c_up c5 x0 5 12 → (∀ c7 : cM, c7 = c_up c6 x0 6 ((c6 x1 1) - 20) → (∃ I8 : Nat → Int32 → cM → Prop, (∃ n, I8 n 0 c7) ∧ ∀ (n9 : Nat) (y12 : Int32) (c13 : cM), I8 n9 y12 c13 → (∃ J22 : Prop, (J22  → (((¬ y12 = 0) → (K y12 c13)) ∧ (y12 = 0 → ((((c13 x0 6) ≤ (c13 x0 5)) → (K y12 c13)) ∧ (¬ ((c13 x0 6) ≤ (c13 x0 5)) → (K (-5) c13)))))) ∧ (((¬ y12 = 0) → (J22)) ∧ (y12 = 0 → (((v3 ≤ (c13 x0 1)) → (J22)) ∧ (¬ (v3 ≤ (c13 x0 1)) → (((16 ≤ (c13 x0 1)) → (J22)) ∧ (¬ (16 ≤ (c13 x0 1)) → (kd (rf x0 0) = 102 ∧ (vp_in (c13 x0 1) (ln (rf x0 0)) ∧ (f_Rea_readThing x0 x1 (rf (rf x0 0) (Int32.toNatClampNeg (c13 x0 1))) c13 (fun v31 c30 => ∀ c32 : cM, c32 = c_up c30 x0 1 ((c30 x0 1) + 1) → (∃ m, m < n9 ∧ I8 m v31 c32))))))))))))))))))
theorem c_Rea_readThings {x0 : Nat} {x1 : Nat} {c : cM} {K : Int32 → cM → Prop} (h : f_Rea_readThings x0 x1 c K) : Ct M_Rea_readThings 5 0 0 (wd c) [.ref x0, .ref x1] (PoI K) := by
  refine Ct.of (by decide +kernel) (Nat.le_of_ble_eq_true rfl) (fun Z T => ?_)
  have F := T.F
  unfold f_Rea_readThings at h
  show Z (wd c) 0 [(0, .ref x0), (1, .ref x1)] [] 0 0
  refine g_aload_n F (pc := 0) d_Rea_readThings_0 1 rfl (g_bipush (v := 8) F (pc := 1) d_Rea_readThings_1 (by decide) ?_)
  obtain ⟨o1, h⟩ := h
  refine gc_callVI (As := [.int 8]) (st := []) F (pc := 3) d_Rea_readThings_3 cb_Rea_46 iv_Row_intAt np_Row_intAt o1 vc_1 (c_Row_intAt h) rfl (by decide) (Nat.le_refl _) (Nat.le_refl _) (Nat.le_of_ble_eq_true rfl) (fun v3 c2 h => ?_)
  refine g_istore_n (lv' := [(2, .int v3), (0, .ref x0), (1, .ref x1)]) F (pc := 6) d_Rea_readThings_6 (by decide) rfl (g_aload_n F (pc := 7) d_Rea_readThings_7 1 rfl (g_iconst (v := 0) F (pc := 8) d_Rea_readThings_8 (by decide) ?_))
  obtain ⟨o4, h⟩ := h
  refine gc_putI F (pc := 9) d_Rea_readThings_9 pi_Rea_18 o4 ?_
  obtain ⟨c5, ec5⟩ : ∃ c5 : cM, c5 = c_up c2 x0 1 0 := ⟨_, rfl⟩
  rw [← ec5]
  replace h := h c5 ec5
  refine g_aload_n F (pc := 12) d_Rea_readThings_12 1 rfl (g_bipush (v := 12) F (pc := 13) d_Rea_readThings_13 (by decide) (gc_putI F (pc := 15) d_Rea_readThings_15 pi_Rea_40 o4 ?_))
  obtain ⟨c6, ec6⟩ : ∃ c6 : cM, c6 = c_up c5 x0 5 12 := ⟨_, rfl⟩
  rw [← ec6]
  replace h := h c6 ec6
  refine g_aload_n F (pc := 18) d_Rea_readThings_18 1 rfl (g_aload_n F (pc := 19) d_Rea_readThings_19 2 rfl (gc_getI F (pc := 20) d_Rea_readThings_20 fi_Rea_50 o1 (g_bipush (v := 20) F (pc := 23) d_Rea_readThings_23 (by decide) (g_isub F (pc := 25) d_Rea_readThings_25 (gc_putI F (pc := 26) d_Rea_readThings_26 pi_Rea_43 o4 ?_)))))
  obtain ⟨c7, ec7⟩ : ∃ c7 : cM, c7 = c_up c6 x0 6 ((c6 x1 1) - 20) := ⟨_, rfl⟩
  rw [← ec7]
  replace h := h c7 ec7
  refine g_iconst (v := 0) F (pc := 29) d_Rea_readThings_29 (by decide) (g_istore_n (lv' := [(3, .int 0), (2, .int v3), (0, .ref x0), (1, .ref x1)]) F (pc := 30) d_Rea_readThings_30 (by decide) rfl ?_)
  refine g_lv (lv' := [(0, .ref x0), (1, .ref x1), (2, .int v3), (3, .int 0)]) F [2, 3, 1, 0] rfl ?_
  obtain ⟨I8, ⟨n0, h⟩, hI8⟩ := h
  have lp11 : ∀ (n9 : Nat) (y12 : Int32) (c13 : cM), I8 n9 y12 c13 → Z (wd c13) 31 [(0, .ref x0), (1, .ref x1), (2, .int v3), (3, .int y12)] [] 0 0 := by
    intro n9
    induction n9 using Nat.strongRecOn with
    | _ n9 ih10 =>
      intro y12 c13 h
      replace h := hI8 n9 y12 c13 h
      refine g_iload_n F (pc := 31) d_Rea_readThings_31 3 rfl ?_
      obtain ⟨J22, hJ22, h⟩ := h
      have jn23 : J22  → Z (wd c13) 80 [(0, .ref x0), (3, .int y12)] [] 0 0 := by
        intro  h
        replace h := hJ22  h
        refine g_iload_n F (pc := 80) d_Rea_readThings_80 1 rfl ?_
        refine g_if_ne (tgt := 100) F (pc := 81) d_Rea_readThings_81 (by decide) (fun b24 => ?_) (fun b24 => ?_)
        · replace h := h.1 b24
          refine g_iload_n F (pc := 100) d_Rea_readThings_100 1 rfl ?_
          exact g_iret T (pc := 101) d_Rea_readThings_101 rfl (Nat.le_refl _) (Nat.le_refl _) (poI h)
        · replace h := h.2 b24
          refine g_aload_n F (pc := 84) d_Rea_readThings_84 0 rfl (gc_getI F (pc := 85) d_Rea_readThings_85 fi_Rea_40 o4 (g_aload_n F (pc := 88) d_Rea_readThings_88 0 rfl (gc_getI F (pc := 89) d_Rea_readThings_89 fi_Rea_43 o4 ?_)))
          refine g_icmp_ge (tgt := 100) F (pc := 92) d_Rea_readThings_92 (by decide) (fun b25 => ?_) (fun b25 => ?_)
          · replace h := h.1 b25
            refine g_iload_n F (pc := 100) d_Rea_readThings_100 1 rfl ?_
            exact g_iret T (pc := 101) d_Rea_readThings_101 rfl (Nat.le_refl _) (Nat.le_refl _) (poI h)
          · replace h := h.2 b25
            refine g_bipush (v := (-5)) F (pc := 95) d_Rea_readThings_95 (by decide) (g_goto (tgt := 101) F (pc := 97) d_Rea_readThings_97 (by decide) ?_)
            exact g_iret T (pc := 101) d_Rea_readThings_101 rfl (Nat.le_refl _) (Nat.le_refl _) (poI h)
      refine g_if_ne (tgt := 80) F (pc := 32) d_Rea_readThings_32 (by decide) (fun b14 => ?_) (fun b14 => ?_)
      · replace h := h.1 b14
        refine g_lv (lv' := [(0, .ref x0), (3, .int y12)]) F [0, 3] rfl ?_
        exact jn23  h
      · replace h := h.2 b14
        refine g_aload_n F (pc := 35) d_Rea_readThings_35 0 rfl (gc_getI F (pc := 36) d_Rea_readThings_36 fi_Rea_18 o4 (g_iload_n F (pc := 39) d_Rea_readThings_39 2 rfl ?_))
        refine g_icmp_ge (tgt := 80) F (pc := 40) d_Rea_readThings_40 (by decide) (fun b26 => ?_) (fun b26 => ?_)
        · replace h := h.1 b26
          refine g_lv (lv' := [(0, .ref x0), (3, .int y12)]) F [0, 3] rfl ?_
          exact jn23  h
        · replace h := h.2 b26
          refine g_aload_n F (pc := 43) d_Rea_readThings_43 0 rfl (gc_getI F (pc := 44) d_Rea_readThings_44 fi_Rea_18 o4 (g_bipush (v := 16) F (pc := 47) d_Rea_readThings_47 (by decide) ?_))
          refine g_icmp_ge (tgt := 80) F (pc := 49) d_Rea_readThings_49 (by decide) (fun b27 => ?_) (fun b27 => ?_)
          · replace h := h.1 b27
            refine g_lv (lv' := [(0, .ref x0), (3, .int y12)]) F [0, 3] rfl ?_
            exact jn23  h
          · replace h := h.2 b27
            refine g_aload_n F (pc := 52) d_Rea_readThings_52 0 rfl (g_aload_n F (pc := 53) d_Rea_readThings_53 1 rfl (g_aload_n F (pc := 54) d_Rea_readThings_54 0 rfl (gc_getR F (pc := 55) d_Rea_readThings_55 fi_Rea_11 o4 (g_aload_n F (pc := 58) d_Rea_readThings_58 0 rfl (gc_getI F (pc := 59) d_Rea_readThings_59 fi_Rea_18 o4 ?_)))))
            obtain ⟨o28, h⟩ := h
            obtain ⟨o29, h⟩ := h
            refine gc_aald F (pc := 62) d_Rea_readThings_62 o28 o29 ?_
            refine gc_callVI (As := [.ref x1, .ref (rf (rf x0 0) (Int32.toNatClampNeg (c13 x0 1)))]) (st := []) F (pc := 63) d_Rea_readThings_63 cb_Rea_53 iv_Rea_readThing np_Rea_readThing o4 vc_6 (c_Rea_readThing h) rfl (by decide) (Nat.le_refl _) (Nat.le_refl _) (Nat.le_of_ble_eq_true rfl) (fun v31 c30 h => ?_)
            refine g_istore_n (lv' := [(3, .int v31), (0, .ref x0), (1, .ref x1), (2, .int v3)]) F (pc := 66) d_Rea_readThings_66 (by decide) rfl (g_aload_n F (pc := 67) d_Rea_readThings_67 1 rfl (g_dup F (pc := 68) d_Rea_readThings_68 rfl (gc_getI F (pc := 69) d_Rea_readThings_69 fi_Rea_18 o4 (g_iconst (v := 1) F (pc := 72) d_Rea_readThings_72 (by decide) (g_iadd F (pc := 73) d_Rea_readThings_73 ?_)))))
            refine gc_putI F (pc := 74) d_Rea_readThings_74 pi_Rea_18 o4 ?_
            obtain ⟨c32, ec32⟩ : ∃ c32 : cM, c32 = c_up c30 x0 1 ((c30 x0 1) + 1) := ⟨_, rfl⟩
            rw [← ec32]
            replace h := h c32 ec32
            refine g_goto (tgt := 31) F (pc := 77) d_Rea_readThings_77 (by decide) ?_
            refine g_lv (lv' := [(0, .ref x0), (1, .ref x1), (2, .int v3), (3, .int v31)]) F [1, 2, 3, 0] rfl ?_
            obtain ⟨m, hm, h⟩ := h
            exact ih10 m hm _ _ h
  exact lp11 n0 _ _ h
theorem d_Rea_isReadBefore_0 : decode M_Rea_isReadBefore.2.1 0 = .ok (.iconst 0, 1) := by decide +kernel
theorem d_Rea_isReadBefore_1 : decode M_Rea_isReadBefore.2.1 1 = .ok (.istore_n 2, 1) := by decide +kernel
theorem d_Rea_isReadBefore_2 : decode M_Rea_isReadBefore.2.1 2 = .ok (.iload_n 2, 1) := by decide +kernel
theorem d_Rea_isReadBefore_3 : decode M_Rea_isReadBefore.2.1 3 = .ok (.iload_n 1, 1) := by decide +kernel
theorem d_Rea_isReadBefore_4 : decode M_Rea_isReadBefore.2.1 4 = .ok (.if_icmp .ge 29, 3) := by decide +kernel
theorem d_Rea_isReadBefore_7 : decode M_Rea_isReadBefore.2.1 7 = .ok (.aload_n 0, 1) := by decide +kernel
theorem d_Rea_isReadBefore_8 : decode M_Rea_isReadBefore.2.1 8 = .ok (.getfield 11, 3) := by decide +kernel
theorem d_Rea_isReadBefore_11 : decode M_Rea_isReadBefore.2.1 11 = .ok (.iload_n 2, 1) := by decide +kernel
theorem d_Rea_isReadBefore_12 : decode M_Rea_isReadBefore.2.1 12 = .ok (.aaload, 1) := by decide +kernel
theorem d_Rea_isReadBefore_13 : decode M_Rea_isReadBefore.2.1 13 = .ok (.aload_n 0, 1) := by decide +kernel
theorem d_Rea_isReadBefore_14 : decode M_Rea_isReadBefore.2.1 14 = .ok (.getfield 11, 3) := by decide +kernel
theorem d_Rea_isReadBefore_17 : decode M_Rea_isReadBefore.2.1 17 = .ok (.iload_n 1, 1) := by decide +kernel
theorem d_Rea_isReadBefore_18 : decode M_Rea_isReadBefore.2.1 18 = .ok (.aaload, 1) := by decide +kernel
theorem d_Rea_isReadBefore_19 : decode M_Rea_isReadBefore.2.1 19 = .ok (.invokevirtual 67, 3) := by decide +kernel
theorem d_Rea_isReadBefore_22 : decode M_Rea_isReadBefore.2.1 22 = .ok (.ifCond .eq 5, 3) := by decide +kernel
theorem d_Rea_isReadBefore_25 : decode M_Rea_isReadBefore.2.1 25 = .ok (.iconst 1, 1) := by decide +kernel
theorem d_Rea_isReadBefore_26 : decode M_Rea_isReadBefore.2.1 26 = .ok (.ireturn, 1) := by decide +kernel
theorem d_Rea_isReadBefore_27 : decode M_Rea_isReadBefore.2.1 27 = .ok (.iinc 2 1, 3) := by decide +kernel
theorem d_Rea_isReadBefore_30 : decode M_Rea_isReadBefore.2.1 30 = .ok (.goto (-28), 3) := by decide +kernel
theorem d_Rea_isReadBefore_33 : decode M_Rea_isReadBefore.2.1 33 = .ok (.iconst 0, 1) := by decide +kernel
theorem d_Rea_isReadBefore_34 : decode M_Rea_isReadBefore.2.1 34 = .ok (.ireturn, 1) := by decide +kernel
def f_Rea_isReadBefore (x0 : Nat) (x1 : Int32) (c : cM) (K : Int32 → cM → Prop) : Prop :=
  ∃ I1 : Nat → Int32 → cM → Prop, (∃ n, I1 n 0 c) ∧ ∀ (n2 : Nat) (y5 : Int32) (c6 : cM), I1 n2 y5 c6 → (((x1 ≤ y5) → (K 0 c6)) ∧ (¬ (x1 ≤ y5) → (kd x0 = 6 ∧ (kd (rf x0 0) = 102 ∧ (vp_in y5 (ln (rf x0 0)) ∧ (vp_in x1 (ln (rf x0 0)) ∧ (kd (rf (rf x0 0) (Int32.toNatClampNeg y5)) = 3 ∧ (f_Thing_isNamedAs (rf (rf x0 0) (Int32.toNatClampNeg y5)) (rf (rf x0 0) (Int32.toNatClampNeg x1)) c6 (fun v14 c13 => ((v14 = 0) → (∃ m, m < n2 ∧ I1 m (y5 + 1) c13)) ∧ (¬ (v14 = 0) → (K 1 c13)))))))))))
theorem c_Rea_isReadBefore {x0 : Nat} {x1 : Int32} {c : cM} {K : Int32 → cM → Prop} (h : f_Rea_isReadBefore x0 x1 c K) : Ct M_Rea_isReadBefore 1 0 0 (wd c) [.ref x0, .int x1] (PoI K) := by
  refine Ct.of (by decide +kernel) (Nat.le_of_ble_eq_true rfl) (fun Z T => ?_)
  have F := T.F
  unfold f_Rea_isReadBefore at h
  show Z (wd c) 0 [(0, .ref x0), (1, .int x1)] [] 0 0
  refine g_iconst (v := 0) F (pc := 0) d_Rea_isReadBefore_0 (by decide) (g_istore_n (lv' := [(2, .int 0), (0, .ref x0), (1, .int x1)]) F (pc := 1) d_Rea_isReadBefore_1 (by decide) rfl ?_)
  refine g_lv (lv' := [(0, .ref x0), (1, .int x1), (2, .int 0)]) F [1, 2, 0] rfl ?_
  obtain ⟨I1, ⟨n0, h⟩, hI1⟩ := h
  have lp4 : ∀ (n2 : Nat) (y5 : Int32) (c6 : cM), I1 n2 y5 c6 → Z (wd c6) 2 [(0, .ref x0), (1, .int x1), (2, .int y5)] [] 0 0 := by
    intro n2
    induction n2 using Nat.strongRecOn with
    | _ n2 ih3 =>
      intro y5 c6 h
      replace h := hI1 n2 y5 c6 h
      refine g_iload_n F (pc := 2) d_Rea_isReadBefore_2 2 rfl (g_iload_n F (pc := 3) d_Rea_isReadBefore_3 1 rfl ?_)
      refine g_icmp_ge (tgt := 33) F (pc := 4) d_Rea_isReadBefore_4 (by decide) (fun b7 => ?_) (fun b7 => ?_)
      · replace h := h.1 b7
        refine g_iconst (v := 0) F (pc := 33) d_Rea_isReadBefore_33 (by decide) ?_
        exact g_zret T (pc := 34) d_Rea_isReadBefore_34 rfl (by decide) (Nat.le_refl _) (Nat.le_refl _) (poI h)
      · replace h := h.2 b7
        refine g_aload_n F (pc := 7) d_Rea_isReadBefore_7 0 rfl ?_
        obtain ⟨o8, h⟩ := h
        refine gc_getR F (pc := 8) d_Rea_isReadBefore_8 fi_Rea_11 o8 (g_iload_n F (pc := 11) d_Rea_isReadBefore_11 2 rfl ?_)
        obtain ⟨o9, h⟩ := h
        obtain ⟨o10, h⟩ := h
        refine gc_aald F (pc := 12) d_Rea_isReadBefore_12 o9 o10 (g_aload_n F (pc := 13) d_Rea_isReadBefore_13 0 rfl (gc_getR F (pc := 14) d_Rea_isReadBefore_14 fi_Rea_11 o8 (g_iload_n F (pc := 17) d_Rea_isReadBefore_17 1 rfl ?_)))
        obtain ⟨o11, h⟩ := h
        refine gc_aald F (pc := 18) d_Rea_isReadBefore_18 o9 o11 ?_
        obtain ⟨o12, h⟩ := h
        refine gc_callVI (As := [.ref (rf (rf x0 0) (Int32.toNatClampNeg x1))]) (st := []) F (pc := 19) d_Rea_isReadBefore_19 cb_Rea_67 iv_Thing_isNamedAs np_Thing_isNamedAs o12 vc_3 (c_Thing_isNamedAs h) rfl (by decide) (Nat.le_refl _) (Nat.le_refl _) (Nat.le_of_ble_eq_true rfl) (fun v14 c13 h => ?_)
        refine g_if_eq (tgt := 27) F (pc := 22) d_Rea_isReadBefore_22 (by decide) (fun b15 => ?_) (fun b15 => ?_)
        · replace h := h.1 b15
          refine g_iinc (v := (y5 + 1)) (lv' := [(2, .int (y5 + 1)), (0, .ref x0), (1, .int x1)]) F (pc := 27) d_Rea_isReadBefore_27 2 rfl (sk_inc (by decide)) (by decide) rfl (g_goto (tgt := 2) F (pc := 30) d_Rea_isReadBefore_30 (by decide) ?_)
          refine g_lv (lv' := [(0, .ref x0), (1, .int x1), (2, .int (y5 + 1))]) F [1, 2, 0] rfl ?_
          obtain ⟨m, hm, h⟩ := h
          exact ih3 m hm _ _ h
        · replace h := h.2 b15
          refine g_iconst (v := 1) F (pc := 25) d_Rea_isReadBefore_25 (by decide) ?_
          exact g_zret T (pc := 26) d_Rea_isReadBefore_26 rfl (by decide) (Nat.le_refl _) (Nat.le_refl _) (poI h)
  exact lp4 n0 _ _ h
theorem d_Rea_countNew_0 : decode M_Rea_countNew.2.1 0 = .ok (.iconst 0, 1) := by decide +kernel
theorem d_Rea_countNew_1 : decode M_Rea_countNew.2.1 1 = .ok (.istore_n 2, 1) := by decide +kernel
theorem d_Rea_countNew_2 : decode M_Rea_countNew.2.1 2 = .ok (.iconst 0, 1) := by decide +kernel
theorem d_Rea_countNew_3 : decode M_Rea_countNew.2.1 3 = .ok (.istore_n 3, 1) := by decide +kernel
theorem d_Rea_countNew_4 : decode M_Rea_countNew.2.1 4 = .ok (.iload_n 3, 1) := by decide +kernel
theorem d_Rea_countNew_5 : decode M_Rea_countNew.2.1 5 = .ok (.aload_n 0, 1) := by decide +kernel
theorem d_Rea_countNew_6 : decode M_Rea_countNew.2.1 6 = .ok (.getfield 18, 3) := by decide +kernel
theorem d_Rea_countNew_9 : decode M_Rea_countNew.2.1 9 = .ok (.if_icmp .ge 34, 3) := by decide +kernel
theorem d_Rea_countNew_12 : decode M_Rea_countNew.2.1 12 = .ok (.aload_n 1, 1) := by decide +kernel
theorem d_Rea_countNew_13 : decode M_Rea_countNew.2.1 13 = .ok (.aload_n 0, 1) := by decide +kernel
theorem d_Rea_countNew_14 : decode M_Rea_countNew.2.1 14 = .ok (.getfield 11, 3) := by decide +kernel
theorem d_Rea_countNew_17 : decode M_Rea_countNew.2.1 17 = .ok (.iload_n 3, 1) := by decide +kernel
theorem d_Rea_countNew_18 : decode M_Rea_countNew.2.1 18 = .ok (.aaload, 1) := by decide +kernel
theorem d_Rea_countNew_19 : decode M_Rea_countNew.2.1 19 = .ok (.invokevirtual 57, 3) := by decide +kernel
theorem d_Rea_countNew_22 : decode M_Rea_countNew.2.1 22 = .ok (.iconst (-1), 1) := by decide +kernel
theorem d_Rea_countNew_23 : decode M_Rea_countNew.2.1 23 = .ok (.if_icmp .ne 14, 3) := by decide +kernel
theorem d_Rea_countNew_26 : decode M_Rea_countNew.2.1 26 = .ok (.aload_n 0, 1) := by decide +kernel
theorem d_Rea_countNew_27 : decode M_Rea_countNew.2.1 27 = .ok (.iload_n 3, 1) := by decide +kernel
theorem d_Rea_countNew_28 : decode M_Rea_countNew.2.1 28 = .ok (.invokevirtual 63, 3) := by decide +kernel
theorem d_Rea_countNew_31 : decode M_Rea_countNew.2.1 31 = .ok (.ifCond .ne 6, 3) := by decide +kernel
theorem d_Rea_countNew_34 : decode M_Rea_countNew.2.1 34 = .ok (.iinc 2 1, 3) := by decide +kernel
theorem d_Rea_countNew_37 : decode M_Rea_countNew.2.1 37 = .ok (.iinc 3 1, 3) := by decide +kernel
theorem d_Rea_countNew_40 : decode M_Rea_countNew.2.1 40 = .ok (.goto (-36), 3) := by decide +kernel
theorem d_Rea_countNew_43 : decode M_Rea_countNew.2.1 43 = .ok (.iload_n 2, 1) := by decide +kernel
theorem d_Rea_countNew_44 : decode M_Rea_countNew.2.1 44 = .ok (.ireturn, 1) := by decide +kernel
def f_Rea_countNew (x0 : Nat) (x1 : Nat) (c : cM) (K : Int32 → cM → Prop) : Prop :=
  ∃ I1 : Nat → Int32 → Int32 → cM → Prop, (∃ n, I1 n 0 0 c) ∧ ∀ (n2 : Nat) (y5 : Int32) (y6 : Int32) (c7 : cM), I1 n2 y5 y6 c7 → (kd x0 = 6 ∧ ((((c7 x0 1) ≤ y6) → (K y5 c7)) ∧ (¬ ((c7 x0 1) ≤ y6) → (kd (rf x0 0) = 102 ∧ (vp_in y6 (ln (rf x0 0)) ∧ (kd x1 = 4 ∧ (f_Store_numberOf x1 (rf (rf x0 0) (Int32.toNatClampNeg y6)) c7 (fun v14 c13 => ∃ J21 : Int32 → cM → Prop, (∀ (y19 : Int32) (c20 : cM), J21 y19 c20 → (∃ m, m < n2 ∧ I1 m y19 (y6 + 1) c20)) ∧ (((¬ v14 = (-1)) → (J21 y5 c13)) ∧ (v14 = (-1) → (f_Rea_isReadBefore x0 y6 c13 (fun v24 c23 => ((¬ v24 = 0) → (J21 y5 c23)) ∧ (v24 = 0 → (J21 (y5 + 1) c23))))))))))))))
theorem c_Rea_countNew {x0 : Nat} {x1 : Nat} {c : cM} {K : Int32 → cM → Prop} (h : f_Rea_countNew x0 x1 c K) : Ct M_Rea_countNew 2 0 0 (wd c) [.ref x0, .ref x1] (PoI K) := by
  refine Ct.of (by decide +kernel) (Nat.le_of_ble_eq_true rfl) (fun Z T => ?_)
  have F := T.F
  unfold f_Rea_countNew at h
  show Z (wd c) 0 [(0, .ref x0), (1, .ref x1)] [] 0 0
  refine g_iconst (v := 0) F (pc := 0) d_Rea_countNew_0 (by decide) (g_istore_n (lv' := [(2, .int 0), (0, .ref x0), (1, .ref x1)]) F (pc := 1) d_Rea_countNew_1 (by decide) rfl (g_iconst (v := 0) F (pc := 2) d_Rea_countNew_2 (by decide) (g_istore_n (lv' := [(3, .int 0), (2, .int 0), (0, .ref x0), (1, .ref x1)]) F (pc := 3) d_Rea_countNew_3 (by decide) rfl ?_)))
  refine g_lv (lv' := [(0, .ref x0), (1, .ref x1), (2, .int 0), (3, .int 0)]) F [2, 3, 1, 0] rfl ?_
  obtain ⟨I1, ⟨n0, h⟩, hI1⟩ := h
  have lp4 : ∀ (n2 : Nat) (y5 : Int32) (y6 : Int32) (c7 : cM), I1 n2 y5 y6 c7 → Z (wd c7) 4 [(0, .ref x0), (1, .ref x1), (2, .int y5), (3, .int y6)] [] 0 0 := by
    intro n2
    induction n2 using Nat.strongRecOn with
    | _ n2 ih3 =>
      intro y5 y6 c7 h
      replace h := hI1 n2 y5 y6 c7 h
      refine g_iload_n F (pc := 4) d_Rea_countNew_4 3 rfl (g_aload_n F (pc := 5) d_Rea_countNew_5 0 rfl ?_)
      obtain ⟨o8, h⟩ := h
      refine gc_getI F (pc := 6) d_Rea_countNew_6 fi_Rea_18 o8 ?_
      refine g_icmp_ge (tgt := 43) F (pc := 9) d_Rea_countNew_9 (by decide) (fun b9 => ?_) (fun b9 => ?_)
      · replace h := h.1 b9
        refine g_iload_n F (pc := 43) d_Rea_countNew_43 2 rfl ?_
        exact g_iret T (pc := 44) d_Rea_countNew_44 rfl (Nat.le_refl _) (Nat.le_refl _) (poI h)
      · replace h := h.2 b9
        refine g_aload_n F (pc := 12) d_Rea_countNew_12 1 rfl (g_aload_n F (pc := 13) d_Rea_countNew_13 0 rfl (gc_getR F (pc := 14) d_Rea_countNew_14 fi_Rea_11 o8 (g_iload_n F (pc := 17) d_Rea_countNew_17 3 rfl ?_)))
        obtain ⟨o10, h⟩ := h
        obtain ⟨o11, h⟩ := h
        refine gc_aald F (pc := 18) d_Rea_countNew_18 o10 o11 ?_
        obtain ⟨o12, h⟩ := h
        refine gc_callVI (As := [.ref (rf (rf x0 0) (Int32.toNatClampNeg y6))]) (st := []) F (pc := 19) d_Rea_countNew_19 cb_Rea_57 iv_Store_numberOf np_Store_numberOf o12 vc_4 (c_Store_numberOf h) rfl (by decide) (Nat.le_refl _) (Nat.le_refl _) (Nat.le_of_ble_eq_true rfl) (fun v14 c13 h => ?_)
        refine g_iconst (v := (-1)) F (pc := 22) d_Rea_countNew_22 (by decide) ?_
        obtain ⟨J21, hJ21, h⟩ := h
        have jn22 : ∀ (y19 : Int32) (c20 : cM), J21 y19 c20 → Z (wd c20) 37 [(0, .ref x0), (1, .ref x1), (2, .int y19), (3, .int y6)] [] 0 0 := by
          intro y19 c20 h
          replace h := hJ21 y19 c20 h
          refine g_iinc (v := (y6 + 1)) (lv' := [(3, .int (y6 + 1)), (0, .ref x0), (1, .ref x1), (2, .int y19)]) F (pc := 37) d_Rea_countNew_37 3 rfl (sk_inc (by decide)) (by decide) rfl (g_goto (tgt := 4) F (pc := 40) d_Rea_countNew_40 (by decide) ?_)
          refine g_lv (lv' := [(0, .ref x0), (1, .ref x1), (2, .int y19), (3, .int (y6 + 1))]) F [1, 2, 3, 0] rfl ?_
          obtain ⟨m, hm, h⟩ := h
          exact ih3 m hm _ _ _ h
        refine g_icmp_ne (tgt := 37) F (pc := 23) d_Rea_countNew_23 (by decide) (fun b15 => ?_) (fun b15 => ?_)
        · replace h := h.1 b15
          exact jn22 _ _ h
        · replace h := h.2 b15
          refine g_aload_n F (pc := 26) d_Rea_countNew_26 0 rfl (g_iload_n F (pc := 27) d_Rea_countNew_27 3 rfl ?_)
          refine gc_callVI (As := [.int y6]) (st := []) F (pc := 28) d_Rea_countNew_28 cb_Rea_63 iv_Rea_isReadBefore np_Rea_isReadBefore o8 vc_6 (c_Rea_isReadBefore h) rfl (by decide) (Nat.le_refl _) (Nat.le_refl _) (Nat.le_of_ble_eq_true rfl) (fun v24 c23 h => ?_)
          refine g_if_ne (tgt := 37) F (pc := 31) d_Rea_countNew_31 (by decide) (fun b25 => ?_) (fun b25 => ?_)
          · replace h := h.1 b25
            exact jn22 _ _ h
          · replace h := h.2 b25
            refine g_iinc (v := (y5 + 1)) (lv' := [(2, .int (y5 + 1)), (0, .ref x0), (1, .ref x1), (3, .int y6)]) F (pc := 34) d_Rea_countNew_34 2 rfl (sk_inc (by decide)) (by decide) rfl ?_
            refine g_lv (lv' := [(0, .ref x0), (1, .ref x1), (2, .int (y5 + 1)), (3, .int y6)]) F [1, 2, 0, 3] rfl ?_
            exact jn22 _ _ h
  exact lp4 n0 _ _ _ h
