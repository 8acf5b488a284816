theorem d_Pre_0 : decode M_jdk_internal_util_Preconditions_checkIndex.2.1 0 = .ok (.iload_n 0, 1) := by decide +kernel
theorem d_Pre_1 : decode M_jdk_internal_util_Preconditions_checkIndex.2.1 1 = .ok (.ifCond .lt 8, 3) := by decide +kernel
theorem d_Pre_4 : decode M_jdk_internal_util_Preconditions_checkIndex.2.1 4 = .ok (.iload_n 0, 1) := by decide +kernel
theorem d_Pre_5 : decode M_jdk_internal_util_Preconditions_checkIndex.2.1 5 = .ok (.iload_n 1, 1) := by decide +kernel
theorem d_Pre_6 : decode M_jdk_internal_util_Preconditions_checkIndex.2.1 6 = .ok (.if_icmp .lt 10, 3) := by decide +kernel
theorem d_Pre_16 : decode M_jdk_internal_util_Preconditions_checkIndex.2.1 16 = .ok (.iload_n 0, 1) := by decide +kernel
theorem d_Pre_17 : decode M_jdk_internal_util_Preconditions_checkIndex.2.1 17 = .ok (.ireturn, 1) := by decide +kernel
theorem d_JStr_checkIndex_0 : decode M_JStr_checkIndex.2.1 0 = .ok (.iload_n 0, 1) := by decide +kernel
theorem d_JStr_checkIndex_1 : decode M_JStr_checkIndex.2.1 1 = .ok (.iload_n 1, 1) := by decide +kernel
theorem d_JStr_checkIndex_2 : decode M_JStr_checkIndex.2.1 2 = .ok (.getstatic 1053, 3) := by decide +kernel
theorem d_JStr_checkIndex_5 : decode M_JStr_checkIndex.2.1 5 = .ok (.invokestatic 1059, 3) := by decide +kernel
theorem d_JStr_checkIndex_8 : decode M_JStr_checkIndex.2.1 8 = .ok (.pop, 1) := by decide +kernel
theorem d_JStr_checkIndex_9 : decode M_JStr_checkIndex.2.1 9 = .ok (.return_, 1) := by decide +kernel
theorem c_Pre {x y : Int32} {v : Value} {w : sk_H} (h0 : ¬ x < 0) (h1 : x < y) (hs : (lg_sl [.int x, .int y, v]).length ≤ 3) (hl : lv_args 0 [.int x, .int y, v] = [(0, .int x), (1, .int y), (2, v)]) : Ct M_jdk_internal_util_Preconditions_checkIndex 0 0 0 w [.int x, .int y, v] (fun r w' => r = some (.int x) ∧ w' = w) := by
  refine Ct.of (by decide +kernel) hs (fun Z T => ?_)
  have F := T.F
  rw [hl]
  refine g_iload_n F (pc := 0) d_Pre_0 0 rfl (g_if_lt (tgt := 9) F (pc := 1) d_Pre_1 (by decide) (fun h => absurd h h0) (fun _ => ?_))
  refine g_iload_n F (pc := 4) d_Pre_4 0 rfl (g_iload_n F (pc := 5) d_Pre_5 1 rfl (g_icmp_lt (tgt := 16) F (pc := 6) d_Pre_6 (by decide) (fun _ => ?_) (fun h => absurd h1 h)))
  refine g_iload_n F (pc := 16) d_Pre_16 0 rfl ?_
  exact g_iret T (pc := 17) d_Pre_17 rfl (Nat.le_refl _) (Nat.le_refl _) ⟨rfl, rfl⟩
def f_JStr_checkIndex (x0 x1 : Int32) (c : cM) (K : cM → Prop) : Prop := ¬ x0 < 0 ∧ x0 < x1 ∧ K c
theorem c_JStr_checkIndex {x0 x1 : Int32} {c : cM} {K : cM → Prop} (h : f_JStr_checkIndex x0 x1 c K) : Ct M_JStr_checkIndex 1 0 0 (wd c) [.int x0, .int x1] (PoV K) := by
  obtain ⟨h0, h1, h2⟩ := h
  refine Ct.of (by decide +kernel) (Nat.le_of_ble_eq_true rfl) (fun Z T => ?_)
  have F := T.F
  show Z (wd c) 0 [(0, .int x0), (1, .int x1)] [] 0 0
  refine g_iload_n F (pc := 0) d_JStr_checkIndex_0 0 rfl (g_iload_n F (pc := 1) d_JStr_checkIndex_1 1 rfl (go_stF F (pc := 2) d_JStr_checkIndex_2 gs_JStr_1053 (fun v hv => ?_)))
  have e1 : (lg_sl [.int x0, .int x1, v]).length ≤ 3 := by rcases hv with rfl | rfl <;> exact Nat.le_of_ble_eq_true rfl
  have e2 : lv_args 0 [.int x0, .int x1, v] = [(0, .int x0), (1, .int x1), (2, v)] := by rcases hv with rfl | rfl <;> rfl
  refine g_callS (As := [.int x0, .int x1, v]) (st := []) F (pc := 5) d_JStr_checkIndex_5 cb_JStr_1059 iv_jdk_internal_util_Preconditions_checkIndex np_jdk_internal_util_Preconditions_checkIndex (c_Pre h0 h1 e1 e2) rfl (by decide) (Nat.le_refl _) (Nat.le_refl _) (Nat.le_of_ble_eq_true rfl) (fun r w' hp _ => ?_)
  obtain ⟨q1, q2⟩ := hp
  rw [q1, q2]
  refine g_pop F (pc := 8) d_JStr_checkIndex_8 rfl ?_
  exact g_vret T (pc := 9) d_JStr_checkIndex_9 rfl (Nat.le_refl _) (Nat.le_refl _) (poV h2)
