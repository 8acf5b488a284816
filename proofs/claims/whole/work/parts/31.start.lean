/-! THE CLAIM OUT OF ONE WALK OF THE LAW'S BODY. Your part is whole_start (and what it stands on); all else here is the same for every law, but numbers. -/
def R_law : String := "PackShelfLaw"
def lw_P (b : Addr) (xs : List Int32) (args : Array Value) (s : State) : Prop := args = #[.ref b] ∧ s.IntsAt b xs ∧ xs.length ≤ 2048 ∧ (Jvm.Cond.and given_1 narrow_1).before args s = true
def lw_Q (_ : Array Value) (s : State) (o : Outcome) (t : State) : Prop := o = .returned (some (.int 1)) ∧ Framed s o t [] 600000 7302250
def lw_Z (below : List Frame) (a : Array Value) (s : State) : State → Prop := fun t => ∃ o, t.status = .running ∧ Ended t below o ∧ lw_Q a s o t
/-- the law's own end, with 1 on the stack, nothing written that was there before, its room as the claim has it -/
theorem lw_ret {p : Program} {l : Launch} {e : Env} {s : State} {m : MethodId} {below : List Frame} {meth : Method} {c : Code} {b : Nat} (hx : p.tables.exec = Jvm.exec) (hb : c.code = code) (hr : meth.sig.returnType = ret) (hlocks : meth.locks = false) {pc : Nat} {H : Heap} {ls : Array Slot} (hdg : decode code pc = .ok (.ireturn, 1)) : W p l e room_1 s m #[Value.ref b] below meth c H [] 600000 7302250 (lw_Z below #[Value.ref b] s) (F0 m pc ls [.int 1]) := by
  intro T hT X
  obtain ⟨fs, hret, hrun, hended, hW, hframe⟩ := X.leave (v := some (.int 1)) (hlocks := hlocks) (fun h => by rw [hr] at h; cases h)
  have hmeth' : T.vm.method? m = some meth := X.method'
  refine ⟨T.setFrames fs, ?_, .returned (some (.int 1)), hrun, hended, rfl, ⟨_, rfl⟩, hW, hframe⟩
  jvm_step X.here [X.here.top, hx, hb, hdg, hmeth', hr, ret, narrow_b1]
  (try refine ⟨rfl, ?_⟩); (try refine ⟨rfl, ?_⟩)
  first | (intro acts; rw [hret _ acts rfl rfl rfl]) | rw [hret _ _ rfl rfl rfl]
  exact Steps.refl _
/-- what holds at the law's entry: the machine, the code, the tables' words (any of lw_tbl by 'hts w (by decide +kernel)'), the script of L ints xs at the cell b, what the Statement gives of the start (any of its parts by flat_of_before) -/
def lw_At (p : Program) (s : State) (m : MethodId) (meth : Method) (c : Code) (b L : Nat) (xs : Nat → Int32) : Prop :=
  p.tables.exec = Jvm.exec ∧ c.code = code ∧ meth.sig.returnType = ret ∧ c.maxLocals = 4 ∧ s.vm.findClass R_law = some m.cls ∧ (∀ w ∈ lw_tbl, w.before #[Value.ref b] s = true) ∧ va_X b L xs s s.heap ∧ b < s.heap.size ∧ meth.locks = false ∧ (Jvm.Cond.and given_1 narrow_1).before #[Value.ref b] s = true

def lx : Cond := Jvm.Cond.and given_1 narrow_1
theorem kn_0 : ∃ (C : String) (T : u_T) (N : Nat), vwCl[0]? = some (C, T, N) ∧ (∀ x ∈ u_ws C T N, x ∈ sk_ws) ∧ Cond.instantiable C N ∈ sk_ws := ⟨R_P, F_P, 9, rfl, uw_P, wi 75 (by decide +kernel) rfl⟩
theorem kn_1 : ∃ (C : String) (T : u_T) (N : Nat), vwCl[1]? = some (C, T, N) ∧ (∀ x ∈ u_ws C T N, x ∈ sk_ws) ∧ Cond.instantiable C N ∈ sk_ws := ⟨R_Row, F_Row, 2, rfl, uw_Row, wi 96 (by decide +kernel) rfl⟩
theorem kn_2 : ∃ (C : String) (T : u_T) (N : Nat), vwCl[2]? = some (C, T, N) ∧ (∀ x ∈ u_ws C T N, x ∈ sk_ws) ∧ Cond.instantiable C N ∈ sk_ws := ⟨R_Sum, F_Sum, 4, rfl, uw_Sum, wi 173 (by decide +kernel) rfl⟩
theorem kn_3 : ∃ (C : String) (T : u_T) (N : Nat), vwCl[3]? = some (C, T, N) ∧ (∀ x ∈ u_ws C T N, x ∈ sk_ws) ∧ Cond.instantiable C N ∈ sk_ws := ⟨R_Thing, F_Thing, 3, rfl, uw_Thing, wi 90 (by decide +kernel) rfl⟩
theorem kn_4 : ∃ (C : String) (T : u_T) (N : Nat), vwCl[4]? = some (C, T, N) ∧ (∀ x ∈ u_ws C T N, x ∈ sk_ws) ∧ Cond.instantiable C N ∈ sk_ws := ⟨R_Store, F_Store, 6, rfl, uw_Store, wi 83 (by decide +kernel) rfl⟩
theorem kn_5 : ∃ (C : String) (T : u_T) (N : Nat), vwCl[5]? = some (C, T, N) ∧ (∀ x ∈ u_ws C T N, x ∈ sk_ws) ∧ Cond.instantiable C N ∈ sk_ws := ⟨R_Wri, F_Wri, 4, rfl, uw_Wri, wi 197 (by decide +kernel) rfl⟩
theorem kn_6 : ∃ (C : String) (T : u_T) (N : Nat), vwCl[6]? = some (C, T, N) ∧ (∀ x ∈ u_ws C T N, x ∈ sk_ws) ∧ Cond.instantiable C N ∈ sk_ws := ⟨R_Rea, F_Rea, 7, rfl, uw_Rea, wi 218 (by decide +kernel) rfl⟩
theorem kn_7 : ∃ (C : String) (T : u_T) (N : Nat), vwCl[7]? = some (C, T, N) ∧ (∀ x ∈ u_ws C T N, x ∈ sk_ws) ∧ Cond.instantiable C N ∈ sk_ws := ⟨R_Mo, F_Mo, 25, rfl, uw_Mo, wi 712 (by decide +kernel) rfl⟩
def oT (i : Nat) : Term := match i with
  | 0 => .string "PackShelf$Sum" 49
  | 1 => .string "PackShelf$Sum" 51
  | 2 => .string "PackShelf$Sum" 53
  | 3 => .string "PackShelf" 206
  | 4 => .string "PackShelf" 208
  | 5 => .string "PackShelf" 118
  | _ => .string "PackShelf" 120
theorem st_F : ∀ j, j < 5 → Cond.eq (.elem (.static "PackShelf$Sum" "FIRST" "[I") (.int (Int32.ofNat j))) (.int (oc 1 j)) ∈ flatC lx := by decide +kernel
theorem st_A : ∀ j, j < 4 → Cond.eq (.elem (.static "PackShelf$Sum" "ADDED" "[I") (.int (Int32.ofNat j))) (.int (oc 2 j)) ∈ flatC lx := by decide +kernel
theorem st_1 : ∀ i, i < 7 → Cond.exactly (oT i) "java/lang/String" ∈ flatC lx := by decide +kernel
theorem st_2 : ∀ i, i < 7 → Cond.eq (.field (oT i) "java/lang/String" "coder" "B") (.int 0) ∈ flatC lx := by decide +kernel
theorem st_3 : ∀ i, i < 7 → Cond.arrayOf (.field (oT i) "java/lang/String" "value" "[B") .byte ∈ flatC lx := by decide +kernel
theorem st_4 : ∀ i, i < 7 → Cond.eq (.length (.field (oT i) "java/lang/String" "value" "[B")) (.int (Int32.ofNat ((oB.map List.length).getD i 0))) ∈ flatC lx := by decide +kernel
theorem st_5 : ∀ i, i < 7 → ∀ j, j < (oB.map List.length).getD i 0 → Cond.eq (.elem (.field (oT i) "java/lang/String" "value" "[B") (.int (Int32.ofNat j))) (.int ((oB.getD i []).getD j 0)) ∈ flatC lx := by decide +kernel
theorem st_6 : ∀ i, i < 7 → ∀ j, j < 7 → i ≠ j → Cond.not (.eq (oT i) (oT j)) ∈ flatC lx ∨ Cond.not (.eq (oT j) (oT i)) ∈ flatC lx := by decide +kernel
theorem st_7 : ∀ i, i < 7 → (oB.map List.length).getD i 0 < 2 ^ 31 := by decide +kernel
theorem sk_start {p : Program} {s : State} {m : MethodId} {meth : Method} {c : Code} {b L : Nat} {xs : Nat → Int32} (C0 : lw_At p s m meth c b L xs) : ∃ E : sk_E, eL E = L ∧ eX E = xs ∧ eO E 0 = b ∧ eA E = (fun q => s.heap.size ≤ q) ∧ va_K (eD E) vwCl (sk_t (eT E)) s ∧ sk_old E s s.heap := by
  obtain ⟨hx, hb, hr, hml, hown, hts, hX, hbl, hlk, hgv⟩ := C0
  have hts' : ∀ w ∈ sk_ws, w.before #[Value.ref b] s = true := fun w hw => hts w (List.mem_filter.mp hw).1
  have G : ∀ c ∈ flatC lx, c.before #[Value.ref b] s = true := flat_of_before lx hgv
  have hA : ∀ a : Nat, a < s.heap.size → ¬ s.heap.size ≤ a := fun a h => Nat.not_le.mpr h
  have kn : ∀ ci : Nat, (∃ (C : String) (T : u_T) (N : Nat), vwCl[ci]? = some (C, T, N) ∧ (∀ x ∈ u_ws C T N, x ∈ sk_ws) ∧ Cond.instantiable C N ∈ sk_ws) → ∃ r : ClassId × (Nat → Nat), ∀ q : vw_C, vwCl[ci]? = some q → u_Kn s q.1 q.2.1 q.2.2 r.1 r.2 := by
    intro ci h
    obtain ⟨C, T, N, h1, h2, h3⟩ := h
    obtain ⟨cC, iS, h4⟩ := u_known hts' h2 (hts' _ h3)
    refine ⟨(cC, iS), fun q hq => ?_⟩
    cases h1.symm.trans hq
    exact h4
  have hcl : ∀ ci : Nat, ∃ r : ClassId × (Nat → Nat), ∀ q : vw_C, vwCl[ci]? = some q → u_Kn s q.1 q.2.1 q.2.2 r.1 r.2 := by
    intro ci
    rcases ci with _ | _ | _ | _ | _ | _ | _ | _ | ci
    · exact kn _ kn_0
    · exact kn _ kn_1
    · exact kn _ kn_2
    · exact kn _ kn_3
    · exact kn _ kn_4
    · exact kn _ kn_5
    · exact kn _ kn_6
    · exact kn _ kn_7
    · refine ⟨(0, fun _ => 0), fun q hq => ?_⟩
      have h1 := (List.getElem?_eq_some_iff.mp hq).1
      have h2 : vwCl.length = 8 := rfl
      omega
  obtain ⟨D, hD⟩ := Classical.axiomOfChoice hcl
  obtain ⟨cI, kI, mI, i1, i2, i3⟩ := Cond.arrayClass_spec (hts' _ na_int)
  obtain ⟨cB, kB, mB, b1, b2, b3⟩ := Cond.arrayClass_spec (hts' _ na_boolean)
  have hAO : (Cond.arrayOver (.object "PackShelf$Thing")).before #[Value.ref b] s = true := hts _ (List.mem_of_getElem? (i := 89) (by decide +kernel))
  obtain ⟨mQ, cQ, kQ, q1, -, q2, q3, q4⟩ := Cond.arrayOver_spec hAO
  obtain ⟨tF, f1, f2⟩ := va_Tof (tm := .static "PackShelf$Sum" "FIRST" "[I") (ty := .int) (N := 5) (f := fun j => .int (oc 1 j)) (A := fun q => s.heap.size ≤ q) (by decide) (G _ (by decide +kernel)) (va_eqt (G _ (by decide +kernel))) (fun j hj => va_eqt (G _ (st_F j hj))) hA
  obtain ⟨tA, g1, g2⟩ := va_Tof (tm := .static "PackShelf$Sum" "ADDED" "[I") (ty := .int) (N := 4) (f := fun j => .int (oc 2 j)) (A := fun q => s.heap.size ≤ q) (by decide) (G _ (by decide +kernel)) (va_eqt (G _ (by decide +kernel))) (fun j hj => va_eqt (G _ (st_A j hj))) hA
  have zF : va_Z "PackShelf$Sum" "FIRST" "[I" (.ref tF) (fun q => s.heap.size ≤ q) s s.heap := va_Zref (hts _ (List.mem_of_getElem? (i := 382) (by decide +kernel))) (hts _ (List.mem_of_getElem? (i := 62) (by decide +kernel))) f1 hA
  have zA : va_Z "PackShelf$Sum" "ADDED" "[I" (.ref tA) (fun q => s.heap.size ≤ q) s s.heap := va_Zref (hts _ (List.mem_of_getElem? (i := 403) (by decide +kernel))) (hts _ (List.mem_of_getElem? (i := 62) (by decide +kernel))) g1 hA
  have zC : va_Z "java/lang/String" "COMPACT_STRINGS" "Z" (.int 1) (fun q => s.heap.size ≤ q) s s.heap := va_Zof (hts _ (List.mem_of_getElem? (i := 331) (by decide +kernel))) (hts _ (List.mem_of_getElem? (i := 67) (by decide +kernel))) (va_eqt (G _ (by decide +kernel))) hA
  have zQ : va_Zq "jdk/internal/util/Preconditions" "SIOOBE_FORMATTER" "Ljava/util/function/BiFunction;" (fun q => s.heap.size ≤ q) s s.heap := va_Zqof (hts _ (List.mem_of_getElem? (i := 347) (by decide +kernel))) (hts _ (List.mem_of_getElem? (i := 69) (by decide +kernel))) (G _ (by decide +kernel)) hA
  obtain ⟨aK, aV, s1, s2⟩ := vk_Sof (args := #[Value.ref b]) (s := s) (N := 7) (tm := oT) (len := oB.map List.length) (byt := oB) (A := fun q => s.heap.size ≤ q) st_7 (fun i hi => G _ (st_1 i hi)) (fun i hi => G _ (st_2 i hi)) (fun i hi => G _ (st_3 i hi)) (fun i hi => G _ (st_4 i hi)) (fun i hi j hj => G _ (st_5 i hi j hj)) (fun i j hi hj hne => (st_6 i hi j hj hne).elim (fun h => Or.inl (G _ h)) (fun h => Or.inr (G _ h))) hA
  have dup_112 : (Term.string "PackShelf" 112).eval #[Value.ref b] s none [] s = some (.ref (aK 1)) := by
    have g1 := G (Cond.eq (.string "PackShelf$Sum" 51) (.string "PackShelf" 112)) (by decide +kernel)
    obtain ⟨v, g2, g3⟩ := Cond.eq_one (show (Cond.eq (.string "PackShelf$Sum" 51) (.string "PackShelf" 112)).holds #[Value.ref b] s none s [] = true from g1)
    rw [show (Term.string "PackShelf$Sum" 51) = oT 1 from rfl, s2 1 (by decide)] at g2
    rw [g3, g2]
  have hq : ∃ tQ : Nat, va_Z "jdk/internal/util/Preconditions" "SIOOBE_FORMATTER" "Ljava/util/function/BiFunction;" .null (fun q => s.heap.size ≤ q) s s.heap ∨ va_Z "jdk/internal/util/Preconditions" "SIOOBE_FORMATTER" "Ljava/util/function/BiFunction;" (.ref tQ) (fun q => s.heap.size ≤ q) s s.heap := by
    rcases zQ with h | ⟨t, h⟩
    · exact ⟨0, Or.inl h⟩
    · exact ⟨t, Or.inr h⟩
  obtain ⟨tQ, hQ⟩ := hq
  obtain ⟨od, o0, o1, o2, o3, o4, o5⟩ : ∃ od : Nat → Nat, od 0 = b ∧ od 1 = tF ∧ od 2 = tA ∧ (∀ i, i < 7 → od (3 + i) = aK i) ∧ (∀ i, i < 7 → od (3 + 7 + i) = aV i) ∧ od 17 = tQ := by
    refine ⟨fun i => if i = 0 then b else if i = 1 then tF else if i = 2 then tA else if i < 10 then aK (i - 3) else if i < 17 then aV (i - 10) else tQ, by simp, by simp, by simp, fun i hi => ?_, fun i hi => ?_, by simp⟩
    · show (if 3 + i = 0 then _ else _) = _
      rw [if_neg (by omega), if_neg (by omega), if_neg (by omega), if_pos (by omega), Nat.add_sub_cancel_left]
    · show (if 3 + 7 + i = 0 then _ else _) = _
      rw [if_neg (by omega), if_neg (by omega), if_neg (by omega), if_neg (by omega), if_pos (by omega), Nat.add_sub_cancel_left]
  refine ⟨(fun ci => (D ci).1, fun ci => (D ci).2, fun t => match t with
    | 0 => cI
    | 1 => cB
    | _ => cQ, fun q => s.heap.size ≤ q, od, L, xs), rfl, rfl, o0, rfl, ⟨fun ci q hq => hD ci q hq, fun k q hq => ?_⟩, ⟨?_, Nat.lt_of_lt_of_le (by rw [show eO _ 0 = od 0 from rfl, o0]; exact hbl) (Nat.le_refl _), ?_⟩, ⟨?_, ?_⟩, ⟨?_, ?_⟩, ?_, ?_, zC, va_AO.of hAO, ?_⟩
  · rcases k with _ | _ | _ | k
    · cases hq
      exact ⟨fun N z => ⟨fun k h => (by cases h), kI, i2, mI, i3⟩, i1⟩
    · cases hq
      exact ⟨fun N z => ⟨fun k h => (by cases h), kB, b2, mB, b3⟩, b1⟩
    · cases hq
      exact ⟨fun N z => ⟨fun k h => (by cases h), kQ, q2, mQ, q3⟩, kQ, mQ, q2, q3, q1, q4⟩
    · have h1 := (List.getElem?_eq_some_iff.mp hq).1
      simp [sk_t, sk_tys] at h1
      omega
  · show va_X (od 0) L xs s s.heap
    rw [o0]; exact hX
  · show ¬ s.heap.size ≤ od 0
    rw [o0]; exact hA b hbl
  · show va_T .int (od 1) 5 _ _ s s.heap
    rw [o1]; exact f2
  · show va_Z _ _ _ (.ref (od 1)) _ s s.heap
    rw [o1]; exact zF
  · show va_T .int (od 2) 4 _ _ s s.heap
    rw [o2]; exact g2
  · show va_Z _ _ _ (.ref (od 2)) _ s s.heap
    rw [o2]; exact zA
  · refine ⟨fun i hi => ?_, fun i j hi hj e => ?_⟩
    · show va_O _ (od (3 + i)) _ s s.heap ∧ va_OF _ _ _ _ (od (3 + i)) _ s s.heap ∧ va_OF _ _ _ (.ref (od (3 + 7 + i))) (od (3 + i)) _ s s.heap ∧ va_T .byte (od (3 + 7 + i)) _ _ _ s s.heap
      rw [o3 i hi, o4 i hi]
      exact s1.1 i hi
    · have e' : od (3 + i) = od (3 + j) := e
      rw [o3 i hi, o3 j hj] at e'
      exact s1.2 i j hi hj e'
  · show ∀ q ∈ oR, vk_R q.1 q.2.1 q.2.2.1 (od (3 + q.2.2.2)) s
    have h0 : ∀ q ∈ oR, q.2.2.2 < 7 := by decide +kernel
    have h1 : ∀ q ∈ oR, vk_R q.1 q.2.1 q.2.2.1 (aK q.2.2.2) s := List.forall_mem_cons.mpr ⟨⟨hts (Cond.stringRef "PackShelf$Sum" 49 "commit ") (List.mem_of_getElem? (i := 315) (by decide +kernel)), (s2 0 (by decide))⟩, List.forall_mem_cons.mpr ⟨⟨hts (Cond.stringRef "PackShelf$Sum" 51 "tree ") (List.mem_of_getElem? (i := 316) (by decide +kernel)), (s2 1 (by decide))⟩, List.forall_mem_cons.mpr ⟨⟨hts (Cond.stringRef "PackShelf$Sum" 53 "blob ") (List.mem_of_getElem? (i := 317) (by decide +kernel)), (s2 2 (by decide))⟩, List.forall_mem_cons.mpr ⟨⟨hts (Cond.stringRef "PackShelf" 206 "100644 ") (List.mem_of_getElem? (i := 450) (by decide +kernel)), (s2 3 (by decide))⟩, List.forall_mem_cons.mpr ⟨⟨hts (Cond.stringRef "PackShelf" 208 "40000 ") (List.mem_of_getElem? (i := 451) (by decide +kernel)), (s2 4 (by decide))⟩, List.forall_mem_cons.mpr ⟨⟨hts (Cond.stringRef "PackShelf" 112 "tree ") (List.mem_of_getElem? (i := 469) (by decide +kernel)), (dup_112)⟩, List.forall_mem_cons.mpr ⟨⟨hts (Cond.stringRef "PackShelf" 118 "parent ") (List.mem_of_getElem? (i := 474) (by decide +kernel)), (s2 5 (by decide))⟩, List.forall_mem_cons.mpr ⟨⟨hts (Cond.stringRef "PackShelf" 120 "at ") (List.mem_of_getElem? (i := 475) (by decide +kernel)), (s2 6 (by decide))⟩, fun _ h => absurd h List.not_mem_nil⟩⟩⟩⟩⟩⟩⟩⟩
    intro q hq
    rw [o3 _ (h0 q hq)]
    exact h1 q hq
  · show va_Z _ _ _ .null _ s s.heap ∨ va_Z _ _ _ (.ref (od 17)) _ s s.heap
    rw [o5]; exact hQ
