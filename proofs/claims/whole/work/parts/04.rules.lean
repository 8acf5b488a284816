
abbrev sk_E : Type := (Nat → ClassId) × (Nat → Nat → Nat) × (Nat → ClassId) × (Nat → Prop) × (Nat → Nat) × Nat × (Nat → Int32)
abbrev eL (E : sk_E) : Nat := E.2.2.2.2.2.1
abbrev eX (E : sk_E) : Nat → Int32 := E.2.2.2.2.2.2
abbrev eD (E : sk_E) : va_G := (E.1, E.2.1)
abbrev eT (E : sk_E) : Nat → ClassId := E.2.2.1
abbrev eA (E : sk_E) : Nat → Prop := E.2.2.2.1
abbrev eO (E : sk_E) : Nat → Nat := E.2.2.2.2.1
def oc (i j : Nat) : Int32 := if i = 1 then oF.getD j 0 else if i = 2 then oA.getD j 0 else (oB.getD (i - (3 + oN)) []).getD j 0
def sk_old (E : sk_E) (U : State) (H : Heap) : Prop :=
  (va_X (eO E 0) (eL E) (eX E) U H ∧ eO E 0 < H.size ∧ ¬ eA E (eO E 0)) ∧ (va_T .int (eO E 1) 5 (fun j => .int (oc 1 j)) (eA E) U H ∧ va_Z "PackShelf$Sum" "FIRST" "[I" (.ref (eO E 1)) (eA E) U H) ∧ (va_T .int (eO E 2) 4 (fun j => .int (oc 2 j)) (eA E) U H ∧ va_Z "PackShelf$Sum" "ADDED" "[I" (.ref (eO E 2)) (eA E) U H) ∧
  vk_S oN (oB.map List.length) oB (fun i => eO E (3 + i)) (fun i => eO E (3 + oN + i)) (eA E) U H ∧ (∀ q ∈ oR, vk_R q.1 q.2.1 q.2.2.1 (eO E (3 + q.2.2.2)) U) ∧ oZ (eA E) (eO E) U H
theorem sk_old_kept {E : sk_E} {U : State} {H H1 : Heap} (h : sk_old E U H) (hz : H.size ≤ H1.size) (hq : ∀ a : Nat, a < H.size → ¬ eA E a → H1[a]? = H[a]?) : sk_old E U H1 := by
  obtain ⟨⟨x1, x2, x3⟩, ⟨f1, f2⟩, ⟨g1, g2⟩, s1, r1, z1⟩ := h
  exact ⟨⟨x1.kept (hq _ x2 x3), Nat.lt_of_lt_of_le x2 hz, x3⟩, ⟨f1.kept hq, f2.kept hq⟩, ⟨g1.kept hq, g2.kept hq⟩, s1.kept hq, r1, oZ_kept z1 hq⟩
theorem sk_old_same {E : sk_E} {u U : State} {H : Heap} (hv : u.vm = U.vm) (h : sk_old E u H) : sk_old E U H := by
  have hvm : u.vm.Alike U.vm := by rw [hv]; exact Vm.Alike.refl _
  obtain ⟨⟨x1, x2, x3⟩, ⟨f1, f2⟩, ⟨g1, g2⟩, s1, r1, z1⟩ := h
  exact ⟨⟨x1.moved hvm, x2, x3⟩, ⟨f1.moved hvm, f2.moved hvm⟩, ⟨g1.moved hvm, g2.moved hvm⟩, s1.moved hvm, fun q hq => (r1 q hq).same hv.symm, oZ_moved hvm z1⟩
theorem sk_old_warm {E : sk_E} {s U : State} {H : Heap} (hW : s.WarmedH U.vm) (h : sk_old E s H) : sk_old E U H := by
  obtain ⟨⟨x1, x2, x3⟩, ⟨f1, f2⟩, ⟨g1, g2⟩, s1, r1, z1⟩ := h
  exact ⟨⟨x1.moved hW.alike, x2, x3⟩, ⟨f1.moved hW.alike, f2.moved hW.alike⟩, ⟨g1.moved hW.alike, g2.moved hW.alike⟩, s1.moved hW.alike, fun q hq => (r1 q hq).warm hW, oZ_moved hW.alike z1⟩

def sk_Q (E : sk_E) (ad0 : Nat → Nat) (n0 : Nat) (Po : Option Value → sk_H → Prop) : Array Value → State → Outcome → State → Prop := fun _ st oc t =>
  (∃ (r : Option Value) (w : sk_H) (ad : Nat → Nat), oc = .returned (r.map (sk_v ad)) ∧ Po r w ∧ n0 ≤ w.length ∧ sk_oW w ∧ (∀ v, r = some v → sk_oV w.length v) ∧ (∀ i, i < n0 → ad i = ad0 i) ∧ va_P (eD E) vwCl (sk_w (eT E) ad w) t.heap ∧ va_D (eA E) (sk_w (eT E) ad w)) ∧ va_F (eA E) st t
def sk_G (p : Program) (l : Launch) (e : Env) (R : Room) (s : State) (m : MethodId) (args : Array Value) (below : List Frame) (meth : Method) (c : Code) (nL : Nat) (E : sk_E) (ad0 : Nat → Nat) (n0 : Nat) (Q : State → Prop) : sk_P := fun w pc lv st k n =>
  ∀ (ad : Nat → Nat) (H : Heap) (locs : List Loc) (ls : Array Slot), n0 ≤ w.length → sk_oW w → (∀ q ∈ lv, sk_oV w.length q.2) → (∀ v ∈ st, sk_oV w.length v) → (∀ i, i < n0 → ad i = ad0 i) → lv_has ls nL (sk_l ad lv) → va_P (eD E) vwCl (sk_w (eT E) ad w) H → va_D (eA E) (sk_w (eT E) ad w) → va_S (eA E) s.heap H locs →
    W p l e R s m args below meth c H locs k n Q (F0 m pc ls (st.map (sk_v ad)))
def sk_X (p : Program) (s : State) (m : MethodId) (args : Array Value) (meth : Method) (c : Code) (M : sk_M) (E : sk_E) (ad0 : Nat → Nat) (n0 : Nat) : Prop :=
  p.tables.exec = Jvm.exec ∧ c.code = M.2.1 ∧ c.maxLocals = M.2.2.1 ∧ s.vm.findClass M.1.cls = some m.cls ∧ (∀ w ∈ sk_ws, w.before args s = true) ∧ va_K (eD E) vwCl (sk_t (eT E)) s ∧ sk_old E s s.heap ∧ (∀ q, s.heap.size ≤ q → eA E q) ∧ sk_k ≤ n0 ∧ (∀ i, i < sk_k → ad0 i = eO E i) ∧ (M.1.name = "<init>" → meth.name = M.1.name)
def sk_r (R : Room) (d kc ks : Nat) : Prop := d ≤ R.frames ∧ kc ≤ R.cells ∧ ks ≤ R.slots ∧ 32 * d ≤ R.locals
def sk_F (M : sk_M) (d kc ks : Nat) (Z : sk_P) : Prop :=
  ∃ (p : Program) (l : Launch) (e : Env) (R : Room) (s : State) (m : MethodId) (args : Array Value) (below : List Frame) (meth : Method) (c : Code) (E : sk_E) (ad0 : Nat → Nat) (n0 : Nat) (Q : State → Prop),
    Z = sk_G p l e R s m args below meth c M.2.2.1 E ad0 n0 Q ∧ sk_X p s m args meth c M E ad0 n0 ∧ sk_r R d kc ks
def sk_T (M : sk_M) (d kc ks : Nat) (Po : Option Value → sk_H → Prop) (Z : sk_P) : Prop :=
  ∃ (p : Program) (l : Launch) (e : Env) (s : State) (m : MethodId) (args : Array Value) (below : List Frame) (meth : Method) (c : Code) (E : sk_E) (ad0 : Nat → Nat) (n0 : Nat),
    Z = sk_G p l e (sk_R d kc ks) s m args below meth c M.2.2.1 E ad0 n0 (MQ below (sk_Q E ad0 n0 Po) args s kc ks (eA E)) ∧ sk_X p s m args meth c M E ad0 n0 ∧ meth.sig.returnType = M.2.2.2 ∧ meth.locks = false
theorem sk_T.F {M : sk_M} {d kc ks : Nat} {Po : Option Value → sk_H → Prop} {Z : sk_P} (h : sk_T M d kc ks Po Z) : sk_F M d kc ks Z := by
  obtain ⟨p, l, e, s, m, args, below, meth, c, E, ad0, n0, h1, h2, -⟩ := h
  exact ⟨p, l, e, _, s, m, args, below, meth, c, E, ad0, n0, _, h1, h2, Nat.le_refl _, Nat.le_refl _, Nat.le_refl _, Nat.le_refl _⟩
def sk_pre (E : sk_E) (ad : Nat → Nat) (w : sk_H) (U : State) : Prop := (∀ q, U.heap.size ≤ q → eA E q) ∧ va_P (eD E) vwCl (sk_w (eT E) ad w) U.heap ∧ va_K (eD E) vwCl (sk_t (eT E)) U ∧ va_D (eA E) (sk_w (eT E) ad w) ∧ sk_old E U U.heap
def Ct (M : sk_M) (d kc ks : Nat) (w : sk_H) (as : List Value) (Po : Option Value → sk_H → Prop) : Prop :=
  ∀ (l : Launch) (E : sk_E) (ad : Nat → Nat), sk_oW w → (∀ v ∈ as, sk_oV w.length v) → (∀ i, i < sk_k → ad i = eO E i) →
    Met l M.1 (Cond.code M.1 M.2.1 M.2.2.1 M.2.2.2 :: sk_ws) (sk_R d kc ks) (va_Pc (as.map (sk_v ad)) (sk_pre E ad w)) (sk_Q E ad w.length Po) kc ks (eA E)
def c_ushr (x y : Int32) : Int32 := (x.toUInt32 >>> (y.toUInt32 &&& Int32.toUInt32 31)).toInt32
def c_shl (x y : Int32) : Int32 := x <<< (y &&& 31)
def c_shr (x y : Int32) : Int32 := x >>> (y &&& 31)
def c_rem (x y : Int32) : Int32 := x - x / y * y
def c_min (x y : Int32) : Int32 := if y < x then y else x
def c_i2c (x : Int32) : Int32 := (x.toUInt32 % 65536).toInt32
def c_lushr (x : Int64) (y : Int32) : Int64 := (x.toUInt64 >>> (y.toInt64.toUInt64 &&& Int64.toUInt64 63)).toInt64
def c_lshl (x : Int64) (y : Int32) : Int64 := x <<< (y.toInt64 &&& 63)
def c_lshr (x : Int64) (y : Int32) : Int64 := x >>> (y.toInt64 &&& 63)
theorem sk_inc {x : Int32} {z : Int} {v : Int32} (h : Int32.ofInt z = v) : x + Int32.ofInt z = x + v := by rw [h]
def sk_st1 (lv : List (Nat × Value)) (i : Nat) (v : Value) : List (Nat × Value) := (i, v) :: lv.filter (fun q => !(q.1 == i) && !(q.1 + 1 == i && q.2.category == 2))
def sk_st2 (lv : List (Nat × Value)) (i : Nat) (v : Value) : List (Nat × Value) := (i, v) :: lv.filter (fun q => !(q.1 == i) && (!(q.1 == i + 1) && !(q.1 + 1 == i && q.2.category == 2)))
theorem sk_st1_l (ad : Nat → Nat) (lv : List (Nat × Value)) (i : Nat) (v : Value) : (i, sk_v ad v) :: (sk_l ad lv).filter (fun q => !(q.1 == i) && !(q.1 + 1 == i && q.2.category == 2)) = sk_l ad (sk_st1 lv i v) := by
  unfold sk_st1 sk_l
  rw [List.map_cons, List.filter_map]
  congr 2
  apply List.filter_congr
  intro q _
  simp only [Function.comp, sk_cat]
theorem sk_st2_l (ad : Nat → Nat) (lv : List (Nat × Value)) (i : Nat) (v : Value) : (i, sk_v ad v) :: (sk_l ad lv).filter (fun q => !(q.1 == i) && (!(q.1 == i + 1) && !(q.1 + 1 == i && q.2.category == 2))) = sk_l ad (sk_st2 lv i v) := by
  unfold sk_st2 sk_l
  rw [List.map_cons, List.filter_map]
  congr 2
  apply List.filter_congr
  intro q _
  simp only [Function.comp, sk_cat]
theorem sk_st1_ok {N : Nat} {lv : List (Nat × Value)} {i : Nat} {v : Value} (h : ∀ q ∈ lv, sk_oV N q.2) (hv : sk_oV N v) : ∀ q ∈ sk_st1 lv i v, sk_oV N q.2 := by
  intro q hq
  rcases List.mem_cons.mp hq with e | e
  · rw [e]; exact hv
  · exact h q (List.mem_filter.mp e).1
theorem sk_st2_ok {N : Nat} {lv : List (Nat × Value)} {i : Nat} {v : Value} (h : ∀ q ∈ lv, sk_oV N q.2) (hv : sk_oV N v) : ∀ q ∈ sk_st2 lv i v, sk_oV N q.2 := by
  intro q hq
  rcases List.mem_cons.mp hq with e | e
  · rw [e]; exact hv
  · exact h q (List.mem_filter.mp e).1
theorem sk_l_at {ad : Nat → Nat} {lv : List (Nat × Value)} {j i : Nat} {v : Value} (h : lv[j]? = some (i, v)) : (sk_l ad lv)[j]? = some (i, sk_v ad v) := by
  unfold sk_l
  rw [List.getElem?_map, h]
  rfl
theorem sk_hd {α : Type} {P : α → Prop} {a : α} {l : List α} (h : ∀ v ∈ a :: l, P v) : P a := h a List.mem_cons_self
theorem sk_cats (ad : Nat → Nat) (st : List Value) : ((st.map (sk_v ad)).map fun v => v.category).sum = (st.map fun v => v.category).sum := by
  rw [List.map_map]
  congr 1
  apply List.map_congr_left
  intro v _
  exact sk_cat ad v
theorem sk_args (ad : Nat → Nat) : ∀ (as : List Value) (i : Nat), lv_args i (as.map (sk_v ad)) = sk_l ad (lv_args i as)
  | [], _ => rfl
  | v :: as, i => by
    have h := sk_args ad as
    simp only [List.map_cons, lv_args, sk_cat, sk_l, h]
theorem sk_slen (ad : Nat → Nat) (as : List Value) : (lg_sl (as.map (sk_v ad))).length = (lg_sl as).length := by
  induction as with
  | nil => rfl
  | cons v as ih =>
    simp only [lg_sl, List.map_cons, List.flatMap_cons, List.length_append, sk_cat] at ih ⊢
    rw [ih]
    split <;> rfl
theorem sk_args_ok {N : Nat} : ∀ (as : List Value) (i : Nat), (∀ v ∈ as, sk_oV N v) → ∀ q ∈ lv_args i as, sk_oV N q.2
  | [], _, _ => fun q h => by cases h
  | v :: as, i, h => by
    intro q hq
    simp only [lv_args, List.mem_cons] at hq
    rcases hq with e | e
    · rw [e]; exact sk_hd h
    · exact sk_args_ok as _ (sk_tail h) q e
theorem Ct.of {M : sk_M} {d kc ks : Nat} {w : sk_H} {as : List Value} {Po : Option Value → sk_H → Prop} (hy : plainName M.1.cls = true) (hlen : (lg_sl as).length ≤ M.2.2.1) (h : ∀ Z, sk_T M d kc ks Po Z → Z w 0 (lv_args 0 as) [] 0 0) : Ct M d kc ks w as Po := by
  intro l E ad hw has had
  refine Met.ofW (cc := M.2.1) (maxL := M.2.2.1) (ret := M.2.2.2) hy rfl ?_
  intro p e s m args below meth c s₁ B hml hv
  obtain ⟨rfl, hA, hP, hK, hD, hO⟩ := hv
  have hts := atoms_spec B.pre
  have hown := findClass_of_methodNamed B.named
  have hl := lv_entry (as.map (sk_v ad)) (n := M.2.2.1) (by rw [sk_slen]; exact hlen)
  rw [lg_entry_eq]
  rw [sk_args] at hl
  exact h _ ⟨p, l, e, s, m, _, below, meth, c, E, ad, w.length, rfl, ⟨B.exec, B.bytes, hml, hown, fun x hx => hts x (List.mem_cons_of_mem _ hx), hK, hO, hA, sk_oW_len hw, had, fun _ => (name_of_methodNamed B.named B.method).1⟩, B.returns, B.notSynchronized⟩ ad s.heap [] _ (Nat.le_refl _) hw (sk_args_ok as 0 has) (fun _ h => by cases h) (fun _ _ => rfl) hl hP hD va_S.rf
section SKR

variable {M : sk_M} {d kc ks : Nat} {Po : Option Value → sk_H → Prop} {Z : sk_P} {w : sk_H} {pc : Nat} {lv lv' : List (Nat × Value)} {st : List Value} {k n : Nat}

theorem g_iadd (F : sk_F M d kc ks Z) {x y : Int32} (hd : decode M.2.1 pc = .ok (.iadd, 1)) (h : Z w (pc + 1) lv (.int (x + y) :: st) k n) : Z w pc lv (.int y :: .int x :: st) k n := by
  obtain ⟨p, l, e, R, s, m, args, below, meth, c, E, ad0, n0, Q, rfl, ⟨hx, hb, hml, hown, hts, hK, hO, hA, hn0, had, hnm⟩, hR⟩ := F
  intro ad H locs ls a1 a2 a3 a4 a5 a6 a7 a8 a9
  exact lv_iadd (x := x) (y := y) hx hb hd (h ad H locs ls a1 a2 a3 (sk_cons sk_oV_int (sk_tail (sk_tail a4))) a5 a6 a7 a8 a9)
theorem g_isub (F : sk_F M d kc ks Z) {x y : Int32} (hd : decode M.2.1 pc = .ok (.isub, 1)) (h : Z w (pc + 1) lv (.int (x - y) :: st) k n) : Z w pc lv (.int y :: .int x :: st) k n := by
  obtain ⟨p, l, e, R, s, m, args, below, meth, c, E, ad0, n0, Q, rfl, ⟨hx, hb, hml, hown, hts, hK, hO, hA, hn0, had, hnm⟩, hR⟩ := F
  intro ad H locs ls a1 a2 a3 a4 a5 a6 a7 a8 a9
  exact lv_isub (x := x) (y := y) hx hb hd (h ad H locs ls a1 a2 a3 (sk_cons sk_oV_int (sk_tail (sk_tail a4))) a5 a6 a7 a8 a9)
theorem g_imul (F : sk_F M d kc ks Z) {x y : Int32} (hd : decode M.2.1 pc = .ok (.imul, 1)) (h : Z w (pc + 1) lv (.int (x * y) :: st) k n) : Z w pc lv (.int y :: .int x :: st) k n := by
  obtain ⟨p, l, e, R, s, m, args, below, meth, c, E, ad0, n0, Q, rfl, ⟨hx, hb, hml, hown, hts, hK, hO, hA, hn0, had, hnm⟩, hR⟩ := F
  intro ad H locs ls a1 a2 a3 a4 a5 a6 a7 a8 a9
  exact lv_imul (x := x) (y := y) hx hb hd (h ad H locs ls a1 a2 a3 (sk_cons sk_oV_int (sk_tail (sk_tail a4))) a5 a6 a7 a8 a9)
theorem g_iand (F : sk_F M d kc ks Z) {x y : Int32} (hd : decode M.2.1 pc = .ok (.iand, 1)) (h : Z w (pc + 1) lv (.int (x &&& y) :: st) k n) : Z w pc lv (.int y :: .int x :: st) k n := by
  obtain ⟨p, l, e, R, s, m, args, below, meth, c, E, ad0, n0, Q, rfl, ⟨hx, hb, hml, hown, hts, hK, hO, hA, hn0, had, hnm⟩, hR⟩ := F
  intro ad H locs ls a1 a2 a3 a4 a5 a6 a7 a8 a9
  exact lv_iand (x := x) (y := y) hx hb hd (h ad H locs ls a1 a2 a3 (sk_cons sk_oV_int (sk_tail (sk_tail a4))) a5 a6 a7 a8 a9)
theorem g_ior (F : sk_F M d kc ks Z) {x y : Int32} (hd : decode M.2.1 pc = .ok (.ior, 1)) (h : Z w (pc + 1) lv (.int (x ||| y) :: st) k n) : Z w pc lv (.int y :: .int x :: st) k n := by
  obtain ⟨p, l, e, R, s, m, args, below, meth, c, E, ad0, n0, Q, rfl, ⟨hx, hb, hml, hown, hts, hK, hO, hA, hn0, had, hnm⟩, hR⟩ := F
  intro ad H locs ls a1 a2 a3 a4 a5 a6 a7 a8 a9
  exact lv_ior (x := x) (y := y) hx hb hd (h ad H locs ls a1 a2 a3 (sk_cons sk_oV_int (sk_tail (sk_tail a4))) a5 a6 a7 a8 a9)
theorem g_ixor (F : sk_F M d kc ks Z) {x y : Int32} (hd : decode M.2.1 pc = .ok (.ixor, 1)) (h : Z w (pc + 1) lv (.int (x ^^^ y) :: st) k n) : Z w pc lv (.int y :: .int x :: st) k n := by
  obtain ⟨p, l, e, R, s, m, args, below, meth, c, E, ad0, n0, Q, rfl, ⟨hx, hb, hml, hown, hts, hK, hO, hA, hn0, had, hnm⟩, hR⟩ := F
  intro ad H locs ls a1 a2 a3 a4 a5 a6 a7 a8 a9
  exact lv_ixor (x := x) (y := y) hx hb hd (h ad H locs ls a1 a2 a3 (sk_cons sk_oV_int (sk_tail (sk_tail a4))) a5 a6 a7 a8 a9)
theorem g_idiv (F : sk_F M d kc ks Z) {x y : Int32} (hd : decode M.2.1 pc = .ok (.idiv, 1)) (hne : ¬ y = 0) (h : Z w (pc + 1) lv (.int (x / y) :: st) k n) : Z w pc lv (.int y :: .int x :: st) k n := by
  obtain ⟨p, l, e, R, s, m, args, below, meth, c, E, ad0, n0, Q, rfl, ⟨hx, hb, hml, hown, hts, hK, hO, hA, hn0, had, hnm⟩, hR⟩ := F
  intro ad H locs ls a1 a2 a3 a4 a5 a6 a7 a8 a9
  exact lv_idiv (x := x) (y := y) hx hb hd hne (h ad H locs ls a1 a2 a3 (sk_cons sk_oV_int (sk_tail (sk_tail a4))) a5 a6 a7 a8 a9)
theorem g_irem (F : sk_F M d kc ks Z) {x y : Int32} (hd : decode M.2.1 pc = .ok (.irem, 1)) (hne : ¬ y = 0) (h : Z w (pc + 1) lv (.int (c_rem x y) :: st) k n) : Z w pc lv (.int y :: .int x :: st) k n := by
  obtain ⟨p, l, e, R, s, m, args, below, meth, c, E, ad0, n0, Q, rfl, ⟨hx, hb, hml, hown, hts, hK, hO, hA, hn0, had, hnm⟩, hR⟩ := F
  intro ad H locs ls a1 a2 a3 a4 a5 a6 a7 a8 a9
  exact lv_irem (x := x) (y := y) hx hb hd hne (h ad H locs ls a1 a2 a3 (sk_cons sk_oV_int (sk_tail (sk_tail a4))) a5 a6 a7 a8 a9)
theorem g_ishl (F : sk_F M d kc ks Z) {x y : Int32} (hd : decode M.2.1 pc = .ok (.ishl, 1)) (h : Z w (pc + 1) lv (.int (c_shl x y) :: st) k n) : Z w pc lv (.int y :: .int x :: st) k n := by
  obtain ⟨p, l, e, R, s, m, args, below, meth, c, E, ad0, n0, Q, rfl, ⟨hx, hb, hml, hown, hts, hK, hO, hA, hn0, had, hnm⟩, hR⟩ := F
  intro ad H locs ls a1 a2 a3 a4 a5 a6 a7 a8 a9
  exact lv_ishl (x := x) (y := y) hx hb hd (h ad H locs ls a1 a2 a3 (sk_cons sk_oV_int (sk_tail (sk_tail a4))) a5 a6 a7 a8 a9)
theorem g_ishr (F : sk_F M d kc ks Z) {x y : Int32} (hd : decode M.2.1 pc = .ok (.ishr, 1)) (h : Z w (pc + 1) lv (.int (c_shr x y) :: st) k n) : Z w pc lv (.int y :: .int x :: st) k n := by
  obtain ⟨p, l, e, R, s, m, args, below, meth, c, E, ad0, n0, Q, rfl, ⟨hx, hb, hml, hown, hts, hK, hO, hA, hn0, had, hnm⟩, hR⟩ := F
  intro ad H locs ls a1 a2 a3 a4 a5 a6 a7 a8 a9
  exact lv_ishr (x := x) (y := y) hx hb hd (h ad H locs ls a1 a2 a3 (sk_cons sk_oV_int (sk_tail (sk_tail a4))) a5 a6 a7 a8 a9)
theorem g_iushr (F : sk_F M d kc ks Z) {x y : Int32} (hd : decode M.2.1 pc = .ok (.iushr, 1)) (h : Z w (pc + 1) lv (.int (c_ushr x y) :: st) k n) : Z w pc lv (.int y :: .int x :: st) k n := by
  obtain ⟨p, l, e, R, s, m, args, below, meth, c, E, ad0, n0, Q, rfl, ⟨hx, hb, hml, hown, hts, hK, hO, hA, hn0, had, hnm⟩, hR⟩ := F
  intro ad H locs ls a1 a2 a3 a4 a5 a6 a7 a8 a9
  exact lv_iushr (x := x) (y := y) hx hb hd rfl (h ad H locs ls a1 a2 a3 (sk_cons sk_oV_int (sk_tail (sk_tail a4))) a5 a6 a7 a8 a9)
theorem g_ineg (F : sk_F M d kc ks Z) {x : Int32} (hd : decode M.2.1 pc = .ok (.ineg, 1)) (h : Z w (pc + 1) lv (.int (-x) :: st) k n) : Z w pc lv (.int x :: st) k n := by
  obtain ⟨p, l, e, R, s, m, args, below, meth, c, E, ad0, n0, Q, rfl, ⟨hx, hb, hml, hown, hts, hK, hO, hA, hn0, had, hnm⟩, hR⟩ := F
  intro ad H locs ls a1 a2 a3 a4 a5 a6 a7 a8 a9
  exact lv_ineg (x := x) hx hb hd (h ad H locs ls a1 a2 a3 (sk_cons sk_oV_int (sk_tail a4)) a5 a6 a7 a8 a9)
theorem g_i2l (F : sk_F M d kc ks Z) {x : Int32} (hd : decode M.2.1 pc = .ok (.i2l, 1)) (h : Z w (pc + 1) lv (.long x.toInt64 :: st) k n) : Z w pc lv (.int x :: st) k n := by
  obtain ⟨p, l, e, R, s, m, args, below, meth, c, E, ad0, n0, Q, rfl, ⟨hx, hb, hml, hown, hts, hK, hO, hA, hn0, had, hnm⟩, hR⟩ := F
  intro ad H locs ls a1 a2 a3 a4 a5 a6 a7 a8 a9
  exact lv_i2l (x := x) hx hb hd rfl (h ad H locs ls a1 a2 a3 (sk_cons sk_oV_long (sk_tail a4)) a5 a6 a7 a8 a9)
theorem g_l2i (F : sk_F M d kc ks Z) {x : Int64} (hd : decode M.2.1 pc = .ok (.l2i, 1)) (h : Z w (pc + 1) lv (.int x.toInt32 :: st) k n) : Z w pc lv (.long x :: st) k n := by
  obtain ⟨p, l, e, R, s, m, args, below, meth, c, E, ad0, n0, Q, rfl, ⟨hx, hb, hml, hown, hts, hK, hO, hA, hn0, had, hnm⟩, hR⟩ := F
  intro ad H locs ls a1 a2 a3 a4 a5 a6 a7 a8 a9
  exact lv_l2i (x := x) hx hb hd rfl (h ad H locs ls a1 a2 a3 (sk_cons sk_oV_int (sk_tail a4)) a5 a6 a7 a8 a9)
theorem g_i2b (F : sk_F M d kc ks Z) {x : Int32} (hd : decode M.2.1 pc = .ok (.i2b, 1)) (h : Z w (pc + 1) lv (.int x.toInt8.toInt32 :: st) k n) : Z w pc lv (.int x :: st) k n := by
  obtain ⟨p, l, e, R, s, m, args, below, meth, c, E, ad0, n0, Q, rfl, ⟨hx, hb, hml, hown, hts, hK, hO, hA, hn0, had, hnm⟩, hR⟩ := F
  intro ad H locs ls a1 a2 a3 a4 a5 a6 a7 a8 a9
  exact lv_i2b (x := x) hx hb hd rfl (h ad H locs ls a1 a2 a3 (sk_cons sk_oV_int (sk_tail a4)) a5 a6 a7 a8 a9)
theorem g_i2c (F : sk_F M d kc ks Z) {x : Int32} (hd : decode M.2.1 pc = .ok (.i2c, 1)) (h : Z w (pc + 1) lv (.int (c_i2c x) :: st) k n) : Z w pc lv (.int x :: st) k n := by
  obtain ⟨p, l, e, R, s, m, args, below, meth, c, E, ad0, n0, Q, rfl, ⟨hx, hb, hml, hown, hts, hK, hO, hA, hn0, had, hnm⟩, hR⟩ := F
  intro ad H locs ls a1 a2 a3 a4 a5 a6 a7 a8 a9
  exact lv_i2c (x := x) hx hb hd rfl (h ad H locs ls a1 a2 a3 (sk_cons sk_oV_int (sk_tail a4)) a5 a6 a7 a8 a9)
theorem g_lushr (F : sk_F M d kc ks Z) {x : Int64} {y : Int32} (hd : decode M.2.1 pc = .ok (.lushr, 1)) (h : Z w (pc + 1) lv (.long (c_lushr x y) :: st) k n) : Z w pc lv (.int y :: .long x :: st) k n := by
  obtain ⟨p, l, e, R, s, m, args, below, meth, c, E, ad0, n0, Q, rfl, ⟨hx, hb, hml, hown, hts, hK, hO, hA, hn0, had, hnm⟩, hR⟩ := F
  intro ad H locs ls a1 a2 a3 a4 a5 a6 a7 a8 a9
  exact lv_lushr (x := x) (y := y) hx hb hd rfl (h ad H locs ls a1 a2 a3 (sk_cons sk_oV_long (sk_tail (sk_tail a4))) a5 a6 a7 a8 a9)
theorem g_lshl (F : sk_F M d kc ks Z) {x : Int64} {y : Int32} (hd : decode M.2.1 pc = .ok (.lshl, 1)) (h : Z w (pc + 1) lv (.long (c_lshl x y) :: st) k n) : Z w pc lv (.int y :: .long x :: st) k n := by
  obtain ⟨p, l, e, R, s, m, args, below, meth, c, E, ad0, n0, Q, rfl, ⟨hx, hb, hml, hown, hts, hK, hO, hA, hn0, had, hnm⟩, hR⟩ := F
  intro ad H locs ls a1 a2 a3 a4 a5 a6 a7 a8 a9
  exact lv_lshl (x := x) (y := y) hx hb hd rfl (h ad H locs ls a1 a2 a3 (sk_cons sk_oV_long (sk_tail (sk_tail a4))) a5 a6 a7 a8 a9)
theorem g_lshr (F : sk_F M d kc ks Z) {x : Int64} {y : Int32} (hd : decode M.2.1 pc = .ok (.lshr, 1)) (h : Z w (pc + 1) lv (.long (c_lshr x y) :: st) k n) : Z w pc lv (.int y :: .long x :: st) k n := by
  obtain ⟨p, l, e, R, s, m, args, below, meth, c, E, ad0, n0, Q, rfl, ⟨hx, hb, hml, hown, hts, hK, hO, hA, hn0, had, hnm⟩, hR⟩ := F
  intro ad H locs ls a1 a2 a3 a4 a5 a6 a7 a8 a9
  exact lv_lshr (x := x) (y := y) hx hb hd rfl (h ad H locs ls a1 a2 a3 (sk_cons sk_oV_long (sk_tail (sk_tail a4))) a5 a6 a7 a8 a9)
theorem g_lcmp (F : sk_F M d kc ks Z) {x y : Int64} (hd : decode M.2.1 pc = .ok (.lcmp, 1)) (h : Z w (pc + 1) lv (.int (lg_cmp x y) :: st) k n) : Z w pc lv (.long y :: .long x :: st) k n := by
  obtain ⟨p, l, e, R, s, m, args, below, meth, c, E, ad0, n0, Q, rfl, ⟨hx, hb, hml, hown, hts, hK, hO, hA, hn0, had, hnm⟩, hR⟩ := F
  intro ad H locs ls a1 a2 a3 a4 a5 a6 a7 a8 a9
  exact W.lcmp (x := x) (y := y) hx hb hd (h ad H locs ls a1 a2 a3 (sk_cons sk_oV_int (sk_tail (sk_tail a4))) a5 a6 a7 a8 a9)
theorem g_ladd (F : sk_F M d kc ks Z) {x y : Int64} (hd : decode M.2.1 pc = .ok (.ladd, 1)) (h : Z w (pc + 1) lv (.long (x + y) :: st) k n) : Z w pc lv (.long y :: .long x :: st) k n := by
  obtain ⟨p, l, e, R, s, m, args, below, meth, c, E, ad0, n0, Q, rfl, ⟨hx, hb, hml, hown, hts, hK, hO, hA, hn0, had, hnm⟩, hR⟩ := F
  intro ad H locs ls a1 a2 a3 a4 a5 a6 a7 a8 a9
  exact lv_ladd (x := x) (y := y) hx hb hd (h ad H locs ls a1 a2 a3 (sk_cons sk_oV_long (sk_tail (sk_tail a4))) a5 a6 a7 a8 a9)
theorem g_lsub (F : sk_F M d kc ks Z) {x y : Int64} (hd : decode M.2.1 pc = .ok (.lsub, 1)) (h : Z w (pc + 1) lv (.long (x - y) :: st) k n) : Z w pc lv (.long y :: .long x :: st) k n := by
  obtain ⟨p, l, e, R, s, m, args, below, meth, c, E, ad0, n0, Q, rfl, ⟨hx, hb, hml, hown, hts, hK, hO, hA, hn0, had, hnm⟩, hR⟩ := F
  intro ad H locs ls a1 a2 a3 a4 a5 a6 a7 a8 a9
  exact lv_lsub (x := x) (y := y) hx hb hd (h ad H locs ls a1 a2 a3 (sk_cons sk_oV_long (sk_tail (sk_tail a4))) a5 a6 a7 a8 a9)
theorem g_lmul (F : sk_F M d kc ks Z) {x y : Int64} (hd : decode M.2.1 pc = .ok (.lmul, 1)) (h : Z w (pc + 1) lv (.long (x * y) :: st) k n) : Z w pc lv (.long y :: .long x :: st) k n := by
  obtain ⟨p, l, e, R, s, m, args, below, meth, c, E, ad0, n0, Q, rfl, ⟨hx, hb, hml, hown, hts, hK, hO, hA, hn0, had, hnm⟩, hR⟩ := F
  intro ad H locs ls a1 a2 a3 a4 a5 a6 a7 a8 a9
  exact lv_lmul (x := x) (y := y) hx hb hd (h ad H locs ls a1 a2 a3 (sk_cons sk_oV_long (sk_tail (sk_tail a4))) a5 a6 a7 a8 a9)
theorem g_land (F : sk_F M d kc ks Z) {x y : Int64} (hd : decode M.2.1 pc = .ok (.land, 1)) (h : Z w (pc + 1) lv (.long (x &&& y) :: st) k n) : Z w pc lv (.long y :: .long x :: st) k n := by
  obtain ⟨p, l, e, R, s, m, args, below, meth, c, E, ad0, n0, Q, rfl, ⟨hx, hb, hml, hown, hts, hK, hO, hA, hn0, had, hnm⟩, hR⟩ := F
  intro ad H locs ls a1 a2 a3 a4 a5 a6 a7 a8 a9
  exact lv_land (x := x) (y := y) hx hb hd (h ad H locs ls a1 a2 a3 (sk_cons sk_oV_long (sk_tail (sk_tail a4))) a5 a6 a7 a8 a9)
theorem g_lor (F : sk_F M d kc ks Z) {x y : Int64} (hd : decode M.2.1 pc = .ok (.lor, 1)) (h : Z w (pc + 1) lv (.long (x ||| y) :: st) k n) : Z w pc lv (.long y :: .long x :: st) k n := by
  obtain ⟨p, l, e, R, s, m, args, below, meth, c, E, ad0, n0, Q, rfl, ⟨hx, hb, hml, hown, hts, hK, hO, hA, hn0, had, hnm⟩, hR⟩ := F
  intro ad H locs ls a1 a2 a3 a4 a5 a6 a7 a8 a9
  exact lv_lor (x := x) (y := y) hx hb hd (h ad H locs ls a1 a2 a3 (sk_cons sk_oV_long (sk_tail (sk_tail a4))) a5 a6 a7 a8 a9)
theorem g_lxor (F : sk_F M d kc ks Z) {x y : Int64} (hd : decode M.2.1 pc = .ok (.lxor, 1)) (h : Z w (pc + 1) lv (.long (x ^^^ y) :: st) k n) : Z w pc lv (.long y :: .long x :: st) k n := by
  obtain ⟨p, l, e, R, s, m, args, below, meth, c, E, ad0, n0, Q, rfl, ⟨hx, hb, hml, hown, hts, hK, hO, hA, hn0, had, hnm⟩, hR⟩ := F
  intro ad H locs ls a1 a2 a3 a4 a5 a6 a7 a8 a9
  exact lv_lxor (x := x) (y := y) hx hb hd (h ad H locs ls a1 a2 a3 (sk_cons sk_oV_long (sk_tail (sk_tail a4))) a5 a6 a7 a8 a9)
theorem g_iconst (F : sk_F M d kc ks Z) {z : Int} {v : Int32} (hd : decode M.2.1 pc = .ok (.iconst z, 1)) (hv : Int32.ofInt z = v) (h : Z w (pc + 1) lv (.int v :: st) k n) : Z w pc lv (st) k n := by
  obtain ⟨p, l, e, R, s, m, args, below, meth, c, E, ad0, n0, Q, rfl, ⟨hx, hb, hml, hown, hts, hK, hO, hA, hn0, had, hnm⟩, hR⟩ := F
  intro ad H locs ls a1 a2 a3 a4 a5 a6 a7 a8 a9
  exact lv_iconst hx hb hd hv (h ad H locs ls a1 a2 a3 (sk_cons sk_oV_int a4) a5 a6 a7 a8 a9)
theorem g_bipush (F : sk_F M d kc ks Z) {z : Int} {v : Int32} (hd : decode M.2.1 pc = .ok (.bipush z, 2)) (hv : (Int8.ofInt z).toInt32 = v) (h : Z w (pc + 2) lv (.int v :: st) k n) : Z w pc lv (st) k n := by
  obtain ⟨p, l, e, R, s, m, args, below, meth, c, E, ad0, n0, Q, rfl, ⟨hx, hb, hml, hown, hts, hK, hO, hA, hn0, had, hnm⟩, hR⟩ := F
  intro ad H locs ls a1 a2 a3 a4 a5 a6 a7 a8 a9
  exact lv_bipush hx hb hd hv (h ad H locs ls a1 a2 a3 (sk_cons sk_oV_int a4) a5 a6 a7 a8 a9)
theorem g_sipush (F : sk_F M d kc ks Z) {z : Int} {v : Int32} (hd : decode M.2.1 pc = .ok (.sipush z, 3)) (hv : (Int16.ofInt z).toInt32 = v) (h : Z w (pc + 3) lv (.int v :: st) k n) : Z w pc lv (st) k n := by
  obtain ⟨p, l, e, R, s, m, args, below, meth, c, E, ad0, n0, Q, rfl, ⟨hx, hb, hml, hown, hts, hK, hO, hA, hn0, had, hnm⟩, hR⟩ := F
  intro ad H locs ls a1 a2 a3 a4 a5 a6 a7 a8 a9
  exact lv_sipush hx hb hd hv (h ad H locs ls a1 a2 a3 (sk_cons sk_oV_int a4) a5 a6 a7 a8 a9)
theorem g_null (F : sk_F M d kc ks Z)  (hd : decode M.2.1 pc = .ok (.aconst_null, 1)) (h : Z w (pc + 1) lv (.null :: st) k n) : Z w pc lv (st) k n := by
  obtain ⟨p, l, e, R, s, m, args, below, meth, c, E, ad0, n0, Q, rfl, ⟨hx, hb, hml, hown, hts, hK, hO, hA, hn0, had, hnm⟩, hR⟩ := F
  intro ad H locs ls a1 a2 a3 a4 a5 a6 a7 a8 a9
  exact lv_null hx hb hd (h ad H locs ls a1 a2 a3 (sk_cons sk_oV_null a4) a5 a6 a7 a8 a9)
theorem g_ldc (F : sk_F M d kc ks Z) {idx : Nat} {v : Int32} (hd : decode M.2.1 pc = .ok (.ldc idx, 2)) (hw : Cond.constant M.1.cls idx v ∈ sk_ws) (h : Z w (pc + 2) lv (.int v :: st) k n) : Z w pc lv (st) k n := by
  obtain ⟨p, l, e, R, s, m, args, below, meth, c, E, ad0, n0, Q, rfl, ⟨hx, hb, hml, hown, hts, hK, hO, hA, hn0, had, hnm⟩, hR⟩ := F
  intro ad H locs ls a1 a2 a3 a4 a5 a6 a7 a8 a9
  exact lv_ldc hx hb hown (hts _ hw) hd (h ad H locs ls a1 a2 a3 (sk_cons sk_oV_int a4) a5 a6 a7 a8 a9)
theorem g_ldc2 (F : sk_F M d kc ks Z) {idx : Nat} {v : Int64} (hd : decode M.2.1 pc = .ok (.ldc2_w idx, 3)) (hw : Cond.constantLong M.1.cls idx v ∈ sk_ws) (h : Z w (pc + 3) lv (.long v :: st) k n) : Z w pc lv (st) k n := by
  obtain ⟨p, l, e, R, s, m, args, below, meth, c, E, ad0, n0, Q, rfl, ⟨hx, hb, hml, hown, hts, hK, hO, hA, hn0, had, hnm⟩, hR⟩ := F
  intro ad H locs ls a1 a2 a3 a4 a5 a6 a7 a8 a9
  exact lv_ldc2 hx hb hown (hts _ hw) hd (h ad H locs ls a1 a2 a3 (sk_cons sk_oV_long a4) a5 a6 a7 a8 a9)
theorem g_dup (F : sk_F M d kc ks Z) {a : Value} (hd : decode M.2.1 pc = .ok (.dup, 1)) (ha : a.category = 1) (h : Z w (pc + 1) lv (a :: a :: st) k n) : Z w pc lv (a :: st) k n := by
  obtain ⟨p, l, e, R, s, m, args, below, meth, c, E, ad0, n0, Q, rfl, ⟨hx, hb, hml, hown, hts, hK, hO, hA, hn0, had, hnm⟩, hR⟩ := F
  intro ad H locs ls a1 a2 a3 a4 a5 a6 a7 a8 a9
  exact lv_dup hx hb hd ((sk_cat ad a).trans ha) (h ad H locs ls a1 a2 a3 (sk_cons (sk_hd a4) (sk_cons (sk_hd a4) (sk_tail a4))) a5 a6 a7 a8 a9)
theorem g_pop (F : sk_F M d kc ks Z) {a : Value} (hd : decode M.2.1 pc = .ok (.pop, 1)) (ha : a.category = 1) (h : Z w (pc + 1) lv (st) k n) : Z w pc lv (a :: st) k n := by
  obtain ⟨p, l, e, R, s, m, args, below, meth, c, E, ad0, n0, Q, rfl, ⟨hx, hb, hml, hown, hts, hK, hO, hA, hn0, had, hnm⟩, hR⟩ := F
  intro ad H locs ls a1 a2 a3 a4 a5 a6 a7 a8 a9
  exact lv_pop hx hb hd ((sk_cat ad a).trans ha) (h ad H locs ls a1 a2 a3 (sk_tail a4) a5 a6 a7 a8 a9)
theorem g_dup_x1 (F : sk_F M d kc ks Z) {a b : Value} (hd : decode M.2.1 pc = .ok (.dup_x1, 1)) (ha : a.category = 1) (hc : b.category = 1) (h : Z w (pc + 1) lv (a :: b :: a :: st) k n) : Z w pc lv (a :: b :: st) k n := by
  obtain ⟨p, l, e, R, s, m, args, below, meth, c, E, ad0, n0, Q, rfl, ⟨hx, hb, hml, hown, hts, hK, hO, hA, hn0, had, hnm⟩, hR⟩ := F
  intro ad H locs ls a1 a2 a3 a4 a5 a6 a7 a8 a9
  exact lv_dup_x1 hx hb hd ((sk_cat ad a).trans ha) ((sk_cat ad b).trans hc) (h ad H locs ls a1 a2 a3 (sk_cons (sk_hd a4) (sk_cons (sk_hd (sk_tail a4)) (sk_cons (sk_hd a4) (sk_tail (sk_tail a4))))) a5 a6 a7 a8 a9)
theorem g_dup2 (F : sk_F M d kc ks Z) {a b : Value} (hd : decode M.2.1 pc = .ok (.dup2, 1)) (ha : a.category = 1) (hc : b.category = 1) (h : Z w (pc + 1) lv (a :: b :: a :: b :: st) k n) : Z w pc lv (a :: b :: st) k n := by
  obtain ⟨p, l, e, R, s, m, args, below, meth, c, E, ad0, n0, Q, rfl, ⟨hx, hb, hml, hown, hts, hK, hO, hA, hn0, had, hnm⟩, hR⟩ := F
  intro ad H locs ls a1 a2 a3 a4 a5 a6 a7 a8 a9
  exact lv_dup2_11 hx hb hd ((sk_cat ad a).trans ha) ((sk_cat ad b).trans hc) (h ad H locs ls a1 a2 a3 (sk_cons (sk_hd a4) (sk_cons (sk_hd (sk_tail a4)) (sk_cons (sk_hd a4) (sk_cons (sk_hd (sk_tail a4)) (sk_tail (sk_tail a4)))))) a5 a6 a7 a8 a9)
theorem g_iload_n (F : sk_F M d kc ks Z) {q : Fin 4} {x : Int32} (hd : decode M.2.1 pc = .ok (.iload_n q, 1)) (j : Nat) (hl : lv[j]? = some ((q : Nat), .int x)) (h : Z w (pc + 1) lv (.int x :: st) k n) : Z w pc lv (st) k n := by
  obtain ⟨p, l, e, R, s, m, args, below, meth, c, E, ad0, n0, Q, rfl, ⟨hx, hb, hml, hown, hts, hK, hO, hA, hn0, had, hnm⟩, hR⟩ := F
  intro ad H locs ls a1 a2 a3 a4 a5 a6 a7 a8 a9
  exact lv_iload_n hx hb hd rfl (lv_at a6 j (sk_l_at hl)) (h ad H locs ls a1 a2 a3 (sk_cons sk_oV_int a4) a5 a6 a7 a8 a9)
theorem g_iload (F : sk_F M d kc ks Z) {i : Nat} {x : Int32} (hd : decode M.2.1 pc = .ok (.iload i, 2)) (j : Nat) (hl : lv[j]? = some (i, .int x)) (h : Z w (pc + 2) lv (.int x :: st) k n) : Z w pc lv (st) k n := by
  obtain ⟨p, l, e, R, s, m, args, below, meth, c, E, ad0, n0, Q, rfl, ⟨hx, hb, hml, hown, hts, hK, hO, hA, hn0, had, hnm⟩, hR⟩ := F
  intro ad H locs ls a1 a2 a3 a4 a5 a6 a7 a8 a9
  exact lv_iload hx hb hd (lv_at a6 j (sk_l_at hl)) (h ad H locs ls a1 a2 a3 (sk_cons sk_oV_int a4) a5 a6 a7 a8 a9)
theorem g_lload_n (F : sk_F M d kc ks Z) {q : Fin 4} {x : Int64} (hd : decode M.2.1 pc = .ok (.lload_n q, 1)) (j : Nat) (hl : lv[j]? = some ((q : Nat), .long x)) (h : Z w (pc + 1) lv (.long x :: st) k n) : Z w pc lv (st) k n := by
  obtain ⟨p, l, e, R, s, m, args, below, meth, c, E, ad0, n0, Q, rfl, ⟨hx, hb, hml, hown, hts, hK, hO, hA, hn0, had, hnm⟩, hR⟩ := F
  intro ad H locs ls a1 a2 a3 a4 a5 a6 a7 a8 a9
  exact lv_lload_n hx hb hd rfl (lv_at a6 j (sk_l_at hl)) (h ad H locs ls a1 a2 a3 (sk_cons sk_oV_long a4) a5 a6 a7 a8 a9)
theorem g_lload (F : sk_F M d kc ks Z) {i : Nat} {x : Int64} (hd : decode M.2.1 pc = .ok (.lload i, 2)) (j : Nat) (hl : lv[j]? = some (i, .long x)) (h : Z w (pc + 2) lv (.long x :: st) k n) : Z w pc lv (st) k n := by
  obtain ⟨p, l, e, R, s, m, args, below, meth, c, E, ad0, n0, Q, rfl, ⟨hx, hb, hml, hown, hts, hK, hO, hA, hn0, had, hnm⟩, hR⟩ := F
  intro ad H locs ls a1 a2 a3 a4 a5 a6 a7 a8 a9
  exact lv_lload hx hb hd (lv_at a6 j (sk_l_at hl)) (h ad H locs ls a1 a2 a3 (sk_cons sk_oV_long a4) a5 a6 a7 a8 a9)
theorem g_aload_n (F : sk_F M d kc ks Z) {q : Fin 4} {x : Nat} (hd : decode M.2.1 pc = .ok (.aload_n q, 1)) (j : Nat) (hl : lv[j]? = some ((q : Nat), .ref x)) (h : Z w (pc + 1) lv (.ref x :: st) k n) : Z w pc lv (st) k n := by
  obtain ⟨p, l, e, R, s, m, args, below, meth, c, E, ad0, n0, Q, rfl, ⟨hx, hb, hml, hown, hts, hK, hO, hA, hn0, had, hnm⟩, hR⟩ := F
  intro ad H locs ls a1 a2 a3 a4 a5 a6 a7 a8 a9
  exact lv_aload_n hx hb hd rfl (lv_at a6 j (sk_l_at hl)) (h ad H locs ls a1 a2 a3 (sk_cons (a3 _ (List.mem_of_getElem? hl)) a4) a5 a6 a7 a8 a9)
theorem g_aload (F : sk_F M d kc ks Z) {i : Nat} {x : Nat} (hd : decode M.2.1 pc = .ok (.aload i, 2)) (j : Nat) (hl : lv[j]? = some (i, .ref x)) (h : Z w (pc + 2) lv (.ref x :: st) k n) : Z w pc lv (st) k n := by
  obtain ⟨p, l, e, R, s, m, args, below, meth, c, E, ad0, n0, Q, rfl, ⟨hx, hb, hml, hown, hts, hK, hO, hA, hn0, had, hnm⟩, hR⟩ := F
  intro ad H locs ls a1 a2 a3 a4 a5 a6 a7 a8 a9
  exact lv_aload hx hb hd (lv_at a6 j (sk_l_at hl)) (h ad H locs ls a1 a2 a3 (sk_cons (a3 _ (List.mem_of_getElem? hl)) a4) a5 a6 a7 a8 a9)
theorem g_aload_nN (F : sk_F M d kc ks Z) {q : Fin 4} (hd : decode M.2.1 pc = .ok (.aload_n q, 1)) (j : Nat) (hl : lv[j]? = some ((q : Nat), .null)) (h : Z w (pc + 1) lv (.null :: st) k n) : Z w pc lv (st) k n := by
  obtain ⟨p, l, e, R, s, m, args, below, meth, c, E, ad0, n0, Q, rfl, ⟨hx, hb, hml, hown, hts, hK, hO, hA, hn0, had, hnm⟩, hR⟩ := F
  intro ad H locs ls a1 a2 a3 a4 a5 a6 a7 a8 a9
  exact lv_aload_nN hx hb hd rfl (lv_at a6 j (sk_l_at hl)) (h ad H locs ls a1 a2 a3 (sk_cons sk_oV_null a4) a5 a6 a7 a8 a9)
theorem g_aloadN (F : sk_F M d kc ks Z) {i : Nat} (hd : decode M.2.1 pc = .ok (.aload i, 2)) (j : Nat) (hl : lv[j]? = some (i, .null)) (h : Z w (pc + 2) lv (.null :: st) k n) : Z w pc lv (st) k n := by
  obtain ⟨p, l, e, R, s, m, args, below, meth, c, E, ad0, n0, Q, rfl, ⟨hx, hb, hml, hown, hts, hK, hO, hA, hn0, had, hnm⟩, hR⟩ := F
  intro ad H locs ls a1 a2 a3 a4 a5 a6 a7 a8 a9
  exact lv_aloadN hx hb hd (lv_at a6 j (sk_l_at hl)) (h ad H locs ls a1 a2 a3 (sk_cons sk_oV_null a4) a5 a6 a7 a8 a9)
theorem g_istore_n (F : sk_F M d kc ks Z) {q : Fin 4} {x : Int32} (hd : decode M.2.1 pc = .ok (.istore_n q, 1)) (hn : (q : Nat) < M.2.2.1) (hl : sk_st1 lv (q : Nat) (.int x) = lv') (h : Z w (pc + 1) lv' st k n) : Z w pc lv (.int x :: st) k n := by
  obtain ⟨p, l, e, R, s, m, args, below, meth, c, E, ad0, n0, Q, rfl, ⟨hx, hb, hml, hown, hts, hK, hO, hA, hn0, had, hnm⟩, hR⟩ := F
  intro ad H locs ls a1 a2 a3 a4 a5 a6 a7 a8 a9
  subst hl
  exact lv_istore_n hx hb hd rfl a6 hn (sk_st1_l ad lv _ (.int x)) (fun ls' a6' => (h ad H locs ls' a1 a2 (sk_st1_ok a3 (sk_hd a4)) (sk_tail a4) a5 a6' a7 a8 a9))
theorem g_istore (F : sk_F M d kc ks Z) {i : Nat} {x : Int32} (hd : decode M.2.1 pc = .ok (.istore i, 2)) (hn : i < M.2.2.1) (hl : sk_st1 lv i (.int x) = lv') (h : Z w (pc + 2) lv' st k n) : Z w pc lv (.int x :: st) k n := by
  obtain ⟨p, l, e, R, s, m, args, below, meth, c, E, ad0, n0, Q, rfl, ⟨hx, hb, hml, hown, hts, hK, hO, hA, hn0, had, hnm⟩, hR⟩ := F
  intro ad H locs ls a1 a2 a3 a4 a5 a6 a7 a8 a9
  subst hl
  exact lv_istore hx hb hd a6 hn (sk_st1_l ad lv _ (.int x)) (fun ls' a6' => (h ad H locs ls' a1 a2 (sk_st1_ok a3 (sk_hd a4)) (sk_tail a4) a5 a6' a7 a8 a9))
theorem g_astore_n (F : sk_F M d kc ks Z) {q : Fin 4} {x : Nat} (hd : decode M.2.1 pc = .ok (.astore_n q, 1)) (hn : (q : Nat) < M.2.2.1) (hl : sk_st1 lv (q : Nat) (.ref x) = lv') (h : Z w (pc + 1) lv' st k n) : Z w pc lv (.ref x :: st) k n := by
  obtain ⟨p, l, e, R, s, m, args, below, meth, c, E, ad0, n0, Q, rfl, ⟨hx, hb, hml, hown, hts, hK, hO, hA, hn0, had, hnm⟩, hR⟩ := F
  intro ad H locs ls a1 a2 a3 a4 a5 a6 a7 a8 a9
  subst hl
  exact lv_astore_n hx hb hd rfl a6 hn (sk_st1_l ad lv _ (.ref x)) (fun ls' a6' => (h ad H locs ls' a1 a2 (sk_st1_ok a3 (sk_hd a4)) (sk_tail a4) a5 a6' a7 a8 a9))
theorem g_astore (F : sk_F M d kc ks Z) {i : Nat} {x : Nat} (hd : decode M.2.1 pc = .ok (.astore i, 2)) (hn : i < M.2.2.1) (hl : sk_st1 lv i (.ref x) = lv') (h : Z w (pc + 2) lv' st k n) : Z w pc lv (.ref x :: st) k n := by
  obtain ⟨p, l, e, R, s, m, args, below, meth, c, E, ad0, n0, Q, rfl, ⟨hx, hb, hml, hown, hts, hK, hO, hA, hn0, had, hnm⟩, hR⟩ := F
  intro ad H locs ls a1 a2 a3 a4 a5 a6 a7 a8 a9
  subst hl
  exact lv_astore hx hb hd a6 hn (sk_st1_l ad lv _ (.ref x)) (fun ls' a6' => (h ad H locs ls' a1 a2 (sk_st1_ok a3 (sk_hd a4)) (sk_tail a4) a5 a6' a7 a8 a9))
theorem g_astore_nN (F : sk_F M d kc ks Z) {q : Fin 4} (hd : decode M.2.1 pc = .ok (.astore_n q, 1)) (hn : (q : Nat) < M.2.2.1) (hl : sk_st1 lv (q : Nat) (.null) = lv') (h : Z w (pc + 1) lv' st k n) : Z w pc lv (.null :: st) k n := by
  obtain ⟨p, l, e, R, s, m, args, below, meth, c, E, ad0, n0, Q, rfl, ⟨hx, hb, hml, hown, hts, hK, hO, hA, hn0, had, hnm⟩, hR⟩ := F
  intro ad H locs ls a1 a2 a3 a4 a5 a6 a7 a8 a9
  subst hl
  exact lv_astore_nN hx hb hd rfl a6 hn (sk_st1_l ad lv _ (.null)) (fun ls' a6' => (h ad H locs ls' a1 a2 (sk_st1_ok a3 (sk_hd a4)) (sk_tail a4) a5 a6' a7 a8 a9))
theorem g_astoreN (F : sk_F M d kc ks Z) {i : Nat} (hd : decode M.2.1 pc = .ok (.astore i, 2)) (hn : i < M.2.2.1) (hl : sk_st1 lv i (.null) = lv') (h : Z w (pc + 2) lv' st k n) : Z w pc lv (.null :: st) k n := by
  obtain ⟨p, l, e, R, s, m, args, below, meth, c, E, ad0, n0, Q, rfl, ⟨hx, hb, hml, hown, hts, hK, hO, hA, hn0, had, hnm⟩, hR⟩ := F
  intro ad H locs ls a1 a2 a3 a4 a5 a6 a7 a8 a9
  subst hl
  exact lv_astoreN hx hb hd a6 hn (sk_st1_l ad lv _ (.null)) (fun ls' a6' => (h ad H locs ls' a1 a2 (sk_st1_ok a3 (sk_hd a4)) (sk_tail a4) a5 a6' a7 a8 a9))
theorem g_lstore_n (F : sk_F M d kc ks Z) {q : Fin 4} {x : Int64} (hd : decode M.2.1 pc = .ok (.lstore_n q, 1)) (hn : (q : Nat) + 1 < M.2.2.1) (hl : sk_st2 lv (q : Nat) (.long x) = lv') (h : Z w (pc + 1) lv' st k n) : Z w pc lv (.long x :: st) k n := by
  obtain ⟨p, l, e, R, s, m, args, below, meth, c, E, ad0, n0, Q, rfl, ⟨hx, hb, hml, hown, hts, hK, hO, hA, hn0, had, hnm⟩, hR⟩ := F
  intro ad H locs ls a1 a2 a3 a4 a5 a6 a7 a8 a9
  subst hl
  exact lv_lstore_n hx hb hd rfl a6 hn (sk_st2_l ad lv _ (.long x)) (fun ls' a6' => (h ad H locs ls' a1 a2 (sk_st2_ok a3 (sk_hd a4)) (sk_tail a4) a5 a6' a7 a8 a9))
theorem g_lstore (F : sk_F M d kc ks Z) {i : Nat} {x : Int64} (hd : decode M.2.1 pc = .ok (.lstore i, 2)) (hn : i + 1 < M.2.2.1) (hl : sk_st2 lv i (.long x) = lv') (h : Z w (pc + 2) lv' st k n) : Z w pc lv (.long x :: st) k n := by
  obtain ⟨p, l, e, R, s, m, args, below, meth, c, E, ad0, n0, Q, rfl, ⟨hx, hb, hml, hown, hts, hK, hO, hA, hn0, had, hnm⟩, hR⟩ := F
  intro ad H locs ls a1 a2 a3 a4 a5 a6 a7 a8 a9
  subst hl
  exact lv_lstore hx hb hd a6 hn (sk_st2_l ad lv _ (.long x)) (fun ls' a6' => (h ad H locs ls' a1 a2 (sk_st2_ok a3 (sk_hd a4)) (sk_tail a4) a5 a6' a7 a8 a9))
theorem g_iinc (F : sk_F M d kc ks Z) {i : Nat} {z : Int} {x v : Int32} (hd : decode M.2.1 pc = .ok (.iinc i z, 3)) (j : Nat) (hj : lv[j]? = some (i, .int x)) (hv : x + Int32.ofInt z = v) (hn : i < M.2.2.1) (hl : sk_st1 lv i (.int v) = lv') (h : Z w (pc + 3) lv' st k n) : Z w pc lv st k n := by
  obtain ⟨p, l, e, R, s, m, args, below, meth, c, E, ad0, n0, Q, rfl, ⟨hx, hb, hml, hown, hts, hK, hO, hA, hn0, had, hnm⟩, hR⟩ := F
  intro ad H locs ls a1 a2 a3 a4 a5 a6 a7 a8 a9
  subst hl
  exact lv_iinc (k := j) hx hb hd a6 (sk_l_at hj) hv hn (sk_st1_l ad lv i (.int v)) (fun ls' a6' => (h ad H locs ls' a1 a2 (sk_st1_ok a3 sk_oV_int) a4 a5 a6' a7 a8 a9))
theorem g_icmp_eq (F : sk_F M d kc ks Z) {x y : Int32} {off : Int} {tgt : Nat} (hd : decode M.2.1 pc = .ok (.if_icmp .eq off, 3)) (ht : (pc : Int) + off = (tgt : Int)) (kt : x = y → Z w tgt lv st k n) (kf : ¬ (x = y) → Z w (pc + 3) lv st k n) : Z w pc lv (.int y :: .int x :: st) k n := by
  obtain ⟨p, l, e, R, s, m, args, below, meth, c, E, ad0, n0, Q, rfl, ⟨hx, hb, hml, hown, hts, hK, hO, hA, hn0, had, hnm⟩, hR⟩ := F
  intro ad H locs ls a1 a2 a3 a4 a5 a6 a7 a8 a9
  exact lv_icmp_eq (x := x) (y := y) hx hb hd ht (fun h => (kt h ad H locs ls a1 a2 a3 (sk_tail (sk_tail a4)) a5 a6 a7 a8 a9)) (fun h => (kf h ad H locs ls a1 a2 a3 (sk_tail (sk_tail a4)) a5 a6 a7 a8 a9))
theorem g_if_eq (F : sk_F M d kc ks Z) {x : Int32} {off : Int} {tgt : Nat} (hd : decode M.2.1 pc = .ok (.ifCond .eq off, 3)) (ht : (pc : Int) + off = (tgt : Int)) (kt : x = 0 → Z w tgt lv st k n) (kf : ¬ (x = 0) → Z w (pc + 3) lv st k n) : Z w pc lv (.int x :: st) k n := by
  obtain ⟨p, l, e, R, s, m, args, below, meth, c, E, ad0, n0, Q, rfl, ⟨hx, hb, hml, hown, hts, hK, hO, hA, hn0, had, hnm⟩, hR⟩ := F
  intro ad H locs ls a1 a2 a3 a4 a5 a6 a7 a8 a9
  exact lv_if_eq (x := x) hx hb hd ht (fun h => (kt h ad H locs ls a1 a2 a3 (sk_tail a4) a5 a6 a7 a8 a9)) (fun h => (kf h ad H locs ls a1 a2 a3 (sk_tail a4) a5 a6 a7 a8 a9))
theorem g_icmp_ne (F : sk_F M d kc ks Z) {x y : Int32} {off : Int} {tgt : Nat} (hd : decode M.2.1 pc = .ok (.if_icmp .ne off, 3)) (ht : (pc : Int) + off = (tgt : Int)) (kt : ¬ x = y → Z w tgt lv st k n) (kf : x = y → Z w (pc + 3) lv st k n) : Z w pc lv (.int y :: .int x :: st) k n := by
  obtain ⟨p, l, e, R, s, m, args, below, meth, c, E, ad0, n0, Q, rfl, ⟨hx, hb, hml, hown, hts, hK, hO, hA, hn0, had, hnm⟩, hR⟩ := F
  intro ad H locs ls a1 a2 a3 a4 a5 a6 a7 a8 a9
  exact lv_icmp_ne (x := x) (y := y) hx hb hd ht (fun h => (kt h ad H locs ls a1 a2 a3 (sk_tail (sk_tail a4)) a5 a6 a7 a8 a9)) (fun h => (kf h ad H locs ls a1 a2 a3 (sk_tail (sk_tail a4)) a5 a6 a7 a8 a9))
theorem g_if_ne (F : sk_F M d kc ks Z) {x : Int32} {off : Int} {tgt : Nat} (hd : decode M.2.1 pc = .ok (.ifCond .ne off, 3)) (ht : (pc : Int) + off = (tgt : Int)) (kt : ¬ x = 0 → Z w tgt lv st k n) (kf : x = 0 → Z w (pc + 3) lv st k n) : Z w pc lv (.int x :: st) k n := by
  obtain ⟨p, l, e, R, s, m, args, below, meth, c, E, ad0, n0, Q, rfl, ⟨hx, hb, hml, hown, hts, hK, hO, hA, hn0, had, hnm⟩, hR⟩ := F
  intro ad H locs ls a1 a2 a3 a4 a5 a6 a7 a8 a9
  exact lv_if_ne (x := x) hx hb hd ht (fun h => (kt h ad H locs ls a1 a2 a3 (sk_tail a4) a5 a6 a7 a8 a9)) (fun h => (kf h ad H locs ls a1 a2 a3 (sk_tail a4) a5 a6 a7 a8 a9))
theorem g_icmp_lt (F : sk_F M d kc ks Z) {x y : Int32} {off : Int} {tgt : Nat} (hd : decode M.2.1 pc = .ok (.if_icmp .lt off, 3)) (ht : (pc : Int) + off = (tgt : Int)) (kt : x < y → Z w tgt lv st k n) (kf : ¬ (x < y) → Z w (pc + 3) lv st k n) : Z w pc lv (.int y :: .int x :: st) k n := by
  obtain ⟨p, l, e, R, s, m, args, below, meth, c, E, ad0, n0, Q, rfl, ⟨hx, hb, hml, hown, hts, hK, hO, hA, hn0, had, hnm⟩, hR⟩ := F
  intro ad H locs ls a1 a2 a3 a4 a5 a6 a7 a8 a9
  exact lv_icmp_lt (x := x) (y := y) hx hb hd ht (fun h => (kt h ad H locs ls a1 a2 a3 (sk_tail (sk_tail a4)) a5 a6 a7 a8 a9)) (fun h => (kf h ad H locs ls a1 a2 a3 (sk_tail (sk_tail a4)) a5 a6 a7 a8 a9))
theorem g_if_lt (F : sk_F M d kc ks Z) {x : Int32} {off : Int} {tgt : Nat} (hd : decode M.2.1 pc = .ok (.ifCond .lt off, 3)) (ht : (pc : Int) + off = (tgt : Int)) (kt : x < 0 → Z w tgt lv st k n) (kf : ¬ (x < 0) → Z w (pc + 3) lv st k n) : Z w pc lv (.int x :: st) k n := by
  obtain ⟨p, l, e, R, s, m, args, below, meth, c, E, ad0, n0, Q, rfl, ⟨hx, hb, hml, hown, hts, hK, hO, hA, hn0, had, hnm⟩, hR⟩ := F
  intro ad H locs ls a1 a2 a3 a4 a5 a6 a7 a8 a9
  exact lv_if_lt (x := x) hx hb hd ht (fun h => (kt h ad H locs ls a1 a2 a3 (sk_tail a4) a5 a6 a7 a8 a9)) (fun h => (kf h ad H locs ls a1 a2 a3 (sk_tail a4) a5 a6 a7 a8 a9))
theorem g_icmp_ge (F : sk_F M d kc ks Z) {x y : Int32} {off : Int} {tgt : Nat} (hd : decode M.2.1 pc = .ok (.if_icmp .ge off, 3)) (ht : (pc : Int) + off = (tgt : Int)) (kt : y ≤ x → Z w tgt lv st k n) (kf : ¬ (y ≤ x) → Z w (pc + 3) lv st k n) : Z w pc lv (.int y :: .int x :: st) k n := by
  obtain ⟨p, l, e, R, s, m, args, below, meth, c, E, ad0, n0, Q, rfl, ⟨hx, hb, hml, hown, hts, hK, hO, hA, hn0, had, hnm⟩, hR⟩ := F
  intro ad H locs ls a1 a2 a3 a4 a5 a6 a7 a8 a9
  exact lv_icmp_ge (x := x) (y := y) hx hb hd ht (fun h => (kt h ad H locs ls a1 a2 a3 (sk_tail (sk_tail a4)) a5 a6 a7 a8 a9)) (fun h => (kf h ad H locs ls a1 a2 a3 (sk_tail (sk_tail a4)) a5 a6 a7 a8 a9))
theorem g_if_ge (F : sk_F M d kc ks Z) {x : Int32} {off : Int} {tgt : Nat} (hd : decode M.2.1 pc = .ok (.ifCond .ge off, 3)) (ht : (pc : Int) + off = (tgt : Int)) (kt : 0 ≤ x → Z w tgt lv st k n) (kf : ¬ (0 ≤ x) → Z w (pc + 3) lv st k n) : Z w pc lv (.int x :: st) k n := by
  obtain ⟨p, l, e, R, s, m, args, below, meth, c, E, ad0, n0, Q, rfl, ⟨hx, hb, hml, hown, hts, hK, hO, hA, hn0, had, hnm⟩, hR⟩ := F
  intro ad H locs ls a1 a2 a3 a4 a5 a6 a7 a8 a9
  exact lv_if_ge (x := x) hx hb hd ht (fun h => (kt h ad H locs ls a1 a2 a3 (sk_tail a4) a5 a6 a7 a8 a9)) (fun h => (kf h ad H locs ls a1 a2 a3 (sk_tail a4) a5 a6 a7 a8 a9))
theorem g_icmp_gt (F : sk_F M d kc ks Z) {x y : Int32} {off : Int} {tgt : Nat} (hd : decode M.2.1 pc = .ok (.if_icmp .gt off, 3)) (ht : (pc : Int) + off = (tgt : Int)) (kt : y < x → Z w tgt lv st k n) (kf : ¬ (y < x) → Z w (pc + 3) lv st k n) : Z w pc lv (.int y :: .int x :: st) k n := by
  obtain ⟨p, l, e, R, s, m, args, below, meth, c, E, ad0, n0, Q, rfl, ⟨hx, hb, hml, hown, hts, hK, hO, hA, hn0, had, hnm⟩, hR⟩ := F
  intro ad H locs ls a1 a2 a3 a4 a5 a6 a7 a8 a9
  exact lv_icmp_gt (x := x) (y := y) hx hb hd ht (fun h => (kt h ad H locs ls a1 a2 a3 (sk_tail (sk_tail a4)) a5 a6 a7 a8 a9)) (fun h => (kf h ad H locs ls a1 a2 a3 (sk_tail (sk_tail a4)) a5 a6 a7 a8 a9))
theorem g_if_gt (F : sk_F M d kc ks Z) {x : Int32} {off : Int} {tgt : Nat} (hd : decode M.2.1 pc = .ok (.ifCond .gt off, 3)) (ht : (pc : Int) + off = (tgt : Int)) (kt : 0 < x → Z w tgt lv st k n) (kf : ¬ (0 < x) → Z w (pc + 3) lv st k n) : Z w pc lv (.int x :: st) k n := by
  obtain ⟨p, l, e, R, s, m, args, below, meth, c, E, ad0, n0, Q, rfl, ⟨hx, hb, hml, hown, hts, hK, hO, hA, hn0, had, hnm⟩, hR⟩ := F
  intro ad H locs ls a1 a2 a3 a4 a5 a6 a7 a8 a9
  exact lv_if_gt (x := x) hx hb hd ht (fun h => (kt h ad H locs ls a1 a2 a3 (sk_tail a4) a5 a6 a7 a8 a9)) (fun h => (kf h ad H locs ls a1 a2 a3 (sk_tail a4) a5 a6 a7 a8 a9))
theorem g_icmp_le (F : sk_F M d kc ks Z) {x y : Int32} {off : Int} {tgt : Nat} (hd : decode M.2.1 pc = .ok (.if_icmp .le off, 3)) (ht : (pc : Int) + off = (tgt : Int)) (kt : x ≤ y → Z w tgt lv st k n) (kf : ¬ (x ≤ y) → Z w (pc + 3) lv st k n) : Z w pc lv (.int y :: .int x :: st) k n := by
  obtain ⟨p, l, e, R, s, m, args, below, meth, c, E, ad0, n0, Q, rfl, ⟨hx, hb, hml, hown, hts, hK, hO, hA, hn0, had, hnm⟩, hR⟩ := F
  intro ad H locs ls a1 a2 a3 a4 a5 a6 a7 a8 a9
  exact lv_icmp_le (x := x) (y := y) hx hb hd ht (fun h => (kt h ad H locs ls a1 a2 a3 (sk_tail (sk_tail a4)) a5 a6 a7 a8 a9)) (fun h => (kf h ad H locs ls a1 a2 a3 (sk_tail (sk_tail a4)) a5 a6 a7 a8 a9))
theorem g_if_le (F : sk_F M d kc ks Z) {x : Int32} {off : Int} {tgt : Nat} (hd : decode M.2.1 pc = .ok (.ifCond .le off, 3)) (ht : (pc : Int) + off = (tgt : Int)) (kt : x ≤ 0 → Z w tgt lv st k n) (kf : ¬ (x ≤ 0) → Z w (pc + 3) lv st k n) : Z w pc lv (.int x :: st) k n := by
  obtain ⟨p, l, e, R, s, m, args, below, meth, c, E, ad0, n0, Q, rfl, ⟨hx, hb, hml, hown, hts, hK, hO, hA, hn0, had, hnm⟩, hR⟩ := F
  intro ad H locs ls a1 a2 a3 a4 a5 a6 a7 a8 a9
  exact lv_if_le (x := x) hx hb hd ht (fun h => (kt h ad H locs ls a1 a2 a3 (sk_tail a4) a5 a6 a7 a8 a9)) (fun h => (kf h ad H locs ls a1 a2 a3 (sk_tail a4) a5 a6 a7 a8 a9))
theorem g_goto (F : sk_F M d kc ks Z) {off : Int} {tgt : Nat} (hd : decode M.2.1 pc = .ok (.goto off, 3)) (ht : (pc : Int) + off = (tgt : Int)) (h : Z w tgt lv st k n) : Z w pc lv st k n := by
  obtain ⟨p, l, e, R, s, m, args, below, meth, c, E, ad0, n0, Q, rfl, ⟨hx, hb, hml, hown, hts, hK, hO, hA, hn0, had, hnm⟩, hR⟩ := F
  intro ad H locs ls a1 a2 a3 a4 a5 a6 a7 a8 a9
  exact lv_goto hx hb hd ht (h ad H locs ls a1 a2 a3 a4 a5 a6 a7 a8 a9)
theorem g_ifnull (F : sk_F M d kc ks Z) {x : Nat} {off : Int} (hd : decode M.2.1 pc = .ok (.ifnull off, 3)) (h : Z w (pc + 3) lv st k n) : Z w pc lv (.ref x :: st) k n := by
  obtain ⟨p, l, e, R, s, m, args, below, meth, c, E, ad0, n0, Q, rfl, ⟨hx, hb, hml, hown, hts, hK, hO, hA, hn0, had, hnm⟩, hR⟩ := F
  intro ad H locs ls a1 a2 a3 a4 a5 a6 a7 a8 a9
  exact lv_ifnull hx hb hd (h ad H locs ls a1 a2 a3 (sk_tail a4) a5 a6 a7 a8 a9)
theorem g_ifnullN (F : sk_F M d kc ks Z) {off : Int} {tgt : Nat} (hd : decode M.2.1 pc = .ok (.ifnull off, 3)) (ht : (pc : Int) + off = (tgt : Int)) (h : Z w tgt lv st k n) : Z w pc lv (.null :: st) k n := by
  obtain ⟨p, l, e, R, s, m, args, below, meth, c, E, ad0, n0, Q, rfl, ⟨hx, hb, hml, hown, hts, hK, hO, hA, hn0, had, hnm⟩, hR⟩ := F
  intro ad H locs ls a1 a2 a3 a4 a5 a6 a7 a8 a9
  exact lv_ifnullN hx hb hd ht (h ad H locs ls a1 a2 a3 (sk_tail a4) a5 a6 a7 a8 a9)
theorem g_ifnonnull (F : sk_F M d kc ks Z) {x : Nat} {off : Int} {tgt : Nat} (hd : decode M.2.1 pc = .ok (.ifnonnull off, 3)) (ht : (pc : Int) + off = (tgt : Int)) (h : Z w tgt lv st k n) : Z w pc lv (.ref x :: st) k n := by
  obtain ⟨p, l, e, R, s, m, args, below, meth, c, E, ad0, n0, Q, rfl, ⟨hx, hb, hml, hown, hts, hK, hO, hA, hn0, had, hnm⟩, hR⟩ := F
  intro ad H locs ls a1 a2 a3 a4 a5 a6 a7 a8 a9
  exact lv_ifnonnull hx hb hd ht (h ad H locs ls a1 a2 a3 (sk_tail a4) a5 a6 a7 a8 a9)
theorem g_ifnonnullN (F : sk_F M d kc ks Z) {off : Int} (hd : decode M.2.1 pc = .ok (.ifnonnull off, 3)) (h : Z w (pc + 3) lv st k n) : Z w pc lv (.null :: st) k n := by
  obtain ⟨p, l, e, R, s, m, args, below, meth, c, E, ad0, n0, Q, rfl, ⟨hx, hb, hml, hown, hts, hK, hO, hA, hn0, had, hnm⟩, hR⟩ := F
  intro ad H locs ls a1 a2 a3 a4 a5 a6 a7 a8 a9
  exact lv_ifnonnullN hx hb hd (h ad H locs ls a1 a2 a3 (sk_tail a4) a5 a6 a7 a8 a9)
theorem g_tableOut (F : sk_F M d kc ks Z) {x : Int32} {dflt lo hi : Int} {offs : Array Int} {len tgt : Nat} (hd : decode M.2.1 pc = .ok (.tableswitch dflt lo hi offs, len)) (hc : x.toInt < lo ∨ hi < x.toInt) (ht : (pc : Int) + dflt = (tgt : Int)) (h : Z w tgt lv st k n) : Z w pc lv (.int x :: st) k n := by
  obtain ⟨p, l, e, R, s, m, args, below, meth, c, E, ad0, n0, Q, rfl, ⟨hx, hb, hml, hown, hts, hK, hO, hA, hn0, had, hnm⟩, hR⟩ := F
  intro ad H locs ls a1 a2 a3 a4 a5 a6 a7 a8 a9
  exact lv_tableOut hx hb hd hc ht (h ad H locs ls a1 a2 a3 (sk_tail a4) a5 a6 a7 a8 a9)
theorem g_tableIn (F : sk_F M d kc ks Z) {x : Int32} {dflt lo hi off : Int} {offs : Array Int} {len tgt : Nat} (hd : decode M.2.1 pc = .ok (.tableswitch dflt lo hi offs, len)) (h1 : ¬ x.toInt < lo) (h2 : ¬ hi < x.toInt) (ho : offs[(x.toInt - lo).toNat]? = some off) (ht : (pc : Int) + off = (tgt : Int)) (h : Z w tgt lv st k n) : Z w pc lv (.int x :: st) k n := by
  obtain ⟨p, l, e, R, s, m, args, below, meth, c, E, ad0, n0, Q, rfl, ⟨hx, hb, hml, hown, hts, hK, hO, hA, hn0, had, hnm⟩, hR⟩ := F
  intro ad H locs ls a1 a2 a3 a4 a5 a6 a7 a8 a9
  exact lv_tableIn hx hb hd h1 h2 ho ht (h ad H locs ls a1 a2 a3 (sk_tail a4) a5 a6 a7 a8 a9)
end SKR
