
def eqV (a b : Value) : Bool := match a, b with
  | .int x, .int y => decide (x = y)
  | .ref x, .ref y => decide (x = y)
  | .null, .null => true
  | _, _ => false
theorem eqV_s {a b : Value} (h : eqV a b = true) : a = b := by
  unfold eqV at h
  split at h
  · rw [of_decide_eq_true h]
  · rw [of_decide_eq_true h]
  · rfl
  · cases h
def eqLs {α : Type} (e : α → α → Bool) : List α → List α → Bool
  | [], [] => true
  | a :: l, b :: m => e a b && eqLs e l m
  | _, _ => false
theorem eqLs_s {α : Type} {e : α → α → Bool} (he : ∀ a b, e a b = true → a = b) : ∀ {l m : List α}, eqLs e l m = true → l = m
  | [], [], _ => rfl
  | a :: l, b :: m, h => by
    have h1 : (e a b && eqLs e l m) = true := h
    rw [Bool.and_eq_true] at h1
    rw [he a b h1.1, eqLs_s he h1.2]
  | [], _ :: _, h => by cases h
  | _ :: _, [], h => by cases h
def eqC (a b : sk_C) : Bool := match a, b with
  | .inl x, .inl y => decide (x = y)
  | .inr (.inl x), .inr (.inl y) => decide (x = y)
  | .inr (.inr x), .inr (.inr y) => decide (x.1 = y.1) && eqLs eqV x.2 y.2
  | _, _ => false
theorem eqC_s (a b : sk_C) (h : eqC a b = true) : a = b := by
  unfold eqC at h
  split at h
  · rw [of_decide_eq_true h]
  · rw [of_decide_eq_true h]
  · rename_i x y
    rw [Bool.and_eq_true] at h
    have h1 := of_decide_eq_true h.1
    have h2 := eqLs_s (fun _ _ => eqV_s) h.2
    rw [show x = y from Prod.ext h1 h2]
  · cases h
def eqO (a : Option sk_H) (b : sk_H) : Bool := match a with
  | some x => eqLs eqC x b
  | none => false
theorem eqO_s {a : Option sk_H} {b : sk_H} (h : eqO a b = true) : a = some b := by
  unfold eqO at h
  split at h
  · rw [eqLs_s eqC_s h]
  · cases h
def c0 : cM := fun i j => if kd i = 3 ∧ j = 0 then 3 else if i = 90 ∨ i = 85 ∨ i = 186 then -1 else 0
def w_0 : sk_H := List.replicate 18 sk_dum
def w_1 : sk_H := (x_P_init 18 (w_0 ++ [.inr (.inr (0, [.null, .null, .null, .int 0, .null, .null, .null, .null, .null]))])).getD []
theorem e_0 : (x_P_init 18 (w_0 ++ [.inr (.inr (0, [.null, .null, .null, .int 0, .null, .null, .null, .null, .null]))])).isSome = true := by decide +kernel
theorem e_1 : x_P_init 18 (w_0 ++ [.inr (.inr (0, [.null, .null, .null, .int 0, .null, .null, .null, .null, .null]))]) = some w_1 := by
  obtain ⟨v, hv⟩ := Option.isSome_iff_exists.mp e_0
  unfold w_1
  rw [hv]
  rfl
theorem l_1 : w_1.length = 176 := by decide +kernel
theorem e_2 : x_Mo_init 176 (w_1 ++ [.inr (.inr (7, [.int 0, .null, .null, .null, .null, .null, .null, .int 0, .null, .int 0, .null, .null, .null, .int 0, .null, .null, .null, .int 0, .null, .null, .int 0, .int 0, .int 0, .int 0, .null]))]) = some ((List.range c_N).map (fun i => c_el (c0 i) i)) := eqO_s (by decide +kernel)
theorem e_3 : x_Mo_init 176 (w_1 ++ [.inr (.inr (7, [.int 0, .null, .null, .null, .null, .null, .null, .int 0, .null, .int 0, .null, .null, .null, .int 0, .null, .null, .null, .int 0, .null, .null, .int 0, .int 0, .int 0, .int 0, .null]))]) = some (wd c0) := by rw [wd_def]; exact e_2
theorem oW_0 : sk_oW w_0 := by
  refine ⟨fun i hi => ?_, fun c hc => ?_⟩
  · unfold w_0
    rw [List.getElem?_replicate, if_pos (show i < 18 from hi)]
  · unfold w_0 at hc
    rw [List.eq_of_mem_replicate hc]
    intro v hv
    cases hv
theorem b_law {d kc ks : Nat} {Z : sk_P} (F : sk_F M_law 11 600000 7302250 Z) (h : Z (wd c0) 16 [(2, .ref 176), (1, .ref 18), (0, .ref 0)] [] 175 16829) : Z w_0 0 [(0, .ref 0)] [] 0 0 := by
  refine g_new F (pc := 0) d_law_0 nw_Lw_7 (Nat.le_of_ble_eq_true rfl) (Nat.le_of_ble_eq_true rfl) (g_dup F (pc := 3) d_law_3 rfl ?_)
  refine g_callI (b := 18) (As := []) (st := [.ref 18]) F (pc := 4) d_law_4 cb_Lw_9 iv_P_init np_P_init (k_P_init e_1) rfl (by decide) (Nat.le_of_ble_eq_true rfl) (Nat.le_of_ble_eq_true rfl) (Nat.le_of_ble_eq_true rfl) (fun r9 w9 h9 _ => PoW.el (P := fun r w' => Z w' 7 [(0, .ref 0)] (r.toList ++ [.ref 18]) _ _) h9 ?_)
  refine g_astore_n (lv' := [(1, .ref 18), (0, .ref 0)]) F (pc := 7) d_law_7 (by decide) rfl (g_new F (pc := 8) d_law_8 nw_Lw_10 (Nat.le_of_ble_eq_true rfl) (Nat.le_of_ble_eq_true rfl) (g_dup F (pc := 11) d_law_11 rfl ?_))
  rw [l_1]
  refine g_callI (b := 176) (As := []) (st := [.ref 176]) F (pc := 12) d_law_12 cb_Lw_12 iv_Mo_init np_Mo_init (k_Mo_init e_3) rfl (by decide) (Nat.le_of_ble_eq_true rfl) (Nat.le_of_ble_eq_true rfl) (Nat.le_of_ble_eq_true rfl) (fun r9 w9 h9 _ => PoW.el (P := fun r w' => Z w' 15 [(1, .ref 18), (0, .ref 0)] (r.toList ++ [.ref 176]) _ _) h9 ?_)
  refine g_astore_n (lv' := [(2, .ref 176), (1, .ref 18), (0, .ref 0)]) F (pc := 15) d_law_15 (by decide) rfl ?_
  exact h
theorem whole_of (hf : ∀ (L : Nat) (xs : Nat → Int32), L ≤ 2048 → f_law L xs c0) {p : Program} {e : Env} {s : State} {m : MethodId} {below : List Frame} {meth : Method} {c : Code} (l : Launch) {b L : Nat} {xs : Nat → Int32} (hL : L ≤ 2048) (C0 : lw_At p s m meth c b L xs) : W p l e room_1 s m #[Value.ref b] below meth c s.heap [] 0 0 (lw_Z below #[Value.ref b] s) (entryFrame m ([Value.ref b] : List Value).toArray 4) := by
  obtain ⟨E, u1, u2, u3, u4, hK, hO⟩ := sk_start C0
  obtain ⟨hx, hb, hr, hml, hown, hts, hX, hbl, hlk, hgv⟩ := C0
  have hA : ∀ q, s.heap.size ≤ q → eA E q := fun q hq => by rw [u4]; exact hq
  have FX : sk_FX M_law 11 600000 7302250 (sk_G p l e room_1 s m #[Value.ref b] below meth c 4 E (eO E) sk_k (lw_Z below #[Value.ref b] s)) L xs :=
    ⟨p, l, e, room_1, s, m, _, below, meth, c, E, eO E, sk_k, _, rfl, ⟨hx, hb, hml, hown, fun w hw => hts w (List.mem_filter.mp hw).1, hK, hO, hA, Nat.le_refl _, fun _ _ => rfl, fun h => absurd h (by decide)⟩, ⟨by decide, by decide, by decide, by decide⟩, u1, u2⟩
  have R : ∀ (w : sk_H) (pc : Nat) (lv : List (Nat × Value)), decode M_law.2.1 pc = .ok (.ireturn, 1) → sk_G p l e room_1 s m #[Value.ref b] below meth c 4 E (eO E) sk_k (lw_Z below #[Value.ref b] s) w pc lv [.int 1] 175 16829 := by
    intro w pc lv hd ad H locs ls a1 a2 a3 a4 a5 a6 a7 a8 a9
    refine va_forget (fun q hq => ?_) (W.widen (k := 600000) (n := 7302250) (by decide) (by decide) (lw_ret hx hb hr hlk hd))
    have h1 := a9.2.2 q hq
    rw [u4] at h1
    exact h1
  have hz := b_law (d := 11) (kc := 0) (ks := 0) FX.F (c_law (d := 0) FX (by decide) (by decide) R (hf L xs hL))
  have hl := lv_entry [Value.ref b] (n := 4) (Nat.le_of_ble_eq_true rfl)
  rw [lg_entry_eq]
  refine hz (eO E) s.heap [] _ (by decide) oW_0 (fun q hq => ?_) (fun _ h => by cases h) (fun _ _ => rfl) ?_ ?_ ?_ va_S.rf
  · rcases List.mem_cons.mp hq with h | h
    · rw [h]; exact sk_oV_ref (by decide)
    · cases h
  · show lv_has _ 4 [(0, .ref (eO E 0))]
    rw [u3]
    exact hl
  · intro k q hq
    have h1 := (List.getElem?_eq_some_iff.mp hq).1
    have h2 : (sk_w (eT E) (eO E) w_0).length = 0 := by unfold sk_w; rw [List.length_mapIdx, List.length_drop]; decide
    omega
  · refine ⟨fun i j p q hp hq _ => ?_, fun k q hq => ?_⟩
    · have h1 := (List.getElem?_eq_some_iff.mp hp).1
      have h2 : (sk_w (eT E) (eO E) w_0).length = 0 := by unfold sk_w; rw [List.length_mapIdx, List.length_drop]; decide
      omega
    · have h1 := (List.getElem?_eq_some_iff.mp hq).1
      have h2 : (sk_w (eT E) (eO E) w_0).length = 0 := by unfold sk_w; rw [List.length_mapIdx, List.length_drop]; decide
      omega

