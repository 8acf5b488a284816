abbrev Sg : Type := List Th × List Int32 × (Nat → Int32) × (Nat → Int32) × List Int32
def cntD (d : Nat → Int32) : Nat := ((List.range 26).filter (fun l => decide (¬ d l = -1))).length
def CR (ρ : Nat → List Int32) (γ : cM) (σ : Sg) : Prop := StR ρ γ σ.1 ∧ ρ 88 = σ.2.1 ∧ (∀ l, l < 26 → γ 90 l = σ.2.2.1 l) ∧ (∀ b, b < 4 → γ 85 b = σ.2.2.2.1 b) ∧ ρ 91 = σ.2.2.2.2 ∧ γ 18 3 = nI (cntD σ.2.2.1)
def MT (c : cM) (i : Nat) (x : Th) : Prop := c 177 i = x.1 ∧ c 178 i = nI x.2.1.length ∧ (∀ k, k < x.2.1.length → c 179 (120 * i + k) = x.2.1.getD k 0) ∧ ∀ k, k < 5 → c 180 (5 * i + k) = x.2.2 k
def MD (c : cM) (d : Nat → Int32) : Prop := c 176 9 = nI (cntD d) ∧ (∀ k, k < cntD d → ∃ l, l < 26 ∧ c 184 k = nI l ∧ c 185 k = d l ∧ ¬ d l = -1) ∧ (∀ l, l < 26 → ¬ d l = -1 → ∃ k, k < cntD d ∧ c 184 k = nI l) ∧ ∀ k k', k < cntD d → k' < cntD d → c 184 k = c 184 k' → k = k'
def MR (c : cM) (σ : Sg) : Prop := c 176 0 = nI σ.1.length ∧ (∀ (i : Nat) (x : Th), σ.1[i]? = some x → MT c i x) ∧ (c 176 7 = nI σ.2.1.length ∧ ∀ k, k < σ.2.1.length → c 183 k = σ.2.1.getD k 0) ∧ MD c σ.2.2.1 ∧ (∀ b, b < 4 → c 186 b = σ.2.2.2.1 b) ∧ (c 176 17 = nI σ.2.2.2.2.length ∧ ∀ k, k < σ.2.2.2.2.length → c 190 k = σ.2.2.2.2.getD k 0)
def byt (L : List Int32) : Prop := ∀ b ∈ L, ∃ j, j < 256 ∧ b = nI j
def VT (x : Th) : Prop := (x.1 = 1 ∨ x.1 = 2 ∨ x.1 = 3) ∧ byt x.2.1 ∧ x.2.1.length ≤ 120
def VS (σ : Sg) : Prop := (∀ x ∈ σ.1, VT x) ∧ σ.1.length ≤ 16 ∧ (∀ (i j : Nat) (x y : Th), σ.1[i]? = some x → σ.1[j]? = some y → sameN x.2.2 y.2.2 → i = j) ∧ (byt σ.2.1 ∧ σ.2.1.length ≤ 64) ∧ (∀ l, l < 26 → σ.2.2.1 l = -1 ∨ ∃ j, j < σ.1.length ∧ σ.2.2.1 l = nI j) ∧ (∀ b, b < 4 → σ.2.2.2.1 b = -1 ∨ ∃ j, j < σ.1.length ∧ σ.2.2.2.1 b = nI j) ∧ (byt σ.2.2.2.2 ∧ σ.2.2.2.2.length ≤ 2192) ∧ cntD σ.2.2.1 ≤ 4
def Inv (c : cM) (σ : Sg) : Prop := (∃ ρ γ, Rep c ρ γ ∧ CR ρ γ σ) ∧ MR c σ ∧ VS σ
theorem mk_k : kd 176 = 7 ∧ rf 176 1 = 177 ∧ rf 176 2 = 178 ∧ rf 176 3 = 179 ∧ rf 176 4 = 180 ∧ rf 176 5 = 181 ∧ rf 176 6 = 182 := by decide +kernel
theorem mk_k2 : rf 176 8 = 183 ∧ rf 176 10 = 184 ∧ rf 176 11 = 185 ∧ rf 176 12 = 186 ∧ rf 176 14 = 187 ∧ rf 176 15 = 188 ∧ rf 176 16 = 189 := by decide +kernel
theorem mk_k3 : rf 176 18 = 190 ∧ rf 176 19 = 191 ∧ rf 176 24 = 192 := by decide +kernel
theorem mk_a : kd 177 = 100 ∧ kd 178 = 100 ∧ kd 179 = 100 ∧ kd 180 = 100 ∧ kd 181 = 101 ∧ kd 182 = 100 ∧ kd 183 = 100 := by decide +kernel
theorem mk_a2 : kd 184 = 100 ∧ kd 185 = 100 ∧ kd 186 = 100 ∧ kd 187 = 100 ∧ kd 188 = 100 ∧ kd 189 = 100 := by decide +kernel
theorem mk_a3 : kd 190 = 100 ∧ kd 191 = 100 ∧ kd 192 = 100 := by decide +kernel
theorem mk_l : ln 177 = 33 ∧ ln 178 = 33 ∧ ln 179 = 3960 ∧ ln 180 = 165 ∧ ln 181 = 16 ∧ ln 182 = 16 ∧ ln 183 = 64 := by decide +kernel
theorem mk_l2 : ln 184 = 4 ∧ ln 185 = 4 ∧ ln 186 = 4 ∧ ln 187 = 2560 ∧ ln 188 = 80 ∧ ln 189 = 5 := by decide +kernel
theorem mk_l3 : ln 190 = 2400 ∧ ln 191 = 16 ∧ ln 192 = 400 := by decide +kernel
theorem ps_k : kd 18 = 0 ∧ rf 18 0 = 19 ∧ rf 18 1 = 88 ∧ rf 18 2 = 90 ∧ rf 18 4 = 91 ∧ rf 18 5 = 93 ∧ rf 18 6 = 98 := by decide +kernel
theorem ps_k2 : rf 18 7 = 102 ∧ rf 18 8 = 105 ∧ kd 88 = 1 ∧ kd 90 = 100 ∧ ln 90 = 26 ∧ kd 91 = 1 ∧ kd 93 = 2 := by decide +kernel
theorem ps_k3 : kd 98 = 3 ∧ kd 102 = 5 ∧ kd 105 = 6 ∧ ln (88 + 1) = 64 ∧ ln (91 + 1) = 2192 := by decide +kernel
/-- the end of a pair of calls -/
def Fin2 (J : cM → Prop) (v v' : Int32) (c : cM) : Prop := (v = v' → J c) ∧ (¬ v = v' → (0 : Int32) = 1)
theorem fin2 {J : cM → Prop} {v v' : Int32} {c : cM} (h : v = v') (hj : J c) : Fin2 J v v' c := ⟨fun _ => hj, fun g => absurd h g⟩
theorem m_isThing {c : cM} {n : Nat} {x : Int32} {K : Int32 → cM → Prop} (hn : c 176 0 = nI n) (hn2 : n < 2 ^ 31) (h1 : ∀ j, j < n → x = nI j → K 1 c) (h0 : (∀ j, j < n → x ≠ nI j) → K 0 c) : f_Mo_isThing 176 x c K := by
  unfold f_Mo_isThing
  rw [hn]
  refine ⟨fun g => h0 (fun j hj e => absurd g (by rw [e]; exact nI_pos (by omega))), fun g => ⟨mk_k.1, fun g2 => h0 (fun j hj e => ?_), fun g2 => ?_⟩⟩
  · rw [e] at g2
    exact nI_ge hj hn2 g2
  · obtain ⟨j, hj, rfl⟩ := nI_of g
    have h3 : j < n := by
      rcases Nat.lt_or_ge j n with q | q
      · exact q
      · exact absurd (nI_le q hj) g2
    exact h1 j h3 rfl
theorem m_isKind {c : cM} {n : Nat} {x k : Int32} {K : Int32 → cM → Prop} (hn : c 176 0 = nI n) (hn2 : n ≤ 16) (h1 : ∀ j, j < n → x = nI j → c 177 j = k → K 1 c) (h0 : (∀ j, j < n → x = nI j → ¬ c 177 j = k) → K 0 c) : f_Mo_isKind 176 x k c K := by
  unfold f_Mo_isKind
  rw [mk_k.2.1, mk_l.1]
  refine ⟨mk_k.1, m_isThing hn (by omega) (fun j hj e => ⟨fun g => absurd g (by decide), fun _ => ⟨mk_a.1, ?_⟩⟩) (fun g => ⟨fun _ => h0 (fun j hj e => absurd e (g j hj)), fun g2 => absurd rfl g2⟩)⟩
  rw [e, nI_clamp (by omega)]
  refine ⟨vp_in_nI (by omega) (by decide), fun g => h0 (fun i hi ei => ?_), fun g => h1 j hj e g⟩
  have : i = j := (nI_eq (by omega) (by omega)).mp (ei.symm.trans e)
  rw [this]
  exact g
theorem p_things {c : cM} {σ : Sg} {J : cM → Prop} (h : Inv c σ) (hJ : ∀ c σ, Inv c σ → J c) : f_P_things 18 c (fun v c1 => kd 176 = 7 ∧ f_Mo_things 176 c1 (fun v' c2 => Fin2 J v v' c2)) := by
  obtain ⟨⟨ρ, γ, hR, hC⟩, hM, hV⟩ := h
  unfold f_P_things f_Mo_things
  rw [ps_k.2.1]
  exact ⟨ps_k.1, st_k.2.2.2.2.1, mk_k.1, mk_k.1, fin2 (by rw [hR.2 19 n19, hC.1.1, hM.1]) (hJ c σ ⟨⟨ρ, γ, hR, hC⟩, hM, hV⟩)⟩
theorem get_some {α : Type} {l : List α} {j : Nat} (h : j < l.length) : ∃ x, l[j]? = some x := ⟨l[j], List.getElem?_eq_getElem h⟩
theorem p_kind {c : cM} {σ : Sg} {x : Int32} {J : cM → Prop} (h : Inv c σ) (hJ : ∀ c σ, Inv c σ → J c) : f_P_kind 18 x c (fun v c1 => kd 176 = 7 ∧ f_Mo_kind 176 x c1 (fun v' c2 => Fin2 J v v' c2)) := by
  have hj := hJ c σ h
  obtain ⟨⟨ρ, γ, hR, hC⟩, hM, hV⟩ := h
  have hn := hV.2.1
  unfold f_P_kind f_Mo_kind
  rw [ps_k.2.1, mk_k.2.1, mk_l.1]
  refine ⟨ps_k.1, st_k.2.2.2.2.1, s_kindOf hR hC.1.1 hn (fun j hj1 e => ⟨mk_k.1, mk_k.1, m_isThing hM.1 (by omega) (fun i hi ei => ?_) (fun g => absurd e (g j hj1))⟩) (fun g => ⟨mk_k.1, mk_k.1, m_isThing hM.1 (by omega) (fun i hi ei => absurd ei (g i hi)) (fun _ => ⟨fun _ => fin2 rfl hj, fun g2 => absurd rfl g2⟩)⟩)⟩
  refine ⟨fun g => absurd g (by decide), fun _ => ⟨mk_a.1, ?_⟩⟩
  rw [e, nI_clamp (by omega)]
  obtain ⟨y, hy⟩ := get_some hj1
  exact ⟨vp_in_nI (by omega) (by decide), fin2 (by rw [(hC.1.2.2 j y hy).1, (hM.2.1 j y hy).1]) hj⟩
theorem p_size {c : cM} {σ : Sg} {x : Int32} {J : cM → Prop} (h : Inv c σ) (hJ : ∀ c σ, Inv c σ → J c) : f_P_size 18 x c (fun v c1 => kd 176 = 7 ∧ f_Mo_size 176 x c1 (fun v' c2 => Fin2 J v v' c2)) := by
  have hj := hJ c σ h
  obtain ⟨⟨ρ, γ, hR, hC⟩, hM, hV⟩ := h
  have hn := hV.2.1
  unfold f_P_size f_Mo_size
  rw [ps_k.2.1, mk_k.2.2.1, mk_l.2.1, st_k.1, st_k.2.2.2.2.2.2.1]
  refine ⟨ps_k.1, st_k.2.2.2.2.1, s_has hR hC.1.1 (by omega) (fun j hj1 e => ⟨fun g => absurd g (by decide), fun _ => ⟨st_k.2.2.2.2.2.1, ?_⟩⟩) (fun g => ⟨fun _ => ⟨mk_k.1, mk_k.1, m_isThing hM.1 (by omega) (fun i hi ei => absurd ei (g i hi)) (fun _ => ⟨fun _ => fin2 rfl hj, fun g2 => absurd rfl g2⟩)⟩, fun g2 => absurd rfl g2⟩)⟩
  obtain ⟨t1, t2⟩ := st_t j (by omega)
  obtain ⟨a1, a2, a3, -⟩ := thing_k t2
  obtain ⟨y, hy⟩ := get_some hj1
  rw [e, nI_clamp (by omega), t1, a1]
  refine ⟨vp_in_nI (by omega) (by decide), t2, a3, mk_k.1, mk_k.1, m_isThing hM.1 (by omega) (fun i hi ei => ⟨fun g => absurd g (by decide), fun _ => ⟨mk_a.2.1, ?_⟩⟩) (fun g => absurd rfl (g j hj1))⟩
  exact ⟨vp_in_nI (by omega) (by decide), fin2 (by rw [(hR.1 _ a3).1, (hC.1.2.2 j y hy).2.1, (hM.2.1 j y hy).2.1]) hj⟩
theorem p_packed {c : cM} {σ : Sg} {J : cM → Prop} (h : Inv c σ) (hJ : ∀ c σ, Inv c σ → J c) : f_P_packed 18 c (fun v c1 => kd 176 = 7 ∧ f_Mo_packed 176 c1 (fun v' c2 => Fin2 J v v' c2)) := by
  have hj := hJ c σ h
  obtain ⟨⟨ρ, γ, hR, hC⟩, hM, hV⟩ := h
  unfold f_P_packed f_Mo_packed
  rw [ps_k.2.2.2.2.1]
  exact ⟨ps_k.1, ps_k2.2.2.2.2.2.1, mk_k.1, mk_k.1, fin2 (by rw [(hR.1 91 ps_k2.2.2.2.2.2.1).1, hC.2.2.2.2.1, hM.2.2.2.2.2.1]) hj⟩
theorem p_packByte {c : cM} {σ : Sg} {x : Int32} {J : cM → Prop} (h : Inv c σ) (hJ : ∀ c σ, Inv c σ → J c) : f_P_packByte 18 x c (fun v c1 => kd 176 = 7 ∧ f_Mo_packByte 176 x c1 (fun v' c2 => Fin2 J v v' c2)) := by
  have hj := hJ c σ h
  obtain ⟨⟨ρ, γ, hR, hC⟩, hM, hV⟩ := h
  have hl := hV.2.2.2.2.2.2.1.2
  unfold f_P_packByte
  rw [ps_k.2.2.2.2.1]
  refine ⟨ps_k.1, ps_k2.2.2.2.2.2.1, s_at hR ps_k2.2.2.2.2.2.1 ⟨mk_k.1, ?_⟩⟩
  rw [hC.2.2.2.2.1]
  unfold f_Mo_packByte atL
  rw [mk_k3.1, mk_l3.1, hM.2.2.2.2.2.1]
  refine ⟨fun g => fin2 (by rw [if_pos g]) hj, fun g => ⟨mk_k.1, fun g2 => fin2 (by rw [if_neg g, if_pos g2]) hj, fun g2 => ⟨mk_a3.1, ?_⟩⟩⟩
  obtain ⟨j, hj1, rfl⟩ := nI_of g
  have h3 : j < σ.2.2.2.2.length := by
    rcases Nat.lt_or_ge j σ.2.2.2.2.length with q | q
    · exact q
    · exact absurd (nI_le q hj1) g2
  rw [nI_clamp hj1]
  exact ⟨vp_in_nI (by omega) (by decide), fin2 (by rw [if_neg g, if_neg g2, hM.2.2.2.2.2.2 j h3]) hj⟩
theorem p_held {c : cM} {σ : Sg} {x : Int32} {J : cM → Prop} (h : Inv c σ) (hJ : ∀ c σ, Inv c σ → J c) : f_P_held 18 x c (fun v c1 => kd 176 = 7 ∧ f_Mo_held 176 x c1 (fun v' c2 => Fin2 J v v' c2)) := by
  have hj := hJ c σ h
  obtain ⟨⟨ρ, γ, hR, hC⟩, hM, hV⟩ := h
  unfold f_P_held f_Mo_held
  rw [ps_k.2.1, st_k.2.1, st_k.2.2.2.2.2.2.2.2, mk_k2.2.2.2.1, mk_l2.2.2.1, hR.2 85 n85]
  refine ⟨fun g => ⟨mk_k.1, True, fun _ => fin2 rfl hj, fun _ => trivial, fun g2 => absurd g g2⟩, fun g => ⟨fun g2 => ⟨mk_k.1, True, fun _ => fin2 rfl hj, fun _ => trivial, fun _ => ⟨fun g3 => ?_, fun _ => trivial⟩⟩, fun g2 => ⟨ps_k.1, st_k.2.2.2.2.1, st_k.2.2.2.2.2.2.2.1, ?_⟩⟩⟩
  · obtain ⟨j, hj1, rfl⟩ := nI_of g
    have e1 := (nI_leI (a := 4) (by decide) hj1).mp g2
    have e2 := (nI_leI (b := 3) hj1 (by decide)).mp g3
    omega
  · obtain ⟨j, hj1, rfl⟩ := nI_of g
    have h3 : j < 4 := by
      rcases Nat.lt_or_ge j 4 with q | q
      · exact q
      · exact absurd (nI_le (a := 4) q hj1) g2
    rw [nI_clamp hj1, hC.2.2.2.1 j h3]
    have hm : ∀ v : Int32, v = σ.2.2.2.1 j → kd 176 = 7 ∧ ∃ J6 : Prop, (J6 → Fin2 J v (-1) c) ∧ ((nI j < 0 → J6) ∧ (¬ nI j < 0 → (nI j ≤ 3 → kd 176 = 7 ∧ kd 186 = 100 ∧ vp_in (nI j) 4 ∧ Fin2 J v (c 186 j) c) ∧ (¬ nI j ≤ 3 → J6))) := by
      intro v hv
      refine ⟨mk_k.1, False, fun q => q.elim, fun q => absurd q g, fun _ => ⟨fun _ => ⟨mk_k.1, mk_a2.2.2.1, vp_in_nI h3 (by decide), fin2 (by rw [hM.2.2.2.2.1 j h3]; exact hv) hj⟩, fun q => absurd (nI_le (b := 3) (by omega) (by decide)) q⟩⟩
    refine ⟨vp_in_nI h3 (by decide), fun g3 => hm _ rfl, fun g3 => hm _ g3.symm⟩
