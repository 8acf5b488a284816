theorem ushr_n : ∀ s, s < 32 → (((nI s).toUInt32 &&& Int32.toUInt32 31) % 32).toBitVec.toNat = s := by decide +kernel
theorem ushr_nat (x : Int32) {s : Nat} (hs : s < 32) : (c_ushr x (nI s)).toBitVec.toNat = x.toBitVec.toNat / 2 ^ s := by
  show (x.toBitVec >>> (((nI s).toUInt32 &&& Int32.toUInt32 31) % 32).toBitVec).toNat = _
  rw [BitVec.ushiftRight_eq', BitVec.toNat_ushiftRight, ushr_n s hs, Nat.shiftRight_eq_div_pow]
theorem and255_nat (x : Int32) : (x &&& 255).toBitVec.toNat = x.toBitVec.toNat % 256 := by
  rw [Int32.toBitVec_and, BitVec.toNat_and]
  exact Nat.and_two_pow_sub_one_eq_mod _ 8
theorem nI_nat {j : Nat} (h : j < 2 ^ 32) : (nI j).toBitVec.toNat = j := by
  show (BitVec.ofNat 32 j).toNat = j
  rw [BitVec.toNat_ofNat]
  exact Nat.mod_eq_of_lt h
theorem i32_nat {x y : Int32} : x = y ↔ x.toBitVec.toNat = y.toBitVec.toNat := by
  rw [← Int32.toBitVec_inj]
  exact BitVec.toNat_eq
theorem be_nat {b0 b1 b2 b3 : Nat} (h0 : b0 < 256) (h1 : b1 < 256) (h2 : b2 < 256) (h3 : b3 < 256) : (((c_shl (nI b0) 24 ||| c_shl (nI b1) 16) ||| c_shl (nI b2) 8) ||| nI b3).toBitVec.toNat = 16777216 * b0 + 65536 * b1 + 256 * b2 + b3 := by
  rw [Int32.toBitVec_or, Int32.toBitVec_or, Int32.toBitVec_or, shl24_bv, shl16_bv, shl8_bv, BitVec.toNat_or, BitVec.toNat_or, BitVec.toNat_or]
  rw [BitVec.toNat_shiftLeft, BitVec.toNat_shiftLeft, BitVec.toNat_shiftLeft, nI_nat (by omega), nI_nat (by omega), nI_nat (by omega), nI_nat (by omega), Nat.shiftLeft_eq, Nat.shiftLeft_eq, Nat.shiftLeft_eq, Nat.mod_eq_of_lt (by omega), Nat.mod_eq_of_lt (by omega), Nat.mod_eq_of_lt (by omega)]
  have e1 : b0 * 2 ^ 24 ||| b1 * 2 ^ 16 = 2 ^ 16 * (b0 * 256 + b1) := by
    have := Nat.two_pow_add_eq_or_of_lt (i := 24) (b := b1 * 2 ^ 16) (by omega) b0
    rw [Nat.mul_comm (2 ^ 24) b0] at this
    rw [← this]
    omega
  have e2 : 2 ^ 16 * (b0 * 256 + b1) ||| b2 * 2 ^ 8 = 2 ^ 8 * (b0 * 65536 + b1 * 256 + b2) := by
    have := Nat.two_pow_add_eq_or_of_lt (i := 16) (b := b2 * 2 ^ 8) (by omega) (b0 * 256 + b1)
    rw [← this]
    omega
  have e3 : 2 ^ 8 * (b0 * 65536 + b1 * 256 + b2) ||| b3 = 2 ^ 8 * (b0 * 65536 + b1 * 256 + b2) + b3 := (Nat.two_pow_add_eq_or_of_lt (i := 8) (b := b3) (by omega) _).symm
  rw [e1, e2, e3]
  omega
theorem be_iff {c0 c1 c2 c3 x : Int32} (h0 : ∃ j, j < 256 ∧ c0 = nI j) (h1 : ∃ j, j < 256 ∧ c1 = nI j) (h2 : ∃ j, j < 256 ∧ c2 = nI j) (h3 : ∃ j, j < 256 ∧ c3 = nI j) : ((c_shl c0 24 ||| c_shl c1 16) ||| c_shl c2 8) ||| c3 = x ↔ (c0 = c_ushr x (nI 24) &&& 255 ∧ c1 = c_ushr x (nI 16) &&& 255 ∧ c2 = c_ushr x (nI 8) &&& 255 ∧ c3 = c_ushr x (nI 0) &&& 255) := by
  obtain ⟨b0, g0, rfl⟩ := h0
  obtain ⟨b1, g1, rfl⟩ := h1
  obtain ⟨b2, g2, rfl⟩ := h2
  obtain ⟨b3, g3, rfl⟩ := h3
  rw [i32_nat, be_nat g0 g1 g2 g3, i32_nat, i32_nat, i32_nat, i32_nat, nI_nat (by omega), nI_nat (by omega), nI_nat (by omega), nI_nat (by omega), and255_nat, and255_nat, and255_nat, and255_nat, ushr_nat x (by decide), ushr_nat x (by decide), ushr_nat x (by decide), ushr_nat x (by decide)]
  have hx := x.toBitVec.isLt
  omega
theorem byt_get {L : List Int32} (h : byt L) {j : Nat} (hj : j < L.length) : ∃ b, b < 256 ∧ L.getD j 0 = nI b := by
  rw [List.getD_eq_getElem?_getD, List.getElem?_eq_getElem hj]
  exact h _ (List.getElem_mem hj)
theorem hasAt_byte {L : List Int32} {p : Nat} {f : Nat → Int32} (hb : byt L) : hasAt L p f 5 ↔ (p + 20 ≤ L.length ∧ ∀ k, k < 20 → L.getD (p + k) 0 = (ib f 0 5).getD k 0) := by
  have key : p + 20 ≤ L.length → ∀ q, q < 5 → (be4 (gL L) (p + 4 * q) = f q ↔ ∀ r, r < 4 → L.getD (p + (4 * q + r)) 0 = (ib f 0 5).getD (4 * q + r) 0) := by
    intro hl q hq
    unfold be4 gL
    rw [be_iff (byt_get hb (by omega)) (byt_get hb (by omega)) (byt_get hb (by omega)) (byt_get hb (by omega))]
    have e : ∀ r, r < 4 → (ib f 0 5).getD (4 * q + r) 0 = c_ushr (f q) (nI (24 - 8 * r)) &&& 255 := by
      intro r hr
      rw [ib_at (by omega), show (4 * q + r) / 4 = q by omega, show (4 * q + r) % 4 = r by omega]
    constructor
    · rintro ⟨h0, h1, h2, h3⟩ r hr
      rw [e r hr]
      rcases r with _ | _ | _ | _ | r
      · exact h0
      · exact h1
      · exact h2
      · exact h3
      · omega
    · intro h
      have h0 := h 0 (by decide)
      have h1 := h 1 (by decide)
      have h2 := h 2 (by decide)
      have h3 := h 3 (by decide)
      rw [e 0 (by decide)] at h0
      rw [e 1 (by decide)] at h1
      rw [e 2 (by decide)] at h2
      rw [e 3 (by decide)] at h3
      exact ⟨h0, h1, h2, h3⟩
  constructor
  · rintro ⟨hl, h⟩
    refine ⟨hl, fun k hk => ?_⟩
    have := (key hl (k / 4) (by omega)).mp (h (k / 4) (by omega)) (k % 4) (by omega)
    rw [show 4 * (k / 4) + k % 4 = k by omega] at this
    exact this
  · rintro ⟨hl, h⟩
    exact ⟨hl, fun q hq => (key hl q hq).mpr (fun r hr => h (4 * q + r) (by omega))⟩
theorem m_refers {c : cM} {σ : Sg} {i j : Nat} {K : Int32 → cM → Prop} (h : MR c σ) (hV : VS σ) (hi : i < σ.1.length) (hj : j < σ.1.length) (hk : K (pI (rfr σ.1 i j)) c) : f_Mo_refers 176 (nI i) (nI j) c K := by
  have hn := hV.2.1
  obtain ⟨x, hx⟩ := get_some hi
  obtain ⟨y, hy⟩ := get_some hj
  obtain ⟨x1, x2, x3, x4⟩ := h.2.1 i x hx
  obtain ⟨y1, y2, y3, y4⟩ := h.2.1 j y hy
  have hxv := hV.1 x (List.mem_of_getElem? hx)
  have hxl := hxv.2.2
  have hib : ib (nmA c j) 0 5 = ib y.2.2 0 5 := ib_congr y4
  have er : rfr σ.1 i j ↔ (¬ x.1 = 3 ∧ ∃ p, hasAt x.2.1 p y.2.2 5) := by
    constructor
    · rintro ⟨x', y', hx', hy', h1, h2⟩
      rw [hx] at hx'
      rw [hy] at hy'
      cases hx'
      cases hy'
      exact ⟨h1, h2⟩
    · rintro ⟨h1, h2⟩
      exact ⟨x, y, hx, hy, h1, h2⟩
  rw [pI_iff er] at hk
  unfold f_Mo_refers
  rw [mk_k.2.1, mk_k.2.2.1, mk_k.2.2.2.1, mk_l.1, mk_l.2.1, mk_l.2.2.1, nI_clamp (show i < 2 ^ 31 by omega)]
  refine ⟨fun m y5 y6 c' => ∃ p, m = 200 - p ∧ p ≤ x.2.1.length ∧ y6 = nI p ∧ c' = c ∧ y5 = pI (∃ q, q < p ∧ hasAt x.2.1 q y.2.2 5), ⟨200, 0, rfl, Nat.zero_le _, rfl, rfl, by rw [pI_f]; rintro ⟨q, hq, -⟩; exact absurd hq (Nat.not_lt_zero _)⟩, ?_⟩
  rintro m y5 y6 c7 ⟨p, rfl, hp, rfl, rfl, rfl⟩
  rw [x2, show nI p + 20 = nI (p + 20) from nI_add _ _]
  refine ⟨mk_k.1, mk_a.2.1, vp_in_nI (by omega) (by decide), fun g => ?_, fun g => ?_⟩
  · have hl : x.2.1.length < p + 20 := (nI_ltI (by omega) (by omega)).mp g
    have e : (∃ q, q < p ∧ hasAt x.2.1 q y.2.2 5) ↔ ∃ q, hasAt x.2.1 q y.2.2 5 := by
      constructor
      · rintro ⟨q, -, hq⟩; exact ⟨q, hq⟩
      · rintro ⟨q, hq⟩
        have := hq.1
        exact ⟨q, by omega, hq⟩
    rw [pI_iff e]
    refine ⟨fun g0 => ?_, fun g0 => ⟨mk_a.1, vp_in_nI (by omega) (by decide), fun g1 => ?_, fun g1 => ?_⟩⟩
    · rw [pI_f (fun w => pI_eq0.mp g0 w.2)] at hk; exact hk
    · rw [x1] at g1
      rw [pI_f (fun w => w.1 g1)] at hk; exact hk
    · rw [x1] at g1
      rw [pI_t ⟨g1, Classical.byContradiction (fun w => g0 (pI_f w))⟩] at hk; exact hk
  · have hl : p + 20 ≤ x.2.1.length := by
      rcases Nat.lt_or_ge x.2.1.length (p + 20) with w | w
      · exact absurd (nI_lt w (by omega)) g
      · exact w
    refine ⟨fun m y20 y21 c' => ∃ t, m = 20 - t ∧ t ≤ 20 ∧ y21 = nI t ∧ c' = c7 ∧ y20 = pI (∀ k, k < t → x.2.1.getD (p + k) 0 = (ib y.2.2 0 5).getD k 0), ⟨20, 0, rfl, Nat.zero_le _, rfl, rfl, by rw [pI_t]; exact fun k hk => absurd hk (Nat.not_lt_zero _)⟩, ?_⟩
    rintro m y20 y21 c22 ⟨t, rfl, ht, rfl, rfl, rfl⟩
    refine ⟨fun g2 => ?_, fun g2 => ?_⟩
    · have et : t = 20 := by
        have := (nI_leI (a := 20) (by omega) (by omega)).mp g2
        omega
      subst et
      have hq : (∀ k, k < 20 → x.2.1.getD (p + k) 0 = (ib y.2.2 0 5).getD k 0) ↔ hasAt x.2.1 p y.2.2 5 := by
        rw [hasAt_byte hxv.2.1]
        exact ⟨fun w => ⟨hl, w⟩, fun w => w.2⟩
      rw [pI_iff hq]
      refine ⟨fun s => s = pI (∃ q, q < p + 1 ∧ hasAt x.2.1 q y.2.2 5), fun s hs => ⟨200 - (p + 1), by omega, p + 1, rfl, by omega, (nI_succ p).symm, rfl, hs⟩, ∃ q, q < p + 1 ∧ hasAt x.2.1 q y.2.2 5, fun w => (pI_t w).symm, fun w => ?_, fun w => ⟨fun w2 => ?_, fun w2 => ?_⟩⟩
      · obtain ⟨q, q1, q2⟩ := Classical.byContradiction (fun w2 => w (pI_f w2))
        exact ⟨q, by omega, q2⟩
      · refine (pI_f ?_).symm
        rintro ⟨q, q1, q2⟩
        by_cases e : q = p
        · rw [e] at q2; exact pI_eq0.mp w2 q2
        · exact pI_eq0.mp w ⟨q, by omega, q2⟩
      · exact ⟨p, by omega, Classical.byContradiction (fun w3 => w2 (pI_f w3))⟩
    · have ht20 : t < 20 := by
        rcases Nat.lt_or_ge t 20 with w | w
        · exact w
        · exact absurd (nI_le (a := 20) w (by omega)) g2
      refine ⟨fun s c' => c' = c22 ∧ s = pI (∀ k, k < t + 1 → x.2.1.getD (p + k) 0 = (ib y.2.2 0 5).getD k 0), ?_, fun c' => c' = c22 ∧ ¬ ∀ k, k < t + 1 → x.2.1.getD (p + k) 0 = (ib y.2.2 0 5).getD k 0, fun c' hc => ⟨hc.1, (pI_f hc.2).symm⟩, fun w => ⟨rfl, fun w2 => pI_eq0.mp w (fun k hk => w2 k (by omega))⟩, fun w => ?_⟩
      · rintro s c' ⟨rfl, rfl⟩
        exact ⟨20 - (t + 1), by omega, t + 1, rfl, by omega, (nI_succ t).symm, rfl, rfl⟩
      · have hall : ∀ k, k < t → x.2.1.getD (p + k) 0 = (ib y.2.2 0 5).getD k 0 := Classical.byContradiction (fun w2 => w (pI_f w2))
        rw [show (120 : Int32) = nI 120 from rfl, pk_mul, nI_add, nI_add, nI_clamp (show 120 * i + p + t < 2 ^ 31 by omega), show 120 * i + p + t = 120 * i + (p + t) by omega, x3 (p + t) (by omega)]
        refine ⟨mk_a.2.2.1, vp_in_nI (by omega) (by decide), m_nameByte (by omega) ht20 ?_⟩
        rw [hib]
        refine ⟨fun w2 => ⟨rfl, fun w3 => w2 (w3 t (by omega))⟩, fun w2 => ⟨rfl, (pI_t (fun k hk => ?_)).symm⟩⟩
        by_cases e : k = t
        · rw [e]; exact w2
        · exact hall k (by omega)
