theorem shl_bv (x : Int32) (k : Nat) (s : Int32) (hs : s.toBitVec.smod 32 = BitVec.ofNat 32 k) : (x <<< s).toBitVec = x.toBitVec <<< (BitVec.ofNat 32 k) := by
  show (x.toBitVec <<< (s.toBitVec.smod 32)) = _
  rw [hs]
theorem shl8_bv (x : Int32) : (c_shl x 8).toBitVec = x.toBitVec <<< 8 := by
  unfold c_shl
  rw [show (8 : Int32) &&& 31 = 8 from by decide, shl_bv x 8 8 (by decide)]
  rfl
theorem shl16_bv (x : Int32) : (c_shl x 16).toBitVec = x.toBitVec <<< 16 := by
  unfold c_shl
  rw [show (16 : Int32) &&& 31 = 16 from by decide, shl_bv x 16 16 (by decide)]
  rfl
theorem shl24_bv (x : Int32) : (c_shl x 24).toBitVec = x.toBitVec <<< 24 := by
  unfold c_shl
  rw [show (24 : Int32) &&& 31 = 24 from by decide, shl_bv x 24 24 (by decide)]
  rfl
theorem shl_or (a b : Int32) : c_shl (a ||| b) 8 = c_shl a 8 ||| c_shl b 8 := by
  apply Int32.toBitVec_inj.mp
  rw [shl8_bv, Int32.toBitVec_or, Int32.toBitVec_or, shl8_bv, shl8_bv, BitVec.shiftLeft_or_distrib]
def sh8 : Nat → Int32 → Int32
  | 0, x => x
  | n + 1, x => c_shl (sh8 n x) 8
theorem sh8_or (a b : Int32) : ∀ n, sh8 n (a ||| b) = sh8 n a ||| sh8 n b
  | 0 => rfl
  | n + 1 => by rw [sh8, sh8_or a b n, shl_or]; rfl
theorem sh8_in (x : Int32) : ∀ n, sh8 n (c_shl x 8) = sh8 (n + 1) x
  | 0 => rfl
  | n + 1 => by rw [sh8, sh8_in x n]; rfl
theorem sh8_2 (x : Int32) : sh8 2 x = c_shl x 16 := by
  apply Int32.toBitVec_inj.mp
  rw [shl16_bv]
  show (c_shl (c_shl x 8) 8).toBitVec = _
  rw [shl8_bv, shl8_bv, ← BitVec.shiftLeft_add]
theorem sh8_3 (x : Int32) : sh8 3 x = c_shl x 24 := by
  apply Int32.toBitVec_inj.mp
  rw [shl24_bv]
  show (c_shl (c_shl (c_shl x 8) 8) 8).toBitVec = _
  rw [shl8_bv, shl8_bv, shl8_bv, ← BitVec.shiftLeft_add, ← BitVec.shiftLeft_add]
theorem sh8_4 (x : Int32) : sh8 4 x = 0 := by
  apply Int32.toBitVec_inj.mp
  show (c_shl (c_shl (c_shl (c_shl x 8) 8) 8) 8).toBitVec = _
  rw [shl8_bv, shl8_bv, shl8_bv, shl8_bv, ← BitVec.shiftLeft_add, ← BitVec.shiftLeft_add, ← BitVec.shiftLeft_add]
  exact BitVec.shiftLeft_eq_zero (by decide)
def pz (f : Nat → Int32) (b : Nat) : Nat → Int32
  | 0 => 0
  | r + 1 => pz f b r ||| sh8 (3 - r) (f (b + r))
theorem pz_4 (f : Nat → Int32) (b : Nat) : pz f b 4 = be4 f b := by
  show (((0 ||| sh8 3 (f (b + 0))) ||| sh8 2 (f (b + 1))) ||| sh8 1 (f (b + 2))) ||| sh8 0 (f (b + 3)) = _
  rw [Int32.zero_or, sh8_3, sh8_2]
  rfl
theorem exs_congr {W W' : Nat → Int32} (h : ∀ i, i < 16 → W i = W' i) : ∀ n, ∀ t, t < 16 + n → exs W n t = exs W' n t
  | 0 => h
  | n + 1 => by
    intro t ht
    have ih := exs_congr h n
    show ex1 (exs W n) (16 + n) t = ex1 (exs W' n) (16 + n) t
    unfold ex1
    by_cases e : t = 16 + n
    · rw [if_pos e, if_pos e, ih _ (by omega), ih _ (by omega), ih _ (by omega), ih _ (by omega)]
    · rw [if_neg e, if_neg e]
      exact ih t (by omega)
theorem exs_low {W : Nat → Int32} : ∀ n, ∀ t, t < 16 → exs W n t = W t
  | 0 => fun _ _ => rfl
  | n + 1 => by
    intro t ht
    show ex1 (exs W n) (16 + n) t = W t
    unfold ex1
    rw [if_neg (by omega)]
    exact exs_low n t ht
theorem rds_congr {w w' : Nat → Int32} {s : s5} {N : Nat} (h : ∀ t, t < N → w t = w' t) : ∀ n, n ≤ N → rds w s n = rds w' s n
  | 0 => fun _ => rfl
  | n + 1 => by
    intro hn
    show rd w n (rds w s n) = rd w' n (rds w' s n)
    rw [rds_congr h n (by omega)]
    unfold rd
    rw [h n (by omega)]
theorem blH_congr {H H' W W' : Nat → Int32} (hH : ∀ k, k < 5 → H k = H' k) (hW : ∀ i, i < 16 → W i = W' i) : ∀ k, k < 5 → blH H W k = blH H' W' k := by
  have e : bl5 H W = bl5 H' W' := by
    unfold bl5
    rw [hH 0 (by decide), hH 1 (by decide), hH 2 (by decide), hH 3 (by decide), hH 4 (by decide)]
    exact rds_congr (fun t ht => exs_congr hW 64 t (by omega)) 80 (Nat.le_refl _)
  intro k hk
  unfold blH
  rw [e, hH 0 (by decide), hH 1 (by decide), hH 2 (by decide), hH 3 (by decide), hH 4 (by decide), hH k hk]
def wOf (f : Nat → Int32) (o : Nat) : Nat → Int32 := fun t => be4 f (o + 4 * t)
def shB (f : Nat → Int32) : Nat → (Nat → Int32)
  | 0 => oc 1
  | n + 1 => blH (shB f n) (wOf f (64 * n))
theorem be4_congr {f g : Nat → Int32} {i : Nat} (h : ∀ j, j < i + 4 → f j = g j) : be4 f i = be4 g i := by
  unfold be4
  rw [h i (by omega), h (i + 1) (by omega), h (i + 2) (by omega), h (i + 3) (by omega)]
theorem shB_congr {f g : Nat → Int32} : ∀ n, (∀ j, j < 64 * n → f j = g j) → ∀ k, k < 5 → shB f n k = shB g n k
  | 0 => fun _ _ _ => rfl
  | n + 1 => by
    intro h
    refine blH_congr (shB_congr n (fun j hj => h j (by omega))) (fun i hi => ?_)
    exact be4_congr (fun j hj => h j (by omega))
/-- the sum of bytes -/
def sha (B : List Int32) : Nat → Int32 := shB (gL (B ++ padT B.length)) ((B ++ padT B.length).length / 64)
def Cls (f : Nat → Int32) (t : Nat) (S : sS) : Prop := S.2.2 = t ∧ (∀ k, k < 5 → S.1 k = shB f (t / 64) k) ∧ (∀ i, i < t % 64 / 4 → S.2.1 i = be4 f (64 * (t / 64) + 4 * i)) ∧ sh8 (4 - t % 4) (S.2.1 (t % 64 / 4)) = pz f (4 * (t / 4)) (t % 4)
theorem Cls.step {f : Nat → Int32} {t : Nat} {S : sS} (h : Cls f t S) : Cls f (t + 1) (tk S (f t)) := by
  obtain ⟨h1, h2, h3, h4⟩ := h
  have hb : 4 * (t / 4) + t % 4 = t := by omega
  have hw : ∀ i, i ≠ t % 64 / 4 → tkW S.2.1 S.2.2 (f t) i = S.2.1 i := fun i hi => by unfold tkW; rw [h1, if_neg hi]
  have hv : tkW S.2.1 S.2.2 (f t) (t % 64 / 4) = c_shl (S.2.1 (t % 64 / 4)) 8 ||| f t := by unfold tkW; rw [h1, if_pos rfl]
  have full : t % 4 = 3 → tkW S.2.1 S.2.2 (f t) (t % 64 / 4) = be4 f (64 * (t / 64) + 4 * (t % 64 / 4)) := by
    intro h5
    rw [hv, ← pz_4, show 64 * (t / 64) + 4 * (t % 64 / 4) = 4 * (t / 4) by omega]
    rw [h5] at h4
    show _ = pz f (4 * (t / 4)) 3 ||| sh8 0 (f (4 * (t / 4) + 3))
    rw [← h4, show 4 * (t / 4) + 3 = t by omega]
    rfl
  have part : ¬ t % 4 = 3 → sh8 (4 - (t + 1) % 4) (tkW S.2.1 S.2.2 (f t) (t % 64 / 4)) = pz f (4 * ((t + 1) / 4)) ((t + 1) % 4) := by
    intro h5
    rw [hv, sh8_or, sh8_in, show 4 - (t + 1) % 4 + 1 = 4 - t % 4 by omega, h4, show (t + 1) % 4 = t % 4 + 1 by omega, show 4 * ((t + 1) / 4) = 4 * (t / 4) by omega]
    show _ = pz f (4 * (t / 4)) (t % 4) ||| sh8 (3 - t % 4) (f (4 * (t / 4) + t % 4))
    rw [hb, show 4 - (t % 4 + 1) = 3 - t % 4 by omega]
  unfold tk
  rw [h1]
  rw [h1] at hw hv full part
  by_cases h6 : (t + 1) % 64 = 0
  · rw [if_pos h6]
    have e1 : (t + 1) / 64 = t / 64 + 1 := by omega
    have e2 : (t + 1) % 4 = 0 := by omega
    refine ⟨rfl, ?_, ?_, ?_⟩
    · rw [e1]
      refine blH_congr h2 (fun i hi => ?_)
      show tkW S.2.1 t (f t) i = be4 f (64 * (t / 64) + 4 * i)
      by_cases ei : i = t % 64 / 4
      · rw [ei]
        exact full (by omega)
      · rw [hw i ei]
        exact h3 i (by omega)
    · intro i hi
      rw [h6] at hi
      omega
    · show sh8 (4 - (t + 1) % 4) _ = _
      rw [e2]
      exact sh8_4 _
  · rw [if_neg h6]
    have e1 : (t + 1) / 64 = t / 64 := by omega
    refine ⟨rfl, ?_, ?_, ?_⟩
    · rw [e1]
      exact h2
    · intro i hi
      show tkW S.2.1 t (f t) i = _
      rw [e1]
      by_cases ei : i = t % 64 / 4
      · rw [ei]
        exact full (by omega)
      · rw [hw i ei]
        exact h3 i (by omega)
    · show sh8 (4 - (t + 1) % 4) (tkW S.2.1 t (f t) ((t + 1) % 64 / 4)) = _
      by_cases h5 : t % 4 = 3
      · rw [show (t + 1) % 4 = 0 by omega]
        exact sh8_4 _
      · rw [show (t + 1) % 64 / 4 = t % 64 / 4 by omega]
        exact part h5
theorem Cls.run {f : Nat → Int32} (L : List Int32) : ∀ {t : Nat} {S : sS}, (∀ j, j < L.length → f (t + j) = L.getD j 0) → Cls f t S → Cls f (t + L.length) (L.foldl tk S) := by
  induction L with
  | nil => intro t S _ h; exact h
  | cons v L ih =>
    intro t S hf h
    rw [List.foldl_cons, List.length_cons, show t + (L.length + 1) = (t + 1) + L.length by omega]
    have h0 := hf 0 (by rw [List.length_cons]; omega)
    have h1 := h.step
    rw [show f t = v from h0] at h1
    refine ih (fun j hj => ?_) h1
    have h2 := hf (j + 1) (by rw [List.length_cons]; omega)
    rw [show t + 1 + j = t + (j + 1) by omega, h2]
    rfl
theorem shS_sha (H W : Nat → Int32) (B : List Int32) : ∀ k, k < 5 → (shS H W B).1 k = sha B k := by
  have h0 : Cls (gL (B ++ padT B.length)) 0 (hF H, W, 0) := by
    refine ⟨rfl, fun k hk => ?_, fun i hi => absurd hi (by omega), sh8_4 _⟩
    show hF H k = oc 1 k
    unfold hF
    rw [if_pos hk]
  have h1 := Cls.run (B ++ padT B.length) (fun j _ => by rw [Nat.zero_add]; rfl) h0
  rw [List.foldl_append, Nat.zero_add] at h1
  exact h1.2.1
