theorem c0_at {i j : Nat} (h : ¬ (kd i = 3 ∧ j = 0)) (h2 : ¬ (i = 90 ∨ i = 85 ∨ i = 186)) : c0 i j = 0 := by
  unfold c0
  rw [if_neg h, if_neg h2]
theorem c0_m {i j : Nat} (h : ¬ (kd i = 3 ∧ j = 0)) (h2 : i = 90 ∨ i = 85 ∨ i = 186) : c0 i j = -1 := by
  unfold c0
  rw [if_neg h, if_pos h2]
theorem c0_k : kd 90 = 100 ∧ kd 85 = 100 ∧ kd 186 = 100 ∧ kd 19 = 4 ∧ kd 18 = 0 ∧ kd 176 = 7 := by decide +kernel
theorem cnt0 : cntD noD = 0 := by decide +kernel
theorem inv_0 : Inv c0 ([], [], noD, noD, []) := by
  obtain ⟨k90, k85, k186, k19, k18, k176⟩ := c0_k
  refine ⟨⟨fun _ => [], c0, ⟨fun r hr => ⟨c0_at (by omega) ?_, Nat.zero_le _, fun j hj => absurd hj (Nat.not_lt_zero _)⟩, fun a _ => rfl⟩, ⟨⟨c0_at (by omega) (by omega), Nat.zero_le _, fun i x hx => (by cases hx)⟩, rfl, fun l _ => c0_m (by omega) (by omega), fun b _ => c0_m (by omega) (by omega), rfl, ?_⟩⟩, ⟨c0_at (by omega) (by omega), fun i x hx => (by cases hx), ⟨c0_at (by omega) (by omega), fun k hk => absurd hk (Nat.not_lt_zero _)⟩, ⟨?_, ?_, ?_, ?_⟩, fun b _ => c0_m (by omega) (by omega), ⟨c0_at (by omega) (by omega), fun k hk => absurd hk (Nat.not_lt_zero _)⟩⟩, ⟨fun x hx => absurd hx List.not_mem_nil, Nat.zero_le _, fun i j x y hx => (by cases hx), ⟨byt_nil, Nat.zero_le _⟩, fun l _ => Or.inl rfl, fun b _ => Or.inl rfl, ⟨byt_nil, Nat.zero_le _⟩, ?_⟩⟩
  · rintro (rfl | rfl | rfl)
    · rw [k90] at hr; omega
    · rw [k85] at hr; omega
    · rw [k186] at hr; omega
  · show c0 18 3 = nI (cntD noD)
    rw [cnt0]
    exact c0_at (by omega) (by omega)
  · show c0 176 9 = nI (cntD noD)
    rw [cnt0]
    exact c0_at (by omega) (by omega)
  · intro k hk
    rw [show cntD noD = 0 from cnt0] at hk
    exact absurd hk (Nat.not_lt_zero _)
  · exact fun l _ hn => absurd rfl hn
  · intro k k' hk
    rw [show cntD noD = 0 from cnt0] at hk
    exact absurd hk (Nat.not_lt_zero _)
  · show cntD noD ≤ 4
    rw [cnt0]
    decide
theorem law_holds : ∀ (L : Nat) (xs : Nat → Int32), L ≤ 2048 → f_law L xs c0 := by
  intro L xs hL
  unfold f_law
  refine ⟨fun m y c => ∃ j σ, m + 4 * j = L + 4 ∧ 4 * j ≤ L ∧ y = nI (4 * j) ∧ Inv c σ, ⟨L + 4, 0, _, rfl, Nat.zero_le _, rfl, inv_0⟩, ?_⟩
  rintro m y c6 ⟨j, σ, hm, hj, rfl, hI⟩
  refine ⟨fun _ => rfl, fun g => ?_⟩
  have hj4 : 4 * j + 4 ≤ L := by
    have h1 : ¬ (nI L - nI 4 < nI (4 * j)) := g
    rw [Int32.lt_iff_toInt_lt, pk_sub_toInt (by omega) (by decide), nI_toInt (by omega)] at h1
    omega
  have v0 : vp_in (nI (4 * j)) L := vp_in_nI (by omega) (by omega)
  rw [show nI (4 * j) + 1 = nI (4 * j + 1) from nI_add _ 1, show nI (4 * j) + 2 = nI (4 * j + 2) from nI_add _ 2, show nI (4 * j) + 3 = nI (4 * j + 3) from nI_add _ 3, show nI (4 * j) + 4 = nI (4 * (j + 1)) from nI_add _ 4]
  have v1 : vp_in (nI (4 * j + 1)) L := vp_in_nI (by omega) (by omega)
  have v2 : vp_in (nI (4 * j + 2)) L := vp_in_nI (by omega) (by omega)
  have v3 : vp_in (nI (4 * j + 3)) L := vp_in_nI (by omega) (by omega)
  have k18 := ps_k.1
  have hJ : ∀ c σ, Inv c σ → (fun c' => ∃ σ, Inv c' σ) c := fun c σ h => ⟨σ, h⟩
  refine ⟨v0, fun c' => ∃ σ, Inv c' σ, fun c' ⟨σ', h'⟩ => ⟨m - 4, by omega, j + 1, σ', by omega, by omega, rfl, h'⟩, ?_⟩
  exact ⟨fun _ => ⟨v1, v2, v3, k18, p_type hI hJ⟩, fun _ => ⟨k18, p_blob hI hJ⟩, fun _ => ⟨v1, v2, k18, p_entry hI hJ⟩, fun _ => ⟨k18, p_tree hI hJ⟩, fun _ => ⟨v1, v2, v3, k18, p_commit hI hJ⟩, fun _ => ⟨v1, v2, k18, p_branch hI hJ⟩, fun _ => ⟨v1, k18, p_held hI hJ⟩, fun _ => ⟨k18, p_sweep hI hJ⟩, fun _ => ⟨k18, p_things hI hJ⟩, fun _ => ⟨v1, k18, p_kind hI hJ⟩, fun _ => ⟨v1, k18, p_size hI hJ⟩, fun _ => ⟨v1, v2, k18, p_byteOf hI hJ⟩, fun _ => ⟨v1, v2, k18, p_name hI hJ⟩, fun _ => ⟨v1, k18, p_reached hI hJ⟩, fun _ => ⟨k18, p_pack hI hJ⟩, fun _ => ⟨k18, p_packed hI hJ⟩, fun _ => ⟨v1, k18, p_packByte hI hJ⟩, fun _ => ⟨v1, v2, k18, p_alter hI hJ⟩, fun _ => ⟨v1, k18, p_cut hI hJ⟩, fun _ => ⟨k18, p_seal hI hJ⟩, fun _ => ⟨k18, p_unpack hI hJ⟩, fun _ => ⟨σ, hI⟩⟩
