/-! the start keeps the invariant -/
theorem x0_no {l : Nat} (hl : l < 16) {x : Int32} (hx : x = 0) : ¬ nI l < x := by rw [hx]; exact nI_pos (by omega)
theorem x0_4 : ∀ p, p < 10 → xM0 4 p = -1 := by decide +kernel
theorem x0_5 : ∀ p, p < 10 → xM0 5 p = -100 := by decide +kernel
theorem x0_78 : ∀ k, k < 6 → xM0 78 k = nI (79 + 10 * k) := by decide +kernel
theorem x0_173 : ∀ i, i < 125 → xM0 173 i = xWords.getD i 0 := by decide +kernel
theorem x0_dset : dset (fun t => xM0 167 (49 + t)) 14 = 0 := by decide +kernel
theorem x0_167 : ∀ i, i < 107 → xM0 167 i = 0 := by decide +kernel
theorem x0_170 : ∀ i, i < 14 → xM0 170 i = 0 := by decide +kernel
theorem x0_171 : ∀ i, i < 600 → xM0 171 i = 0 := by decide +kernel
theorem x0_11 : ∀ i, i < 600 → xM0 11 i = 0 := by decide +kernel
theorem x0_166 : ∀ i, i < 50 → i ≠ 32 → xM0 166 i = 0 := by decide +kernel
theorem x0_2 : ∀ i, i < 19 → 9 ≤ i → xM0 2 i = 0 := by decide +kernel
theorem x0_w : ∀ i, i < 14 → xM0 3 i = 0 ∧ xM0 6 i = 0 ∧ xM0 7 i = 0 ∧ xM0 8 i = 0 ∧ xM0 9 i = 0 ∧ xM0 10 i = 0 := by decide +kernel
theorem x0_n : xM0 12 7 = 0 ∧ xM0 174 0 = 0 ∧ xM0 19 2 = 0 ∧ xM0 22 4 = 0 ∧ xM0 27 2 = 0 ∧ xM0 30 3 = 0 ∧ xM0 77 1 = 0 ∧ xM0 0 7 = 0 ∧ xM0 0 8 = 0 ∧ xM0 139 10 = 0 ∧ xM0 139 11 = -1 ∧ xM0 166 32 = -1 := by decide +kernel
theorem Inv_gen {M : Mem} (h4 : ∀ p, p < 10 → M 4 p = -1) (h5 : ∀ p, p < 10 → M 5 p = -100) (h78 : ∀ k, k < 6 → M 78 k = nI (79 + 10 * k)) (h173 : ∀ i, i < 125 → M 173 i = xWords.getD i 0) (hds : dset (fun t => M 167 (49 + t)) 14 = 0) (h167 : ∀ i, i < 107 → M 167 i = 0) (h170 : ∀ i, i < 14 → M 170 i = 0) (h171 : ∀ i, i < 600 → M 171 i = 0) (h11 : ∀ i, i < 600 → M 11 i = 0) (h166 : ∀ i, i < 50 → i ≠ 32 → M 166 i = 0) (h2 : ∀ i, i < 19 → 9 ≤ i → M 2 i = 0) (hw : ∀ i, i < 14 → M 3 i = 0 ∧ M 6 i = 0 ∧ M 7 i = 0 ∧ M 8 i = 0 ∧ M 9 i = 0 ∧ M 10 i = 0) (hn : M 12 7 = 0 ∧ M 174 0 = 0 ∧ M 19 2 = 0 ∧ M 22 4 = 0 ∧ M 27 2 = 0 ∧ M 30 3 = 0 ∧ M 77 1 = 0 ∧ M 0 7 = 0 ∧ M 0 8 = 0 ∧ M 139 10 = 0 ∧ M 139 11 = -1 ∧ M 166 32 = -1) : Inv M := by
  obtain ⟨n1, n2, n3, n4, n5, n6, n7, n8, n9, n10, n11, n12⟩ := hn
  have z6 : ∀ i, i < 50 → i ≠ 32 → M 166 i = nI 0 := h166
  have z7 : ∀ i, i < 107 → M 167 i = nI 0 := h167
  have e : ∀ {x y : Int32}, x = 0 → y = 0 → x = y := fun a b => a.trans b.symm
  refine ⟨⟨⟨0, 0, 0, ⟨⟨z6 6 (by decide) (by decide), z6 7 (by decide) (by decide), z7 6 (by decide), by omega, by omega, by omega⟩, ⟨0, by omega, z7 2 (by decide)⟩, fun p hp => by omega, fun p hp => by omega, fun p hp => by omega, fun p hp => by omega, fun t ht => Or.inl (h167 _ (by omega)), fun t _ ht => h167 _ (by omega), fun _ => h167 _ (by omega)⟩, ⟨fun t ht => by omega, fun p q hp => by omega, fun p k hp => by omega, fun j k hj => by omega, fun p t hp => by omega, fun k t hk => by omega, rfl⟩, ⟨0, by omega, z6 35 (by decide) (by decide), fun l hl => by omega⟩, fun p hp => by omega⟩, ⟨0, by omega, n2, fun l hl => by omega⟩, ⟨0, by omega, z6 33 (by decide) (by decide)⟩, ⟨0, by omega, z6 37 (by decide) (by decide), fun l hl => by omega⟩, ⟨0, by omega, z6 41 (by decide) (by decide), fun l hl => by omega⟩⟩,
    ⟨⟨⟨e (h2 10 (by decide) (by decide)) (h166 6 (by decide) (by decide)), e (h2 11 (by decide) (by decide)) (h166 7 (by decide) (by decide)), e (h2 15 (by decide) (by decide)) (h167 0 (by decide)), e (h2 17 (by decide) (by decide)) (h167 1 (by decide)), e (h2 18 (by decide) (by decide)) (h167 2 (by decide)), e (h2 13 (by decide) (by decide)) (h167 3 (by decide)), e (h2 16 (by decide) (by decide)) (h167 4 (by decide)), e (h2 14 (by decide) (by decide)) (h167 5 (by decide)), e (h2 9 (by decide) (by decide)) (h167 6 (by decide)), e (h2 12 (by decide) (by decide)) hds⟩, fun t ht => ?_, fun p hp => ?_⟩, ⟨e n1 n2, fun l hl h => absurd h (x0_no hl n2)⟩, ⟨e n3 (h166 33 (by decide) (by decide)), fun l hl h => absurd h (x0_no hl (h166 33 (by decide) (by decide)))⟩, ⟨e n4 (h166 35 (by decide) (by decide)), fun l hl h => absurd h (x0_no hl (h166 35 (by decide) (by decide)))⟩, ⟨e n5 (h166 37 (by decide) (by decide)), fun l hl h => absurd h (x0_no hl (h166 37 (by decide) (by decide)))⟩, ⟨e n6 (h166 41 (by decide) (by decide)), fun l hl h => absurd h (x0_no (by omega) (h166 41 (by decide) (by decide)))⟩, fun i hi => e (h11 i hi) (h171 i hi)⟩,
    ⟨0, by omega, z6 3 (by decide) (by decide), n7, fun k => k, fun k hk => ⟨hk, h78 k hk⟩, fun j k _ _ h => h, fun k hk => by omega⟩, ⟨⟨0, by omega, n8, z6 11 (by decide) (by decide), fun i hi => by omega⟩, e n10 (h166 31 (by decide) (by decide)), n11.trans n12.symm⟩, ⟨h173, h166 5 (by decide) (by decide)⟩, e n9 (h166 47 (by decide) (by decide)), Or.inl n9⟩
  · obtain ⟨w1, w2, w3, w4, w5, w6⟩ := hw t ht
    exact ⟨e w2 (h167 _ (by omega)), e w3 (h170 t ht), e w4 (h167 _ (by omega)), e w5 (h167 _ (by omega)), e w6 (h167 _ (by omega))⟩
  · refine ⟨e (hw p (by omega)).1 (h167 _ (by omega)), ?_, ?_⟩
    · rw [h167 _ (by omega)]; exact (h4 p hp).trans (by decide)
    · rw [h167 _ (by omega)]; exact (h5 p hp).trans (by decide)
theorem Inv_0 : Inv xM0 := Inv_gen x0_4 x0_5 x0_78 x0_173 x0_dset x0_167 x0_170 x0_171 x0_11 x0_166 x0_2 x0_w x0_n
