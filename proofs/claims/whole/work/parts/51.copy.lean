/-! the copy of a world -/
theorem xuC_ne (M : Mem) {c a : Nat} (f : Nat → Int32) (h : a ≠ c) : xuC M c f a = M a := by simp [xuC, h]
theorem xuC_same (M : Mem) (c : Nat) (f : Nat → Int32) : xuC M c f c = f := by simp [xuC]
theorem s9_copy {Q : Mem → Prop} {w u : Nat} {M : Mem} {n : Nat} (hd : w + 9 < u ∨ u + 9 < w) (hn : n = min (SHn (u + 9)) (SHn (w + 9))) (hb : SHn (u + 9) ≤ 600 ∧ SHn (w + 9) ≤ 600)
    (h : ∀ M' : Mem, (∀ i, 9 ≤ i → i ≤ 18 → M' w i = M u i) → (∀ d i, 1 ≤ d → d ≤ 3 → i < 10 → M' (w + d) i = M (u + d) i) → (∀ d i, 4 ≤ d → d ≤ 8 → i < 14 → M' (w + d) i = M (u + d) i) → (∀ i, i < n → M' (w + 9) i = M (u + 9) i) → (∀ i, n ≤ i → M' (w + 9) i = M (w + 9) i) → (∀ c i, ¬ (w ≤ c ∧ c ≤ w + 9) → M' c i = M c i) → Q M') : FX9_copyFrom Q w u M := by
  unfold FX9_copyFrom
  refine s_min ?_
  have e : mn (Int32.ofNat (SHn (u + 9))) (Int32.ofNat (SHn (w + 9))) = nI n := by
    rw [hn]; exact mnN (by omega) (by omega)
  rw [e, ixn (by omega)]
  refine ⟨nI_pos (by omega), by omega, by omega, ?_⟩
  intro M5 h5 M6 h6 M7 h7 M8 h8 M9 h9 M10 h10 M11 h11 M12 h12 M13 h13 M14 h14 M15 h15 M16 h16 M17 h17 M18 h18 M19 h19 M20 h20 M21 h21 M22 h22 M23 h23
  have o5 : ∀ c, c ≠ w + 9 → M5 c = M c := fun c hc => by rw [h5, xuC_ne _ _ hc]
  have a5 : ∀ i, i < n → M5 (w + 9) i = M (u + 9) i := fun i hi => by rw [h5, xuC_same, pk_cpy_in (by omega) (by omega)]; simp
  have b5 : ∀ i, n ≤ i → M5 (w + 9) i = M (w + 9) i := fun i hi => by rw [h5, xuC_same, pk_cpy_out (by omega)]
  have o6 : ∀ c, c ≠ w + 1 → M6 c = M5 c := fun c hc => by rw [h6, xuC_ne _ _ hc]
  have a6 : ∀ i, i < 10 → M6 (w + 1) i = M5 (u + 1) i := fun i hi => by rw [h6, xuC_same, pk_cpy_in (by omega) (by omega)]; simp
  have o7 : ∀ c, c ≠ w + 2 → M7 c = M6 c := fun c hc => by rw [h7, xuC_ne _ _ hc]
  have a7 : ∀ i, i < 10 → M7 (w + 2) i = M6 (u + 2) i := fun i hi => by rw [h7, xuC_same, pk_cpy_in (by omega) (by omega)]; simp
  have o8 : ∀ c, c ≠ w + 3 → M8 c = M7 c := fun c hc => by rw [h8, xuC_ne _ _ hc]
  have a8 : ∀ i, i < 10 → M8 (w + 3) i = M7 (u + 3) i := fun i hi => by rw [h8, xuC_same, pk_cpy_in (by omega) (by omega)]; simp
  have o9 : ∀ c, c ≠ w + 4 → M9 c = M8 c := fun c hc => by rw [h9, xuC_ne _ _ hc]
  have a9 : ∀ i, i < 14 → M9 (w + 4) i = M8 (u + 4) i := fun i hi => by rw [h9, xuC_same, pk_cpy_in (by omega) (by omega)]; simp
  have o10 : ∀ c, c ≠ w + 5 → M10 c = M9 c := fun c hc => by rw [h10, xuC_ne _ _ hc]
  have a10 : ∀ i, i < 14 → M10 (w + 5) i = M9 (u + 5) i := fun i hi => by rw [h10, xuC_same, pk_cpy_in (by omega) (by omega)]; simp
  have o11 : ∀ c, c ≠ w + 6 → M11 c = M10 c := fun c hc => by rw [h11, xuC_ne _ _ hc]
  have a11 : ∀ i, i < 14 → M11 (w + 6) i = M10 (u + 6) i := fun i hi => by rw [h11, xuC_same, pk_cpy_in (by omega) (by omega)]; simp
  have o12 : ∀ c, c ≠ w + 7 → M12 c = M11 c := fun c hc => by rw [h12, xuC_ne _ _ hc]
  have a12 : ∀ i, i < 14 → M12 (w + 7) i = M11 (u + 7) i := fun i hi => by rw [h12, xuC_same, pk_cpy_in (by omega) (by omega)]; simp
  have o13 : ∀ c, c ≠ w + 8 → M13 c = M12 c := fun c hc => by rw [h13, xuC_ne _ _ hc]
  have a13 : ∀ i, i < 14 → M13 (w + 8) i = M12 (u + 8) i := fun i hi => by rw [h13, xuC_same, pk_cpy_in (by omega) (by omega)]; simp
  have o14 : ∀ c, c ≠ w → M14 c = M13 c := fun c hc => by rw [h14, xu_cell _ _ _ hc]
  have a14 : M14 w 9 = M13 u 9 := by rw [h14, xu_same]
  have n14 : ∀ i, i ≠ 9 → M14 w i = M13 w i := fun i hi => by rw [h14, xu_at _ _ _ hi]
  have o15 : ∀ c, c ≠ w → M15 c = M14 c := fun c hc => by rw [h15, xu_cell _ _ _ hc]
  have a15 : M15 w 10 = M14 u 10 := by rw [h15, xu_same]
  have n15 : ∀ i, i ≠ 10 → M15 w i = M14 w i := fun i hi => by rw [h15, xu_at _ _ _ hi]
  have o16 : ∀ c, c ≠ w → M16 c = M15 c := fun c hc => by rw [h16, xu_cell _ _ _ hc]
  have a16 : M16 w 11 = M15 u 11 := by rw [h16, xu_same]
  have n16 : ∀ i, i ≠ 11 → M16 w i = M15 w i := fun i hi => by rw [h16, xu_at _ _ _ hi]
  have o17 : ∀ c, c ≠ w → M17 c = M16 c := fun c hc => by rw [h17, xu_cell _ _ _ hc]
  have a17 : M17 w 12 = M16 u 12 := by rw [h17, xu_same]
  have n17 : ∀ i, i ≠ 12 → M17 w i = M16 w i := fun i hi => by rw [h17, xu_at _ _ _ hi]
  have o18 : ∀ c, c ≠ w → M18 c = M17 c := fun c hc => by rw [h18, xu_cell _ _ _ hc]
  have a18 : M18 w 13 = M17 u 13 := by rw [h18, xu_same]
  have n18 : ∀ i, i ≠ 13 → M18 w i = M17 w i := fun i hi => by rw [h18, xu_at _ _ _ hi]
  have o19 : ∀ c, c ≠ w → M19 c = M18 c := fun c hc => by rw [h19, xu_cell _ _ _ hc]
  have a19 : M19 w 14 = M18 u 14 := by rw [h19, xu_same]
  have n19 : ∀ i, i ≠ 14 → M19 w i = M18 w i := fun i hi => by rw [h19, xu_at _ _ _ hi]
  have o20 : ∀ c, c ≠ w → M20 c = M19 c := fun c hc => by rw [h20, xu_cell _ _ _ hc]
  have a20 : M20 w 15 = M19 u 15 := by rw [h20, xu_same]
  have n20 : ∀ i, i ≠ 15 → M20 w i = M19 w i := fun i hi => by rw [h20, xu_at _ _ _ hi]
  have o21 : ∀ c, c ≠ w → M21 c = M20 c := fun c hc => by rw [h21, xu_cell _ _ _ hc]
  have a21 : M21 w 16 = M20 u 16 := by rw [h21, xu_same]
  have n21 : ∀ i, i ≠ 16 → M21 w i = M20 w i := fun i hi => by rw [h21, xu_at _ _ _ hi]
  have o22 : ∀ c, c ≠ w → M22 c = M21 c := fun c hc => by rw [h22, xu_cell _ _ _ hc]
  have a22 : M22 w 17 = M21 u 17 := by rw [h22, xu_same]
  have n22 : ∀ i, i ≠ 17 → M22 w i = M21 w i := fun i hi => by rw [h22, xu_at _ _ _ hi]
  have o23 : ∀ c, c ≠ w → M23 c = M22 c := fun c hc => by rw [h23, xu_cell _ _ _ hc]
  have a23 : M23 w 18 = M22 u 18 := by rw [h23, xu_same]
  have n23 : ∀ i, i ≠ 18 → M23 w i = M22 w i := fun i hi => by rw [h23, xu_at _ _ _ hi]
  clear h5 h6 h7 h8 h9 h10 h11 h12 h13 h14 h15 h16 h17 h18 h19 h20 h21 h22 h23
  refine h _ ?_ ?_ ?_ ?_ ?_ ?_
  · intro i h1 h2
    rcases (show i = 9 ∨ i = 10 ∨ i = 11 ∨ i = 12 ∨ i = 13 ∨ i = 14 ∨ i = 15 ∨ i = 16 ∨ i = 17 ∨ i = 18 by omega) with rfl | rfl | rfl | rfl | rfl | rfl | rfl | rfl | rfl | rfl
    · rw [n23 9 (by decide), n22 9 (by decide), n21 9 (by decide), n20 9 (by decide), n19 9 (by decide), n18 9 (by decide), n17 9 (by decide), n16 9 (by decide), n15 9 (by decide), a14]
      simp (disch := omega) only [o23, o22, o21, o20, o19, o18, o17, o16, o15, o14, o13, o12, o11, o10, o9, o8, o7, o6, o5]
    · rw [n23 10 (by decide), n22 10 (by decide), n21 10 (by decide), n20 10 (by decide), n19 10 (by decide), n18 10 (by decide), n17 10 (by decide), n16 10 (by decide), a15]
      simp (disch := omega) only [o23, o22, o21, o20, o19, o18, o17, o16, o15, o14, o13, o12, o11, o10, o9, o8, o7, o6, o5]
    · rw [n23 11 (by decide), n22 11 (by decide), n21 11 (by decide), n20 11 (by decide), n19 11 (by decide), n18 11 (by decide), n17 11 (by decide), a16]
      simp (disch := omega) only [o23, o22, o21, o20, o19, o18, o17, o16, o15, o14, o13, o12, o11, o10, o9, o8, o7, o6, o5]
    · rw [n23 12 (by decide), n22 12 (by decide), n21 12 (by decide), n20 12 (by decide), n19 12 (by decide), n18 12 (by decide), a17]
      simp (disch := omega) only [o23, o22, o21, o20, o19, o18, o17, o16, o15, o14, o13, o12, o11, o10, o9, o8, o7, o6, o5]
    · rw [n23 13 (by decide), n22 13 (by decide), n21 13 (by decide), n20 13 (by decide), n19 13 (by decide), a18]
      simp (disch := omega) only [o23, o22, o21, o20, o19, o18, o17, o16, o15, o14, o13, o12, o11, o10, o9, o8, o7, o6, o5]
    · rw [n23 14 (by decide), n22 14 (by decide), n21 14 (by decide), n20 14 (by decide), a19]
      simp (disch := omega) only [o23, o22, o21, o20, o19, o18, o17, o16, o15, o14, o13, o12, o11, o10, o9, o8, o7, o6, o5]
    · rw [n23 15 (by decide), n22 15 (by decide), n21 15 (by decide), a20]
      simp (disch := omega) only [o23, o22, o21, o20, o19, o18, o17, o16, o15, o14, o13, o12, o11, o10, o9, o8, o7, o6, o5]
    · rw [n23 16 (by decide), n22 16 (by decide), a21]
      simp (disch := omega) only [o23, o22, o21, o20, o19, o18, o17, o16, o15, o14, o13, o12, o11, o10, o9, o8, o7, o6, o5]
    · rw [n23 17 (by decide), a22]
      simp (disch := omega) only [o23, o22, o21, o20, o19, o18, o17, o16, o15, o14, o13, o12, o11, o10, o9, o8, o7, o6, o5]
    · rw [a23]
      simp (disch := omega) only [o23, o22, o21, o20, o19, o18, o17, o16, o15, o14, o13, o12, o11, o10, o9, o8, o7, o6, o5]
  · intro d i h1 h2 h3
    rcases (show d = 1 ∨ d = 2 ∨ d = 3 by omega) with rfl | rfl | rfl
    · simp (disch := omega) only [o23, o22, o21, o20, o19, o18, o17, o16, o15, o14, o13, o12, o11, o10, o9, o8, o7]
      rw [a6 i h3]
      simp (disch := omega) only [o5]
    · simp (disch := omega) only [o23, o22, o21, o20, o19, o18, o17, o16, o15, o14, o13, o12, o11, o10, o9, o8]
      rw [a7 i h3]
      simp (disch := omega) only [o6, o5]
    · simp (disch := omega) only [o23, o22, o21, o20, o19, o18, o17, o16, o15, o14, o13, o12, o11, o10, o9]
      rw [a8 i h3]
      simp (disch := omega) only [o7, o6, o5]
  · intro d i h1 h2 h3
    rcases (show d = 4 ∨ d = 5 ∨ d = 6 ∨ d = 7 ∨ d = 8 by omega) with rfl | rfl | rfl | rfl | rfl
    · simp (disch := omega) only [o23, o22, o21, o20, o19, o18, o17, o16, o15, o14, o13, o12, o11, o10]
      rw [a9 i h3]
      simp (disch := omega) only [o8, o7, o6, o5]
    · simp (disch := omega) only [o23, o22, o21, o20, o19, o18, o17, o16, o15, o14, o13, o12, o11]
      rw [a10 i h3]
      simp (disch := omega) only [o9, o8, o7, o6, o5]
    · simp (disch := omega) only [o23, o22, o21, o20, o19, o18, o17, o16, o15, o14, o13, o12]
      rw [a11 i h3]
      simp (disch := omega) only [o10, o9, o8, o7, o6, o5]
    · simp (disch := omega) only [o23, o22, o21, o20, o19, o18, o17, o16, o15, o14, o13]
      rw [a12 i h3]
      simp (disch := omega) only [o11, o10, o9, o8, o7, o6, o5]
    · simp (disch := omega) only [o23, o22, o21, o20, o19, o18, o17, o16, o15, o14]
      rw [a13 i h3]
      simp (disch := omega) only [o12, o11, o10, o9, o8, o7, o6, o5]
  · intro i h1
    simp (disch := omega) only [o23, o22, o21, o20, o19, o18, o17, o16, o15, o14, o13, o12, o11, o10, o9, o8, o7, o6]
    exact a5 i h1
  · intro i h1
    simp (disch := omega) only [o23, o22, o21, o20, o19, o18, o17, o16, o15, o14, o13, o12, o11, o10, o9, o8, o7, o6]
    exact b5 i h1
  · intro c i h1
    simp (disch := omega) only [o23, o22, o21, o20, o19, o18, o17, o16, o15, o14, o13, o12, o11, o10, o9, o8, o7, o6, o5]
theorem CW_copy {w u : Nat} {V M M2 : Mem} (h0 : ∀ i, 9 ≤ i → i ≤ 18 → M2 w i = M u i) (h1 : ∀ d i, 1 ≤ d → d ≤ 3 → i < 10 → M2 (w + d) i = M (u + d) i) (h2 : ∀ d i, 4 ≤ d → d ≤ 8 → i < 14 → M2 (w + d) i = M (u + d) i) (hc : CW u V M) : CW w V M2 := by
  obtain ⟨a, b⟩ := CW_iff.mp hc
  refine CW_iff.mpr ⟨fun d i hd => ?_, (h0 12 (by decide) (by decide)).trans b⟩
  rw [← a d i hd]
  rcases Nat.eq_zero_or_pos d with e | e
  · subst e
    exact h0 i (by simp [wdom] at hd; omega) (by simp [wdom] at hd; omega)
  · rcases Nat.lt_or_ge d 4 with e2 | e2
    · exact h1 d i e (by omega) (by simp only [wdom] at hd; grind)
    · exact h2 d i e2 (by simp only [wdom] at hd; grind) (by simp only [wdom] at hd; grind)
