/-! image: the class's copies -/
theorem dr_cases {e i : Nat} (h : dr e i = true) : (e = 10 ∧ i < 600) ∨ (e = 11 ∧ i = 7) ∨ (e = 12 ∧ i < 400) ∨ ((e = 13 ∨ e = 14 ∨ e = 15 ∨ e = 16) ∧ i < 16) ∨ ((e = 18 ∨ e = 26) ∧ i = 2) ∨ (e = 21 ∧ i = 4) ∨ (e = 29 ∧ i = 3) ∨ ((e = 19 ∨ e = 20 ∨ e = 22 ∨ e = 23 ∨ e = 24 ∨ e = 25 ∨ e = 27 ∨ e = 28) ∧ i < 16) ∨ ((e = 30 ∨ e = 31) ∧ i < 7) := by
  unfold dr at h
  repeat' split at h
  all_goals first | (have h := of_decide_eq_true h; omega) | (have h := eq_of_beq h; omega) | cases h
theorem s0_copyFrom {Q : Mem → Prop} {d u : Nat} {M : Mem} (hd : (d = 34 ∧ u = 1) ∨ (d = 1 ∧ u = 34)) (h : ∀ M' : Mem, (∀ i, 9 ≤ i → i ≤ 18 → M' (d + 1) i = M (u + 1) i) → (∀ e i, 1 ≤ e → e ≤ 3 → i < 10 → M' (d + 1 + e) i = M (u + 1 + e) i) → (∀ e i, 4 ≤ e → e ≤ 8 → i < 14 → M' (d + 1 + e) i = M (u + 1 + e) i) → (∀ e i, dr e i = true → M' (d + e) i = M (u + e) i) → (∀ c i, ¬ (d + 1 ≤ c ∧ c ≤ d + 31) → M' c i = M c i) → Q M') : FX0_copyFrom Q d u M := by
  unfold FX0_copyFrom
  have s600 : SHn (d + 1 + 9) = 600 ∧ SHn (u + 1 + 9) = 600 := by rcases hd with ⟨rfl, rfl⟩ | ⟨rfl, rfl⟩ <;> decide
  refine s9_copy (w := d + 1) (u := u + 1) (n := 600) (by omega) (by rw [s600.1, s600.2]; rfl) (by rw [s600.1, s600.2]; decide) (fun M0 p0 p1 p2 p3 p4 p5 => ?_)
  unfold FX2_copyFrom
  intro M1 h1 M2 h2 M3 h3 M4 h4 M5 h5 M6 h6 M7 h7
  unfold FX6_copyFrom
  intro M8 h8 M9 h9 M10 h10
  unfold FX4_copyFrom
  intro M11 h11 M12 h12 M13 h13 M14 h14 M15 h15
  unfold FX7_copyFrom
  intro M16 h16 M17 h17 M18 h18
  unfold FX10_copyFrom
  intro M19 h19 M20 h20 M21 h21
  have o1 : ∀ c, c ≠ d + 11 + 1 → M1 c = M0 c := fun c hc => by rw [h1, xuC_ne _ _ hc]
  have a1 : ∀ i, i < 400 → M1 (d + 11 + 1) i = M0 (u + 11 + 1) i := fun i hi => by rw [h1, xuC_same, pk_cpy_in (by omega) (by omega)]; simp
  have o2 : ∀ c, c ≠ d + 11 + 2 → M2 c = M1 c := fun c hc => by rw [h2, xuC_ne _ _ hc]
  have a2 : ∀ i, i < 16 → M2 (d + 11 + 2) i = M1 (u + 11 + 2) i := fun i hi => by rw [h2, xuC_same, pk_cpy_in (by omega) (by omega)]; simp
  have o3 : ∀ c, c ≠ d + 11 + 3 → M3 c = M2 c := fun c hc => by rw [h3, xuC_ne _ _ hc]
  have a3 : ∀ i, i < 16 → M3 (d + 11 + 3) i = M2 (u + 11 + 3) i := fun i hi => by rw [h3, xuC_same, pk_cpy_in (by omega) (by omega)]; simp
  have o4 : ∀ c, c ≠ d + 11 + 4 → M4 c = M3 c := fun c hc => by rw [h4, xuC_ne _ _ hc]
  have a4 : ∀ i, i < 16 → M4 (d + 11 + 4) i = M3 (u + 11 + 4) i := fun i hi => by rw [h4, xuC_same, pk_cpy_in (by omega) (by omega)]; simp
  have o5 : ∀ c, c ≠ d + 11 + 5 → M5 c = M4 c := fun c hc => by rw [h5, xuC_ne _ _ hc]
  have a5 : ∀ i, i < 16 → M5 (d + 11 + 5) i = M4 (u + 11 + 5) i := fun i hi => by rw [h5, xuC_same, pk_cpy_in (by omega) (by omega)]; simp
  have o6 : ∀ c, c ≠ d + 11 → M6 c = M5 c := fun c hc => by rw [h6, xu_cell _ _ _ hc]
  have a6 : M6 (d + 11) 6 = M5 (u + 11) 6 := by rw [h6, xu_same]
  have o7 : ∀ c, c ≠ d + 11 → M7 c = M6 c := fun c hc => by rw [h7, xu_cell _ _ _ hc]
  have a7 : M7 (d + 11) 7 = M6 (u + 11) 7 := by rw [h7, xu_same]
  have o8 : ∀ c, c ≠ d + 18 + 1 → M8 c = M7 c := fun c hc => by rw [h8, xuC_ne _ _ hc]
  have a8 : ∀ i, i < 16 → M8 (d + 18 + 1) i = M7 (u + 18 + 1) i := fun i hi => by rw [h8, xuC_same, pk_cpy_in (by omega) (by omega)]; simp
  have o9 : ∀ c, c ≠ d + 18 + 2 → M9 c = M8 c := fun c hc => by rw [h9, xuC_ne _ _ hc]
  have a9 : ∀ i, i < 16 → M9 (d + 18 + 2) i = M8 (u + 18 + 2) i := fun i hi => by rw [h9, xuC_same, pk_cpy_in (by omega) (by omega)]; simp
  have o10 : ∀ c, c ≠ d + 18 → M10 c = M9 c := fun c hc => by rw [h10, xu_cell _ _ _ hc]
  have a10 : M10 (d + 18) 2 = M9 (u + 18) 2 := by rw [h10, xu_same]
  have o11 : ∀ c, c ≠ d + 21 + 1 → M11 c = M10 c := fun c hc => by rw [h11, xuC_ne _ _ hc]
  have a11 : ∀ i, i < 16 → M11 (d + 21 + 1) i = M10 (u + 21 + 1) i := fun i hi => by rw [h11, xuC_same, pk_cpy_in (by omega) (by omega)]; simp
  have o12 : ∀ c, c ≠ d + 21 + 2 → M12 c = M11 c := fun c hc => by rw [h12, xuC_ne _ _ hc]
  have a12 : ∀ i, i < 16 → M12 (d + 21 + 2) i = M11 (u + 21 + 2) i := fun i hi => by rw [h12, xuC_same, pk_cpy_in (by omega) (by omega)]; simp
  have o13 : ∀ c, c ≠ d + 21 + 3 → M13 c = M12 c := fun c hc => by rw [h13, xuC_ne _ _ hc]
  have a13 : ∀ i, i < 16 → M13 (d + 21 + 3) i = M12 (u + 21 + 3) i := fun i hi => by rw [h13, xuC_same, pk_cpy_in (by omega) (by omega)]; simp
  have o14 : ∀ c, c ≠ d + 21 + 4 → M14 c = M13 c := fun c hc => by rw [h14, xuC_ne _ _ hc]
  have a14 : ∀ i, i < 16 → M14 (d + 21 + 4) i = M13 (u + 21 + 4) i := fun i hi => by rw [h14, xuC_same, pk_cpy_in (by omega) (by omega)]; simp
  have o15 : ∀ c, c ≠ d + 21 → M15 c = M14 c := fun c hc => by rw [h15, xu_cell _ _ _ hc]
  have a15 : M15 (d + 21) 4 = M14 (u + 21) 4 := by rw [h15, xu_same]
  have o16 : ∀ c, c ≠ d + 26 + 1 → M16 c = M15 c := fun c hc => by rw [h16, xuC_ne _ _ hc]
  have a16 : ∀ i, i < 16 → M16 (d + 26 + 1) i = M15 (u + 26 + 1) i := fun i hi => by rw [h16, xuC_same, pk_cpy_in (by omega) (by omega)]; simp
  have o17 : ∀ c, c ≠ d + 26 + 2 → M17 c = M16 c := fun c hc => by rw [h17, xuC_ne _ _ hc]
  have a17 : ∀ i, i < 16 → M17 (d + 26 + 2) i = M16 (u + 26 + 2) i := fun i hi => by rw [h17, xuC_same, pk_cpy_in (by omega) (by omega)]; simp
  have o18 : ∀ c, c ≠ d + 26 → M18 c = M17 c := fun c hc => by rw [h18, xu_cell _ _ _ hc]
  have a18 : M18 (d + 26) 2 = M17 (u + 26) 2 := by rw [h18, xu_same]
  have o19 : ∀ c, c ≠ d + 29 + 1 → M19 c = M18 c := fun c hc => by rw [h19, xuC_ne _ _ hc]
  have a19 : ∀ i, i < 7 → M19 (d + 29 + 1) i = M18 (u + 29 + 1) i := fun i hi => by rw [h19, xuC_same, pk_cpy_in (by omega) (by omega)]; simp
  have o20 : ∀ c, c ≠ d + 29 + 2 → M20 c = M19 c := fun c hc => by rw [h20, xuC_ne _ _ hc]
  have a20 : ∀ i, i < 7 → M20 (d + 29 + 2) i = M19 (u + 29 + 2) i := fun i hi => by rw [h20, xuC_same, pk_cpy_in (by omega) (by omega)]; simp
  have o21 : ∀ c, c ≠ d + 29 → M21 c = M20 c := fun c hc => by rw [h21, xu_cell _ _ _ hc]
  have a21 : M21 (d + 29) 3 = M20 (u + 29) 3 := by rw [h21, xu_same]
  clear h1 h2 h3 h4 h5 h6 h7 h8 h9 h10 h11 h12 h13 h14 h15 h16 h17 h18 h19 h20 h21
  have src : ∀ e i, e ≤ 31 → M0 (u + e) i = M (u + e) i := fun e i he => p5 _ _ (by omega)
  have keep : ∀ c, ¬ (d + 11 ≤ c ∧ c ≤ d + 31) → M21 c = M0 c := fun c hc => by
    simp (disch := omega) only [o21, o20, o19, o18, o17, o16, o15, o14, o13, o12, o11, o10, o9, o8, o7, o6, o5, o4, o3, o2, o1]
  refine h _ (fun i h1 h2 => ?_) (fun e i h1 h2 h3 => ?_) (fun e i h1 h2 h3 => ?_) (fun e i hd2 => ?_) (fun c i hc => ?_)
  · rw [keep _ (by omega)]; exact p0 i h1 h2
  · rw [keep _ (by omega)]; exact p1 e i h1 h2 h3
  · rw [keep _ (by omega)]; exact p2 e i h1 h2 h3
  · rcases dr_cases hd2 with ⟨rfl, hi⟩ | ⟨rfl, rfl⟩ | ⟨rfl, hi⟩ | ⟨rfl | rfl | rfl | rfl, hi⟩ | ⟨rfl | rfl, rfl⟩ | ⟨rfl, rfl⟩ | ⟨rfl, rfl⟩ | ⟨rfl | rfl | rfl | rfl | rfl | rfl | rfl | rfl, hi⟩ | ⟨rfl | rfl, hi⟩
    · rw [keep _ (by omega)]; exact p3 i hi
    · show M21 (d + 11) 7 = _
      simp (disch := omega) only [o21, o20, o19, o18, o17, o16, o15, o14, o13, o12, o11, o10, o9, o8]
      rw [a7]
      simp (disch := omega) only [o6, o5, o4, o3, o2, o1]
      exact src 11 7 (by decide)
    · show M21 (d + 11 + 1) i = _
      simp (disch := omega) only [o21, o20, o19, o18, o17, o16, o15, o14, o13, o12, o11, o10, o9, o8, o7, o6, o5, o4, o3, o2]
      rw [a1 i hi]
      exact src 12 i (by decide)
    · show M21 (d + 11 + 2) i = _
      simp (disch := omega) only [o21, o20, o19, o18, o17, o16, o15, o14, o13, o12, o11, o10, o9, o8, o7, o6, o5, o4, o3]
      rw [a2 i hi]
      simp (disch := omega) only [o1]
      exact src 13 i (by decide)
    · show M21 (d + 11 + 3) i = _
      simp (disch := omega) only [o21, o20, o19, o18, o17, o16, o15, o14, o13, o12, o11, o10, o9, o8, o7, o6, o5, o4]
      rw [a3 i hi]
      simp (disch := omega) only [o2, o1]
      exact src 14 i (by decide)
    · show M21 (d + 11 + 4) i = _
      simp (disch := omega) only [o21, o20, o19, o18, o17, o16, o15, o14, o13, o12, o11, o10, o9, o8, o7, o6, o5]
      rw [a4 i hi]
      simp (disch := omega) only [o3, o2, o1]
      exact src 15 i (by decide)
    · show M21 (d + 11 + 5) i = _
      simp (disch := omega) only [o21, o20, o19, o18, o17, o16, o15, o14, o13, o12, o11, o10, o9, o8, o7, o6]
      rw [a5 i hi]
      simp (disch := omega) only [o4, o3, o2, o1]
      exact src 16 i (by decide)
    · show M21 (d + 18) 2 = _
      simp (disch := omega) only [o21, o20, o19, o18, o17, o16, o15, o14, o13, o12, o11]
      rw [a10]
      simp (disch := omega) only [o9, o8, o7, o6, o5, o4, o3, o2, o1]
      exact src 18 2 (by decide)
    · show M21 (d + 26) 2 = _
      simp (disch := omega) only [o21, o20, o19]
      rw [a18]
      simp (disch := omega) only [o17, o16, o15, o14, o13, o12, o11, o10, o9, o8, o7, o6, o5, o4, o3, o2, o1]
      exact src 26 2 (by decide)
    · show M21 (d + 21) 4 = _
      simp (disch := omega) only [o21, o20, o19, o18, o17, o16]
      rw [a15]
      simp (disch := omega) only [o14, o13, o12, o11, o10, o9, o8, o7, o6, o5, o4, o3, o2, o1]
      exact src 21 4 (by decide)
    · show M21 (d + 29) 3 = _
      rw [a21]
      simp (disch := omega) only [o20, o19, o18, o17, o16, o15, o14, o13, o12, o11, o10, o9, o8, o7, o6, o5, o4, o3, o2, o1]
      exact src 29 3 (by decide)
    · show M21 (d + 18 + 1) i = _
      simp (disch := omega) only [o21, o20, o19, o18, o17, o16, o15, o14, o13, o12, o11, o10, o9]
      rw [a8 i hi]
      simp (disch := omega) only [o7, o6, o5, o4, o3, o2, o1]
      exact src 19 i (by decide)
    · show M21 (d + 18 + 2) i = _
      simp (disch := omega) only [o21, o20, o19, o18, o17, o16, o15, o14, o13, o12, o11, o10]
      rw [a9 i hi]
      simp (disch := omega) only [o8, o7, o6, o5, o4, o3, o2, o1]
      exact src 20 i (by decide)
    · show M21 (d + 21 + 1) i = _
      simp (disch := omega) only [o21, o20, o19, o18, o17, o16, o15, o14, o13, o12]
      rw [a11 i hi]
      simp (disch := omega) only [o10, o9, o8, o7, o6, o5, o4, o3, o2, o1]
      exact src 22 i (by decide)
    · show M21 (d + 21 + 2) i = _
      simp (disch := omega) only [o21, o20, o19, o18, o17, o16, o15, o14, o13]
      rw [a12 i hi]
      simp (disch := omega) only [o11, o10, o9, o8, o7, o6, o5, o4, o3, o2, o1]
      exact src 23 i (by decide)
    · show M21 (d + 21 + 3) i = _
      simp (disch := omega) only [o21, o20, o19, o18, o17, o16, o15, o14]
      rw [a13 i hi]
      simp (disch := omega) only [o12, o11, o10, o9, o8, o7, o6, o5, o4, o3, o2, o1]
      exact src 24 i (by decide)
    · show M21 (d + 21 + 4) i = _
      simp (disch := omega) only [o21, o20, o19, o18, o17, o16, o15]
      rw [a14 i hi]
      simp (disch := omega) only [o13, o12, o11, o10, o9, o8, o7, o6, o5, o4, o3, o2, o1]
      exact src 25 i (by decide)
    · show M21 (d + 26 + 1) i = _
      simp (disch := omega) only [o21, o20, o19, o18, o17]
      rw [a16 i hi]
      simp (disch := omega) only [o15, o14, o13, o12, o11, o10, o9, o8, o7, o6, o5, o4, o3, o2, o1]
      exact src 27 i (by decide)
    · show M21 (d + 26 + 2) i = _
      simp (disch := omega) only [o21, o20, o19, o18]
      rw [a17 i hi]
      simp (disch := omega) only [o16, o15, o14, o13, o12, o11, o10, o9, o8, o7, o6, o5, o4, o3, o2, o1]
      exact src 28 i (by decide)
    · show M21 (d + 29 + 1) i = _
      simp (disch := omega) only [o21, o20]
      rw [a19 i hi]
      simp (disch := omega) only [o18, o17, o16, o15, o14, o13, o12, o11, o10, o9, o8, o7, o6, o5, o4, o3, o2, o1]
      exact src 30 i (by decide)
    · show M21 (d + 29 + 2) i = _
      simp (disch := omega) only [o21]
      rw [a20 i hi]
      simp (disch := omega) only [o19, o18, o17, o16, o15, o14, o13, o12, o11, o10, o9, o8, o7, o6, o5, o4, o3, o2, o1]
      exact src 31 i (by decide)
  · rw [keep _ (by omega)]; exact p5 c i (by omega)
