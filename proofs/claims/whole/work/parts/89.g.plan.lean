/-! the class reads a line of the plan -/
theorem s5_planW {P N : Nat} {b : Nat → Nat} {n m i d w : Nat} {L : List (List Nat)} {M : Mem} {Q : Bool → Mem → Prop} (ca : CA 2 b n m i M) (hP : P < 10000) (hN : N < 10000) (h8 : M 139 8 = nI P) (h9 : M 139 9 = nI N) (hL : L.length < 16) (hR : plC L M) (hw : w ≤ 4) (h1 : ∀ y j M2, planE P N (tyT b n) (tyV b n) d w i = .ok (y, j) → CA 2 b n m j M2 → cl1 M M2 → plC (L ++ [y]) M2 → Q true M2) (h2 : ∀ f e M2, planE P N (tyT b n) (tyV b n) d w i = .error (f, e) → CErr b n f e M M2 → Q false M2) :
    ((nI (w + 1) = 1 → NX5_planLine_106 Q 139 (nI d) (nI (w + 1)) (-1) M) ∧ (¬ nI (w + 1) = 1 → ((nI (w + 1) = 2 → NX5_planLine_106 Q 139 (nI d) (nI (w + 1)) (-1) M) ∧ (¬ nI (w + 1) = 2 → ((¬ nI (w + 1) = 4 → NX5_planLine_91 Q 139 (nI d) (nI (w + 1)) 139 0 (M 139 9) M) ∧ (nI (w + 1) = 4 → NX5_planLine_91 Q 139 (nI d) (nI (w + 1)) 139 0 (M 139 8) M)))))) := by
  rw [h8, h9]
  have e1 : ¬ tyT b n i = 3 → ∀ M2, CErr b n 1 i M M2 → Q false M2 := fun q M2 he => h2 1 i M2 (planE_1 q) he
  have : w = 0 ∨ w = 1 ∨ w = 2 ∨ w = 3 ∨ w = 4 := by omega
  rcases this with rfl | rfl | rfl | rfl | rfl
  · refine ⟨fun _ => ?_, fun t => absurd rfl t⟩
    unfold NX5_planLine_106 NX5_planLine_121 NX5_planLine_139 NX5_planLine_152
    refine ⟨fun t => absurd t (by decide), fun _ => ⟨fun t => absurd t (by decide), fun _ => ⟨fun t => absurd t (by decide), fun _ => ⟨fun _ => ⟨fun t => absurd rfl t, fun _ => ?_⟩, fun t => absurd t (by decide)⟩⟩⟩⟩
    refine s5_number (lo := 0) (hi := 999) ca (by omega) (by omega) (fun q3 _ q4 M4 c4 f4 v4 => ⟨fun _ => ?_, fun w => (by cases w)⟩) (fun q M2 he => ⟨fun w => (by cases w), fun _ => e1 q M2 he⟩) (fun q3 q M2 he => ⟨fun w => (by cases w), fun _ => h2 2 i M2 (planE_2 q3 (fun t => q ⟨Nat.zero_le _, Nat.le_of_lt_succ t⟩)) he⟩)
    unfold NX5_planLine_160
    refine ⟨fun t => absurd t (by decide), fun _ => ?_⟩
    rw [planE_k q3 (show tyV b n i < 1000 by omega) (by decide)] at h1 h2
    rw [v4]
    exact s5_planM c4 hL (hR.cs f4) ⟨rfl, rfl, fun _ => rfl, fun t => absurd t (by show ¬ 2 ≤ 0; decide), fun t => absurd t (by show ¬ 0 = 3; decide)⟩ (fun y j M2 e c f => h1 y j M2 e c (f4.cl1.trans f)) (fun f e M2 e1 he => h2 f e M2 e1 (he.of f4.cfr))
  · refine ⟨fun t => absurd t (by decide), fun _ => ⟨fun _ => ?_, fun t => absurd rfl t⟩⟩
    unfold NX5_planLine_106 NX5_planLine_121 NX5_planLine_139 NX5_planLine_152
    refine ⟨fun t => absurd t (by decide), fun _ => ⟨fun t => absurd t (by decide), fun _ => ⟨fun t => absurd t (by decide), fun _ => ⟨fun _ => ⟨fun _ => ?_, fun t => absurd t (by decide)⟩, fun t => absurd t (by decide)⟩⟩⟩⟩
    refine s5_number (lo := 0) (hi := 99) ca (by omega) (by omega) (fun q3 _ q4 M4 c4 f4 v4 => ⟨fun _ => ?_, fun w => (by cases w)⟩) (fun q M2 he => ⟨fun w => (by cases w), fun _ => e1 q M2 he⟩) (fun q3 q M2 he => ⟨fun w => (by cases w), fun _ => h2 2 i M2 (planE_2 q3 (fun t => q ⟨Nat.zero_le _, Nat.le_of_lt_succ t⟩)) he⟩)
    unfold NX5_planLine_160
    refine ⟨fun t => absurd t (by decide), fun _ => ?_⟩
    rw [planE_k q3 (show tyV b n i < 100 by omega) (by decide)] at h1 h2
    rw [v4]
    exact s5_planM c4 hL (hR.cs f4) ⟨rfl, rfl, fun _ => rfl, fun t => absurd t (by show ¬ 2 ≤ 1; decide), fun t => absurd t (by show ¬ 1 = 3; decide)⟩ (fun y j M2 e c f => h1 y j M2 e c (f4.cl1.trans f)) (fun f e M2 e1 he => h2 f e M2 e1 (he.of f4.cfr))
  · refine ⟨fun t => absurd t (by decide), fun _ => ⟨fun t => absurd t (by decide), fun _ => ⟨fun _ => ?_, fun t => absurd t (by decide)⟩⟩⟩
    unfold NX5_planLine_91
    refine s5_numX ca hN (fun q3 q4 M4 c4 f4 v4 => ⟨fun _ => ?_, fun w => (by cases w)⟩) (fun q M2 he => ⟨fun w => (by cases w), fun _ => e1 q M2 he⟩) (fun q3 q M2 he => ⟨fun w => (by cases w), fun _ => h2 2 i M2 (planE_2 q3 (fun t => q t)) he⟩)
    unfold NX5_planLine_106 NX5_planLine_120 NX5_planLine_121 NX5_planLine_160
    refine ⟨fun _ => ⟨fun _ => ⟨fun _ => ?_, fun t => absurd rfl t⟩, fun t => absurd rfl t⟩, fun t => absurd rfl t⟩
    rw [planE_k q3 (show tyV b n i < hB P N 2 from q4) (by decide)] at h1 h2
    rw [v4]
    exact s5_planM c4 hL (hR.cs f4) ⟨rfl, rfl, fun t => absurd t (by show ¬ 2 < 2; decide), fun _ => rfl, fun t => absurd t (by show ¬ 2 = 3; decide)⟩ (fun y j M2 e c f => h1 y j M2 e c (f4.cl1.trans f)) (fun f e M2 e1 he => h2 f e M2 e1 (he.of f4.cfr))
  · refine ⟨fun t => absurd t (by decide), fun _ => ⟨fun t => absurd t (by decide), fun _ => ⟨fun t => absurd rfl t, fun _ => ?_⟩⟩⟩
    unfold NX5_planLine_91
    refine s5_numX ca hP (fun q3 q4 M4 c4 f4 v4 => ⟨fun _ => ?_, fun w => (by cases w)⟩) (fun q M2 he => ⟨fun w => (by cases w), fun _ => e1 q M2 he⟩) (fun q3 q M2 he => ⟨fun w => (by cases w), fun _ => h2 2 i M2 (planE_2 q3 (fun t => q t)) he⟩)
    unfold NX5_planLine_106 NX5_planLine_121 NX5_planLine_139 NX5_planLine_152
    refine ⟨fun t => absurd t (by decide), fun _ => ⟨fun t => absurd t (by decide), fun _ => ⟨fun t => absurd t (by decide), fun _ => ⟨fun t => absurd rfl t, fun _ => ⟨fun _ => ?_, fun t => absurd t (by decide)⟩⟩⟩⟩⟩
    have p3 : ∀ y, planE P N (tyT b n) (tyV b n) d 3 i = y ↔ (if tyT b n (i + 1) = 3 then (if 1 ≤ tyV b n (i + 1) ∧ tyV b n (i + 1) ≤ 99 then planM (tyT b n) (tyV b n) [d, 3, tyV b n i, tyV b n (i + 1)] (i + 2) else .error (2, i + 1)) else .error (1, i + 1)) = y := by
      intro y
      unfold planE
      rw [if_pos q3, if_pos (show tyV b n i < hB P N 3 from q4), if_pos rfl]
    refine s5_number (lo := 1) (hi := 99) c4 (by omega) (by omega) (fun q5 q6 q7 M5 c5 f5 v5 => ⟨fun _ => ?_, fun w => (by cases w)⟩) (fun q M2 he => ⟨fun w => (by cases w), fun _ => h2 1 (i + 1) M2 ((p3 _).mpr (if_neg q)) (he.of f4.cfr)⟩) (fun q5 q M2 he => ⟨fun w => (by cases w), fun _ => h2 2 (i + 1) M2 ((p3 _).mpr (by rw [if_pos q5, if_neg q])) (he.of f4.cfr)⟩)
    unfold NX5_planLine_160
    refine ⟨fun t => absurd t (by decide), fun _ => ?_⟩
    rw [v4, v5]
    exact s5_planM c5 hL ((hR.cs f4).cs f5) (x := [d, 3, tyV b n i, tyV b n (i + 1)]) ⟨rfl, rfl, fun t => absurd t (by show ¬ 3 < 2; decide), fun _ => rfl, fun _ => rfl⟩ (fun y j M2 e c f => h1 y j M2 ((p3 _).mpr (by rw [if_pos q5, if_pos ⟨q6, q7⟩]; exact e)) c ((f4.trans f5).cl1.trans f)) (fun f e M2 e1 he => h2 f e M2 ((p3 _).mpr (by rw [if_pos q5, if_pos ⟨q6, q7⟩]; exact e1)) (he.of (f4.trans f5).cfr))
  · refine ⟨fun t => absurd t (by decide), fun _ => ⟨fun t => absurd t (by decide), fun _ => ⟨fun _ => ?_, fun t => absurd t (by decide)⟩⟩⟩
    unfold NX5_planLine_91
    refine s5_numX ca hN (fun q3 q4 M4 c4 f4 v4 => ⟨fun _ => ?_, fun w => (by cases w)⟩) (fun q M2 he => ⟨fun w => (by cases w), fun _ => e1 q M2 he⟩) (fun q3 q M2 he => ⟨fun w => (by cases w), fun _ => h2 2 i M2 (planE_2 q3 (fun t => q t)) he⟩)
    unfold NX5_planLine_106 NX5_planLine_120 NX5_planLine_121 NX5_planLine_160
    refine ⟨fun t => absurd t (by decide), fun _ => ⟨fun _ => ⟨fun _ => ⟨fun _ => ?_, fun t => absurd rfl t⟩, fun t => absurd rfl t⟩, fun t => absurd rfl t⟩⟩
    rw [planE_k q3 (show tyV b n i < hB P N 4 from q4) (by decide)] at h1 h2
    rw [v4]
    exact s5_planM c4 hL (hR.cs f4) ⟨rfl, rfl, fun t => absurd t (by show ¬ 4 < 2; decide), fun _ => rfl, fun t => absurd t (by show ¬ 4 = 3; decide)⟩ (fun y j M2 e c f => h1 y j M2 e c (f4.cl1.trans f)) (fun f e M2 e1 he => h2 f e M2 e1 (he.of f4.cfr))
theorem planP_1 {P N : Nat} {T V : Nat → Nat} {l i : Nat} (q : ¬ (T i = 2 ∧ V i = 17)) : planP P N T V l i = .error (1, i) := if_neg q
theorem planP_3 {P N : Nat} {T V : Nat → Nat} {l i : Nat} (q : T i = 2 ∧ V i = 17) (h : ¬ l < 16) : planP P N T V l i = .error (3, i) := by
  unfold planP; rw [if_pos q, if_neg h]
theorem planP_n1 {P N : Nat} {T V : Nat → Nat} {l i : Nat} (q : T i = 2 ∧ V i = 17) (h : l < 16) (h1 : ¬ T (i + 1) = 3) : planP P N T V l i = .error (1, i + 1) := by
  unfold planP; rw [if_pos q, if_pos h, if_neg h1]
theorem planP_n2 {P N : Nat} {T V : Nat → Nat} {l i : Nat} (q : T i = 2 ∧ V i = 17) (h : l < 16) (h1 : T (i + 1) = 3) (h2 : ¬ (0 ≤ V (i + 1) ∧ V (i + 1) ≤ 999)) : planP P N T V l i = .error (2, i + 1) := by
  unfold planP; rw [if_pos q, if_pos h, if_pos h1, if_neg h2]
theorem planP_d {P N : Nat} {T V : Nat → Nat} {l i : Nat} (q : T i = 2 ∧ V i = 17) (h : l < 16) (h1 : T (i + 1) = 3) (h2 : V (i + 1) ≤ 999) (h3 : ¬ (T (i + 2) = 2 ∧ 18 ≤ V (i + 2) ∧ V (i + 2) ≤ 22)) : planP P N T V l i = .error (1, i + 2) := by
  unfold planP; rw [if_pos q, if_pos h, if_pos h1, if_pos ⟨Nat.zero_le _, h2⟩, if_neg h3]
theorem planP_k {P N : Nat} {T V : Nat → Nat} {l i : Nat} (q : T i = 2 ∧ V i = 17) (h : l < 16) (h1 : T (i + 1) = 3) (h2 : V (i + 1) ≤ 999) (h3 : T (i + 2) = 2 ∧ 18 ≤ V (i + 2) ∧ V (i + 2) ≤ 22) : planP P N T V l i = planE P N T V (V (i + 1)) (V (i + 2) - 18) (i + 3) := by
  unfold planP; rw [if_pos q, if_pos h, if_pos h1, if_pos ⟨Nat.zero_le _, h2⟩, if_pos h3]
theorem planP_16 {P N : Nat} {T V : Nat → Nat} {i : Nat} (x : List Nat × Nat) : planP P N T V 16 i ≠ .ok x := by
  by_cases q : T i = 2 ∧ V i = 17
  · rw [planP_3 q (by omega)]; intro h; cases h
  · rw [planP_1 q]; intro h; cases h
theorem s5_planLine {P N : Nat} (hP : P < 10000) (hN : N < 10000) {b : Nat → Nat} {n m : Nat} (L : List (List Nat)) (i : Nat) (M : Mem) (Q : Bool → Mem → Prop) (ca : CA 2 b n m i M) (h7 : M 139 7 = nI L.length) (hL : L.length ≤ 16) (hR : plC L M) (h8 : M 139 8 = nI P) (h9 : M 139 9 = nI N) (h1 : ∀ x j M2, planP P N (tyT b n) (tyV b n) L.length i = .ok (x, j) → CA 2 b n m j M2 → cl1 M M2 → plC (L ++ [x]) M2 → Q true M2) (h2 : ∀ f e M2, planP P N (tyT b n) (tyV b n) L.length i = .error (f, e) → CErr b n f e M M2 → Q false M2) : FX5_planLine Q 139 M := by
  unfold FX5_planLine
  refine s5_begin ca wO2_0 h7 hL (fun q1 q2 M1 c1 f1 => ⟨fun w => (by cases w), fun _ => ?_⟩) (fun q M2 he => ⟨fun _ => h2 1 i M2 (planP_1 q) he, fun w => (by cases w)⟩) (fun q1 q2 M2 he => ⟨fun _ => h2 3 i M2 (planP_3 q1 (by omega)) he, fun w => (by cases w)⟩)
  refine s5_number (lo := 0) (hi := 999) c1 (by omega) (by omega) (fun q3 _ q4 M2 c2 f2 v2 => ⟨fun _ => ?_, fun w => (by cases w)⟩) (fun q M2 he => ⟨fun w => (by cases w), fun _ => h2 1 (i + 1) M2 (planP_n1 q1 q2 q) (he.of f1.cfr)⟩) (fun q3 q M2 he => ⟨fun w => (by cases w), fun _ => h2 2 (i + 1) M2 (planP_n2 q1 q2 q3 q) (he.of f1.cfr)⟩)
  refine s5_kind c2 (fun hK => ?_)
  unfold NX5_planLine_45
  rcases KR_deed hK with ⟨q5, e5⟩ | ⟨q5, e5⟩
  · rw [e5, v2]
    generalize hw : tyV b n (i + 1 + 1) - 18 = w at *
    have ew : tyV b n (i + 1 + 1) - 17 = w + 1 := by omega
    rw [ew]
    have hw4 : w ≤ 4 := by omega
    refine ⟨fun t => absurd ((nI_ltI (b := 1) (by omega) (by omega)).mp t) (by omega), fun _ => ⟨fun _ => ?_, fun t => absurd ((nI_leI (b := 5) (by omega) (by omega)).mpr (by omega)) t⟩⟩
    rintro M3 rfl
    obtain ⟨c3, f3⟩ := c2.step (by rw [q5.1]; decide)
    have f13 := (f1.trans f2).trans f3
    rw [planP_k q1 q2 q3 q4 q5, show tyV b n (i + 2) - 18 = w from hw] at h1 h2
    exact s5_planW c3 hP hN ((f13 139 8 (by omega)).trans h8) ((f13 139 9 (by omega)).trans h9) q2 (hR.cs f13) hw4 (fun y j M2 e c f => h1 y j M2 e c (f13.cl1.trans f)) (fun f e M2 e1 he => h2 f e M2 e1 (he.of f13.cfr))
  · exact ⟨fun _ => s5_refuse 1 c2 (fun M3 he => h2 1 (i + 2) M3 (planP_d q1 q2 q3 q4 q5) (he.of (f1.trans f2).cfr)), fun t => absurd e5 t⟩
