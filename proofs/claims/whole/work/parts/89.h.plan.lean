/-! the reference reads the plan -/
theorem sc183 {i : Nat} (h : 64 ≤ i) : sc 183 i = true := by
  simp [sc, vr]
  omega
def plF (l : Nat) (M M2 : Mem) : Prop := ∀ c i, ¬ rdp c i → ¬ (c = 183 ∧ 64 + 4 * l ≤ i ∧ i < 68 + 4 * l) → M2 c i = M c i
theorem plF.trans {l : Nat} {M M2 M3 : Mem} (h : plF l M M2) (h2 : plF l M2 M3) : plF l M M3 := fun c i hc hd => (h2 c i hc hd).trans (h c i hc hd)
theorem rs1.plF {l : Nat} {M M2 : Mem} (h : rs1 M M2) : plF l M M2 := fun c i hc _ => h c i hc
theorem sc_rd {c i : Nat} (h : rdp c i) : sc c i = true := by
  obtain ⟨rfl, h2, h3⟩ := h
  have : i = 12 ∨ i = 13 ∨ i = 14 ∨ i = 15 := by omega
  rcases this with rfl | rfl | rfl | rfl <;> simp [sc]
theorem plF.rfr {l : Nat} {M M2 : Mem} (h : plF l M M2) : rfr M M2 := fun c i hc => h c i (fun q => by
  rcases hc with hc | hc
  · rw [sc_rd q] at hc; cases hc
  · have := q.1; omega) (fun q => by
  rcases hc with hc | hc
  · rw [q.1, sc183 (by omega)] at hc; cases hc
  · omega)
theorem plF.put {l t : Nat} {M : Mem} (v : Int32) (h : 64 + 4 * l ≤ t) (h2 : t < 68 + 4 * l) : plF l M (xu M 183 t v) := fun c i _ hd => xu_ne _ _ (fun q => hd (by omega))
theorem s12_numX {b : Nat → Nat} {n i h : Nat} {M : Mem} {Q : Int32 → Mem → Prop} (ra : RA b n i M) (hh : h < 10000) (h1 : tyT b n i = 3 → tyV b n i < h → ∀ M2, RA b n (i + 1) M2 → rs1 M M2 → Q (nI (tyV b n i)) M2) (h2 : ¬ tyT b n i = 3 → ∀ M2, RErr b n 1 i M M2 → Q (-1) M2) (h3 : tyT b n i = 3 → ¬ tyV b n i < h → ∀ M2, RErr b n 2 i M M2 → Q (-1) M2) : FX12_readNumber Q 166 0 (nI h - 1) M := by
  cases h with
  | succ h =>
    rw [show nI (h + 1) - 1 = nI h from pk_sub (b := 1) (by omega)]
    exact s12_readNumber (lo := 0) ra (by omega) (by omega) (fun a1 _ a3 => h1 a1 (by omega)) h2 (fun a1 a2 => h3 a1 (by omega))
  | zero =>
    unfold FX12_readNumber
    refine ⟨fun q => ?_, fun q => s12_errs 1 ra (h2 (fun w => q ((ra.t (c := 3) (by omega)).mpr w)))⟩
    have ht := (ra.t (c := 3) (by omega)).mp q
    have hv := tyV_num ht
    have e15 : M 166 15 = nI (tyV b n i) := ra.rd.2.2.2 (by show 2 ≤ tyT b n i; omega)
    rw [e15]
    refine s12_isIn ⟨fun w => ?_, fun w => s12_errs 2 ra (h3 ht (by omega))⟩
    have w' := of_decide_eq_true w
    have h4 : (0 : Int32) ≤ -1 := Int32.le_trans w'.1 w'.2
    exact absurd h4 (by decide)
theorem s12_deedNum {P N w : Nat} {b : Nat → Nat} {n i : Nat} {M : Mem} {Q : Int32 → Mem → Prop} (ra : RA b n i M) (hw : w ≤ 4) (hP : P < 10000) (hN : N < 10000) (h6 : M 166 6 = nI P) (h7 : M 166 7 = nI N) (h1 : tyT b n i = 3 → tyV b n i < hB P N w → ∀ M2, RA b n (i + 1) M2 → rs1 M M2 → Q (nI (tyV b n i)) M2) (h2 : ¬ tyT b n i = 3 → ∀ M2, RErr b n 1 i M M2 → Q (-1) M2) (h3 : tyT b n i = 3 → ¬ tyV b n i < hB P N w → ∀ M2, RErr b n 2 i M M2 → Q (-1) M2) : FX12_mostFor (fun r12 => FX12_readNumber Q 166 0 r12 M) 166 (nI w) M := by
  unfold FX12_mostFor
  rw [h6, h7]
  have : w = 0 ∨ w = 1 ∨ w = 2 ∨ w = 3 ∨ w = 4 := by omega
  rcases this with rfl | rfl | rfl | rfl | rfl
  · exact ⟨fun t => absurd rfl t, fun _ => s12_readNumber (lo := 0) (hi := 999) ra (by omega) (by omega) (fun a1 _ a3 => h1 a1 (show _ < 1000 by omega)) h2 (fun a1 a2 => h3 a1 (fun t => a2 ⟨Nat.zero_le _, Nat.le_of_lt_succ t⟩))⟩
  · exact ⟨fun _ => ⟨fun t => absurd rfl t, fun _ => s12_readNumber (lo := 0) (hi := 99) ra (by omega) (by omega) (fun a1 _ a3 => h1 a1 (show _ < 100 by omega)) h2 (fun a1 a2 => h3 a1 (fun t => a2 ⟨Nat.zero_le _, Nat.le_of_lt_succ t⟩))⟩, fun t => absurd t (by decide)⟩
  · exact ⟨fun _ => ⟨fun _ => ⟨fun _ => s12_numX ra hN h1 h2 h3, fun t => absurd t (by decide)⟩, fun t => absurd t (by decide)⟩, fun t => absurd t (by decide)⟩
  · exact ⟨fun _ => ⟨fun _ => ⟨fun t => absurd rfl t, fun _ => s12_numX ra hP h1 h2 h3⟩, fun t => absurd t (by decide)⟩, fun t => absurd t (by decide)⟩
  · exact ⟨fun _ => ⟨fun _ => ⟨fun _ => s12_numX ra hN h1 h2 h3, fun t => absurd t (by decide)⟩, fun t => absurd t (by decide)⟩, fun t => absurd t (by decide)⟩
/-- the end of a deed -/
theorem s12_deedE {b : Nat → Nat} {n i l : Nat} {N M : Mem} {Q : Int32 → Mem → Prop} {x : List Nat} (ra : RA b n i M) (hl : l < 16) (hf : plF l N M) (h0 : ∀ f, f < 3 → M 183 (64 + 4 * l + f) = nI (x.getD f 0)) (h3 : x.getD 3 0 < 10000) (h1 : ∀ y j M2, planM (tyT b n) (tyV b n) x i = .ok (y, j) → RA b n j M2 → plF l N M2 → (∀ f, f < 4 → M2 183 (64 + 4 * l + f) = nI (y.getD f 0)) → Q 0 M2) (h2 : ∀ f e M2, planM (tyT b n) (tyV b n) x i = .error (f, e) → RErr b n f e N M2 → Q (-1) M2) : NX12_readDeed_133 Q 166 (nI (64 + 4 * l)) (166 + 17) (nI (64 + 4 * l) + 3) (nI (x.getD 3 0)) M := by
  unfold NX12_readDeed_133
  have ea : nI (64 + 4 * l) + 3 = nI (64 + 4 * l + 3) := nI_add _ 3
  rw [ea, ixn (by omega), show SHn (166 + 17) = 128 by decide]
  have v1 : vp_in (nI (64 + 4 * l + 3)) 128 := vp_in_nI (by omega) (by omega)
  refine ⟨v1, ?_⟩
  rintro M3 rfl
  refine ⟨v1, fun _ => ?_, fun w => absurd ((xu_same M 183 _ _).symm.trans w) (m1_ne (by omega))⟩
  have ra3 := ra.put (nI (x.getD 3 0)) (sc183 (show 64 ≤ 64 + 4 * l + 3 by omega)) (by omega)
  have f3 : plF l N (xu M 183 (64 + 4 * l + 3) (nI (x.getD 3 0))) := hf.trans (plF.put _ (by omega) (by omega))
  refine s12_readMark (g := 59) ra3 (by omega) (fun q8 M5 ra5 f5 => ?_) (fun q8 M5 he => h2 1 i M5 (if_neg q8) (he.of f3.rfr))
  refine h1 x (i + 1) M5 (if_pos q8) ra5 (f3.trans f5.plF) (fun f hf4 => ?_)
  rw [f5 183 _ (fun w => by have := w.1; omega)]
  by_cases e : f = 3
  · subst e; exact xu_same _ _ _ _
  · rw [xu_at _ _ _ (by omega)]; exact h0 f (by omega)
theorem s12_readDeed {P N : Nat} {b : Nat → Nat} {n i l : Nat} {M : Mem} {Q : Int32 → Mem → Prop} (ra : RA b n i M) (hl : l < 16) (hP : P < 10000) (hN : N < 10000) (h6 : M 166 6 = nI P) (h7 : M 166 7 = nI N) (q1 : tyT b n i = 2 ∧ tyV b n i = 17) (h1 : ∀ x j M2, planP P N (tyT b n) (tyV b n) l i = .ok (x, j) → RA b n j M2 → plF l M M2 → (∀ f, f < 4 → M2 183 (64 + 4 * l + f) = nI (x.getD f 0)) → Q 0 M2) (h2 : ∀ f e M2, planP P N (tyT b n) (tyV b n) l i = .error (f, e) → RErr b n f e M M2 → Q (-1) M2) : FX12_readDeed Q 166 (nI (64 + 4 * l)) M := by
  unfold FX12_readDeed
  have ea1 : nI (64 + 4 * l) + 1 = nI (64 + 4 * l + 1) := nI_add _ 1
  have ea2 : nI (64 + 4 * l) + 2 = nI (64 + 4 * l + 2) := nI_add _ 2
  rw [ea1, ea2, ixn (show 64 + 4 * l < 2 ^ 31 by omega), ixn (show 64 + 4 * l + 1 < 2 ^ 31 by omega), ixn (show 64 + 4 * l + 2 < 2 ^ 31 by omega)]
  have v0 : vp_in (nI (64 + 4 * l)) 128 := vp_in_nI (by omega) (by omega)
  have v1 : vp_in (nI (64 + 4 * l + 1)) 128 := vp_in_nI (by omega) (by omega)
  have v2 : vp_in (nI (64 + 4 * l + 2)) 128 := vp_in_nI (by omega) (by omega)
  have bad : ∀ (t f e : Nat) (M2 : Mem), 64 ≤ t → planP P N (tyT b n) (tyV b n) l i = .error (f, e) → RErr b n f e M M2 → ∀ M6, M6 = xu M2 183 t (-1) → M6 183 t = -1 ∧ Q (-1) M6 := by
    rintro t f e M2 ht e1 he M6 rfl
    exact ⟨xu_same _ _ _ _, h2 f e _ e1 (he.put _ (sc183 ht) (by omega))⟩
  refine s12_readTold (g := 17) (lo := 0) (hi := 999) ra (by omega) (by omega) (by omega) (fun q => absurd q1 q) (fun _ q3 _ q4 M2 ra2 f2 => ?_) (fun _ q3 M2 he => ?_) (fun _ q3 q4 M2 he => ?_)
  rotate_left
  · refine ⟨v0, fun M6 e6 => ⟨v0, ?_⟩⟩
    have := bad (64 + 4 * l) 1 (i + 1) M2 (by omega) (planP_n1 q1 hl q3) he M6 e6
    exact ⟨fun w => absurd this.1 w, fun _ => this.2⟩
  · refine ⟨v0, fun M6 e6 => ⟨v0, ?_⟩⟩
    have := bad (64 + 4 * l) 2 (i + 1) M2 (by omega) (planP_n2 q1 hl q3 q4) he M6 e6
    exact ⟨fun w => absurd this.1 w, fun _ => this.2⟩
  refine ⟨v0, ?_⟩
  rintro M8 e8
  have hv1 := tyV_num q3
  have e8a : M8 183 (64 + 4 * l) = nI (tyV b n (i + 1)) := by rw [e8]; exact xu_same _ _ _ _
  have ra8 : RA b n (i + 2) M8 := by rw [e8]; exact ra2.put _ (sc183 (show 64 ≤ 64 + 4 * l by omega)) (by omega)
  have f8 : plF l M M8 := by rw [e8]; exact f2.plF.trans (plF.put _ (by omega) (by omega))
  refine ⟨v0, fun _ => ?_, fun w => absurd (e8a.symm.trans w) (m1_ne (by omega))⟩
  unfold NX12_readDeed_51
  have er : ¬ (tyT b n (i + 2) = 2 ∧ 18 ≤ tyV b n (i + 2) ∧ tyV b n (i + 2) ≤ 22) → FX12_errs (fun (r2 : Int32) (M1 : Mem) => Q r2 M1) 166 1 M8 := fun q => s12_errs 1 ra8 (fun M9 he => h2 1 (i + 2) M9 (planP_d q1 hl q3 q4 q) (he.of f8.rfr))
  refine ⟨fun q => er (fun w => q ((ra8.t (c := 2) (by omega)).mpr w.1)), fun q => ?_⟩
  have t2 := (ra8.t (c := 2) (by omega)).mp q
  have e15 : M8 166 15 = nI (tyV b n (i + 2)) := ra8.rd.2.2.2 (by show 2 ≤ tyT b n (i + 2); omega)
  have hv2 := tyV_le (b := b) (n := n) (i := i + 2) (by omega) (fun j hj => (ra8.bt j hj).1)
  rw [e15]
  refine s12_isIn ⟨fun w => ?_, fun w => er (fun t => of_decide_eq_false w ⟨(nI_leI (a := 18) (by omega) (by omega)).mpr t.2.1, (nI_leI (b := 22) (by omega) (by omega)).mpr t.2.2⟩)⟩
  have w' := of_decide_eq_true w
  have w1 : 18 ≤ tyV b n (i + 2) := (nI_leI (a := 18) (by omega) (by omega)).mp w'.1
  have w2 : tyV b n (i + 2) ≤ 22 := (nI_leI (b := 22) (by omega) (by omega)).mp w'.2
  rw [show nI (tyV b n (i + 2)) - 18 = nI (tyV b n (i + 2) - 18) from pk_sub (b := 18) (by omega)]
  rw [planP_k q1 hl q3 q4 ⟨t2, w1, w2⟩] at h1 h2 bad
  have hw : tyV b n (i + 2) - 18 ≤ 4 := by omega
  revert hw h1 h2 bad
  generalize tyV b n (i + 2) - 18 = ww
  intro h1 h2 bad hw
  refine s12_next ra8 (fun M10 ra10 f10 => ⟨v1, ?_⟩)
  rintro M11 e11
  have ra11 : RA b n (i + 3) M11 := by rw [e11]; exact ra10.put _ (sc183 (show 64 ≤ 64 + 4 * l + 1 by omega)) (by omega)
  have f11 : plF l M M11 := by rw [e11]; exact (f8.trans f10.plF).trans (plF.put _ (by omega) (by omega))
  have e11a : M11 183 (64 + 4 * l) = nI (tyV b n (i + 1)) := by rw [e11, xu_at _ _ _ (by omega), f10 183 _ (fun w => by have := w.1; omega)]; exact e8a
  have e11b : M11 183 (64 + 4 * l + 1) = nI ww := by rw [e11]; exact xu_same _ _ _ _
  have g6 : M11 166 6 = nI P := (f11 166 6 (fun w => by have := w.2.1; omega) (by omega)).trans h6
  have g7 : M11 166 7 = nI N := (f11 166 7 (fun w => by have := w.2.1; omega) (by omega)).trans h7
  refine s12_deedNum ra11 hw hP hN g6 g7 (fun q5 q6 M13 ra13 f13 => ⟨v2, ?_⟩) (fun q5 M13 he => ?_) (fun q5 q6 M13 he => ?_)
  rotate_left
  · refine ⟨v2, fun M15 e15 => ⟨v2, ?_⟩⟩
    have := bad (64 + 4 * l + 2) 1 (i + 3) M13 (by omega) (planE_1 q5) (he.of f11.rfr) M15 e15
    exact ⟨fun w => absurd this.1 w, fun _ => this.2⟩
  · refine ⟨v2, fun M15 e15 => ⟨v2, ?_⟩⟩
    have := bad (64 + 4 * l + 2) 2 (i + 3) M13 (by omega) (planE_2 q5 q6) (he.of f11.rfr) M15 e15
    exact ⟨fun w => absurd this.1 w, fun _ => this.2⟩
  rintro M15 e15
  have hv3 := tyV_num q5
  have ra15 : RA b n (i + 4) M15 := by rw [e15]; exact ra13.put _ (sc183 (show 64 ≤ 64 + 4 * l + 2 by omega)) (by omega)
  have f15 : plF l M M15 := by rw [e15]; exact (f11.trans f13.plF).trans (plF.put _ (by omega) (by omega))
  have e15a : M15 183 (64 + 4 * l) = nI (tyV b n (i + 1)) := by rw [e15, xu_at _ _ _ (by omega), f13 183 _ (fun w => by have := w.1; omega)]; exact e11a
  have e15b : M15 183 (64 + 4 * l + 1) = nI ww := by rw [e15, xu_at _ _ _ (by omega), f13 183 _ (fun w => by have := w.1; omega)]; exact e11b
  have e15c : M15 183 (64 + 4 * l + 2) = nI (tyV b n (i + 3)) := by rw [e15]; exact xu_same _ _ _ _
  refine ⟨v2, fun _ => ?_, fun w => absurd (e15c.symm.trans w) (m1_ne (by omega))⟩
  refine ⟨fun q7 => ?_, fun q7 => ?_⟩
  · have q7' : ¬ ww = 3 := fun t => q7 (by rw [t]; rfl)
    rw [planE_k q5 q6 q7'] at h1 h2
    exact s12_deedE (x := [tyV b n (i + 1), ww, tyV b n (i + 3), 0]) ra15 hl f15 (fun f hf => by
      have : f = 0 ∨ f = 1 ∨ f = 2 := by omega
      rcases this with rfl | rfl | rfl
      · exact e15a
      · exact e15b
      · exact e15c) (by show 0 < 10000; decide) h1 h2
  · have q7' : ww = 3 := (nI_eq (b := 3) (by omega) (by omega)).mp q7
    subst q7'
    have p3 : ∀ y, planE P N (tyT b n) (tyV b n) (tyV b n (i + 1)) 3 (i + 3) = y ↔ (if tyT b n (i + 3 + 1) = 3 then (if 1 ≤ tyV b n (i + 3 + 1) ∧ tyV b n (i + 3 + 1) ≤ 99 then planM (tyT b n) (tyV b n) [tyV b n (i + 1), 3, tyV b n (i + 3), tyV b n (i + 3 + 1)] (i + 3 + 2) else .error (2, i + 3 + 1)) else .error (1, i + 3 + 1)) = y := by
      intro y
      unfold planE
      rw [if_pos q5, if_pos q6, if_pos rfl]
    have bad2 : ∀ (f e : Nat) (M16 : Mem), planE P N (tyT b n) (tyV b n) (tyV b n (i + 1)) 3 (i + 3) = .error (f, e) → RErr b n f e M15 M16 → NX12_readDeed_133 Q 166 (nI (64 + 4 * l)) (166 + 17) (nI (64 + 4 * l) + 3) (-1) M16 := by
      intro f e M16 e1 he
      unfold NX12_readDeed_133
      have ea : nI (64 + 4 * l) + 3 = nI (64 + 4 * l + 3) := nI_add _ 3
      rw [ea, ixn (by omega), show SHn (166 + 17) = 128 by decide]
      have v3 : vp_in (nI (64 + 4 * l + 3)) 128 := vp_in_nI (by omega) (by omega)
      refine ⟨v3, fun M3 e3 => ⟨v3, ?_⟩⟩
      have := bad (64 + 4 * l + 3) f e M16 (by omega) e1 (he.of f15.rfr) M3 e3
      exact ⟨fun w => absurd this.1 w, fun _ => this.2⟩
    refine s12_readNumber (lo := 1) (hi := 99) ra15 (by omega) (by omega) (fun q8 q9 q10 M16 ra16 f16 => ?_) (fun q8 M16 he => bad2 1 (i + 3 + 1) M16 ((p3 _).mpr (if_neg q8)) he) (fun q8 q9 M16 he => bad2 2 (i + 3 + 1) M16 ((p3 _).mpr (by rw [if_pos (show tyT b n (i + 3 + 1) = 3 from q8), if_neg (show ¬ (1 ≤ tyV b n (i + 3 + 1) ∧ tyV b n (i + 3 + 1) ≤ 99) from q9)])) he)
    have hv4 := tyV_num q8
    have p4 : planE P N (tyT b n) (tyV b n) (tyV b n (i + 1)) 3 (i + 3) = planM (tyT b n) (tyV b n) [tyV b n (i + 1), 3, tyV b n (i + 3), tyV b n (i + 4)] (i + 5) := (p3 _).mpr (by rw [if_pos (show tyT b n (i + 3 + 1) = 3 from q8), if_pos (show 1 ≤ tyV b n (i + 3 + 1) ∧ tyV b n (i + 3 + 1) ≤ 99 from ⟨q9, q10⟩)])
    rw [p4] at h1 h2
    exact s12_deedE (x := [tyV b n (i + 1), 3, tyV b n (i + 3), tyV b n (i + 4)]) ra16 hl (f15.trans f16.plF) (fun f hf => by
      have : f = 0 ∨ f = 1 ∨ f = 2 := by omega
      rcases this with rfl | rfl | rfl
      · exact (f16 183 _ (fun w => by have := w.1; omega)).trans e15a
      · exact (f16 183 _ (fun w => by have := w.1; omega)).trans e15b
      · exact (f16 183 _ (fun w => by have := w.1; omega)).trans e15c) (by show tyV b n (i + 4) < 10000; exact hv4) h1 h2
def plR (L : List (List Nat)) (M : Mem) : Prop := ∀ j, j < L.length → ∀ f, f < 4 → M 183 (64 + 4 * j + f) = rw_ L j f
theorem s12_readPlan {P N : Nat} (hP : P < 10000) (hN : N < 10000) {b : Nat → Nat} {n : Nat} {M : Mem} {Q : Int32 → Mem → Prop} (ra : RA b n 0 M) (h6 : M 166 6 = nI P) (h7 : M 166 7 = nI N) (h1 : ∀ L M2, pAll (tyT b n) (planP P N (tyT b n) (tyV b n)) 18 0 [] = .ok L → L.length ≤ 16 → plR L M2 → rfr M M2 → Q (nI L.length) M2) (h2 : ∀ f e M2, pAll (tyT b n) (planP P N (tyT b n) (tyV b n)) 18 0 [] = .error (f, e) → RErr b n f e M M2 → Q (-1) M2) : FX12_readPlan Q 166 M := by
  unfold FX12_readPlan NX12_readPlan_2
  have stp : ∀ (B : Int32 × Mem → Prop) (L : List (List Nat)) (i r : Nat) (N0 : Mem), L.length ≤ 16 → RA b n i N0 → plR L N0 → pAll (tyT b n) (planP P N (tyT b n) (tyV b n)) (r + 1) i L = pAll (tyT b n) (planP P N (tyT b n) (tyV b n)) 18 0 [] → rfr M N0 → (∀ x j M2, L.length < 16 → RA b n j M2 → rfr M M2 → plR (L ++ [x]) M2 → pAll (tyT b n) (planP P N (tyT b n) (tyV b n)) r j (L ++ [x]) = pAll (tyT b n) (planP P N (tyT b n) (tyV b n)) 18 0 [] → B (nI (L.length + 1), M2)) → lbX12_readPlan_2 Q 166 (fun l1 M => B (l1, M)) (nI L.length) N0 := by
    intro B L i r N0 hL ra hR hp hf hB
    unfold lbX12_readPlan_2
    have err : ∀ f e M2, ¬ tyT b n i = 0 → planP P N (tyT b n) (tyV b n) L.length i = .error (f, e) → RErr b n f e N0 M2 → Q (-1) M2 := fun f e M2 hz e1 he => h2 f e M2 (hp ▸ pAll_e hz e1) (he.of hf)
    refine s12_isWord (g := 17) ra (by omega) (fun q1 => ⟨fun w => (by cases w), fun _ => ?_⟩) (fun q => ⟨fun _ => ⟨fun w => ?_, fun w => ?_⟩, fun w => (by cases w)⟩)
    rotate_left
    · have hz : ¬ tyT b n i = 0 := fun w2 => w ((ra.t (c := 0) (by omega)).mpr w2)
      exact s12_errs 1 ra (fun M2 he => err 1 i M2 hz (planP_1 q) he)
    · have hz := (ra.t (c := 0) (by omega)).mp w
      exact h1 L N0 (hp ▸ pAll_0 hz) hL hR hf
    have hz : ¬ tyT b n i = 0 := by rw [q1.1]; decide
    refine ⟨fun q => ?_, fun q => ?_⟩
    rotate_left
    · have hl : L.length = 16 := (nI_eq (b := 16) (by omega) (by omega)).mp q
      exact s12_errs 3 ra (fun M2 he => err 3 i M2 hz (planP_3 q1 (by omega)) he)
    have q2 : L.length < 16 := by
      have : L.length ≠ 16 := fun w => q (by rw [w]; rfl)
      omega
    have ea : (64 : Int32) + 4 * nI L.length = nI (64 + 4 * L.length) := by
      rw [show (4 : Int32) * nI L.length = nI (4 * L.length) from pk_mul 4 _]; exact nI_add 64 _
    rw [ea]
    refine s12_readDeed ra q2 hP hN ((hf 166 6 (Or.inl rfl)).trans h6) ((hf 166 7 (Or.inl rfl)).trans h7) q1 (fun x j M2 e1 ra2 f2 m2 => ⟨fun _ => ?_, fun w => absurd w (by decide)⟩) (fun f e M2 e1 he => ⟨fun w => absurd rfl w, fun _ => err f e M2 hz e1 he⟩)
    rw [nI_1]
    refine hB x j M2 q2 ra2 (hf.trans f2.rfr) (fun t ht f hf4 => ?_) ((pAll_k hz e1).symm.trans hp)
    rw [List.length_append] at ht
    by_cases hjl : t = L.length
    · subst hjl
      rw [rw_new]
      exact m2 f hf4
    · have hj2 : t < L.length := by simp at ht; omega
      rw [rw_old _ hj2, f2 183 _ (fun w => by have := w.1; omega) (fun w => by omega)]
      exact hR t hj2 f hf4
  refine xlp_for (fun r (a : Int32 × Mem) => ∃ (L : List (List Nat)) (i : Nat), L.length + r = 16 ∧ a.1 = nI L.length ∧ RA b n i a.2 ∧ plR L a.2 ∧ pAll (tyT b n) (planP P N (tyT b n) (tyV b n)) (r + 2) i L = pAll (tyT b n) (planP P N (tyT b n) (tyV b n)) 18 0 [] ∧ rfr M a.2) ?_ ?_ 16 _ ⟨[], 0, rfl, rfl, ra, fun j hj => absurd hj (by simp), rfl, fun _ _ _ => rfl⟩
  · rintro ⟨a, N0⟩ B ⟨L, i, hr, ha, ra, hRL, hp, hf⟩
    have ha' : a = nI L.length := ha
    subst ha'
    exact stp B L i 1 N0 (by omega) ra hRL hp hf (fun x j M2 hlt => absurd hlt (by omega))
  · rintro r ⟨a, N0⟩ B ⟨L, i, hr, ha, ra, hRL, hp, hf⟩ hB
    have ha' : a = nI L.length := ha
    subst ha'
    exact stp B L i (r + 2) N0 (by omega) ra hRL hp hf (fun x j M2 hlt ra2 f2 r2 hp2 => hB _ ⟨L ++ [x], j, by simp; omega, by simp, ra2, r2, hp2, f2⟩)
