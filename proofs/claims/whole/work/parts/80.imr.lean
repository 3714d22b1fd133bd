/-! image: the reference -/
section IMG
variable {V M0 : Mem} {tk : Bool}
theorem im_law2 {Q : Mem → Prop} {M : Mem} (hV : V 166 46 = if tk = true then 1 else 0) (hR : RV (IMs tk V 934) M) (hL : LO M0 M) (h : ∀ M', RV (IMs tk V 1734) M' → LO M0 M' → Q M') : NX12_keepsLaw_96 Q 166 0 M := by
  unfold NX12_keepsLaw_96
  refine xlp_for (fun r (a : Int32 × Mem) => ∃ k, k + r = 400 ∧ a.1 = nI k ∧ RV (IMs tk V (934 + 2 * k)) a.2 ∧ LO M0 a.2) ?_ ?_ 400 (0, M) ⟨0, rfl, rfl, hR, hL⟩
  · rintro ⟨x, M1⟩ B ⟨k, hk, hx, r1, l1⟩
    have hx : x = nI k := hx
    subst hx
    have : k = 400 := by omega
    subst this
    show lbX12_keepsLaw_96 Q 166 (fun l M => B (l, M)) (nI 400) M1
    unfold lbX12_keepsLaw_96
    exact ⟨fun _ => h M1 r1 l1, fun q => absurd (by decide) q⟩
  · rintro r ⟨x, M1⟩ B ⟨k, hk, hx, r1, l1⟩ hB
    have hx : x = nI k := hx
    subst hx
    have r1 : RV (IMs tk V (934 + 2 * k)) M1 := r1
    have l1 : LO M0 M1 := l1
    show lbX12_keepsLaw_96 Q 166 (fun l M => B (l, M)) (nI k) M1
    unfold lbX12_keepsLaw_96
    rw [ixn (by omega), nI_1]
    refine ⟨fun q => absurd q (nI_ge (b := 400) (by omega) (by decide)), fun _ => ?_⟩
    refine ⟨vp_in_nI (by omega) (by decide), s12_keeps1 (c := 179) (i := k) (k := 934 + 2 * k) hV (by omega) (by rw [locN_179 (by omega)]) (by decide) (by decide) (by decide) r1 l1 (fun v0 N0 r0' l0' => ⟨vp_in_nI (by omega) (by decide), ?_⟩)⟩
    rintro K0 rfl
    refine ⟨vp_in_nI (by omega) (by decide), s12_keeps1 (c := 180) (i := k) (k := 934 + 2 * k + 1) hV (by omega) (by rw [locN_180 (by omega)]; omega) (by decide) (by decide) (by decide) r0' l0' (fun v1 N1 r1' l1' => ⟨vp_in_nI (by omega) (by decide), ?_⟩)⟩
    rintro K1 rfl
    refine hB _ ⟨k + 1, by omega, rfl, ?_, l1'⟩
    have e : 934 + 2 * k + 1 + 1 = 934 + 2 * (k + 1) := by omega
    rw [e] at r1'
    exact r1'
theorem im_law1 {Q : Mem → Prop} {M : Mem} (hV : V 166 46 = if tk = true then 1 else 0) (hR : RV (IMs tk V 870) M) (hL : LO M0 M) (h : ∀ M', RV (IMs tk V 934) M' → LO M0 M' → NX12_keepsLaw_96 Q 166 0 M') : NX12_keepsLaw_18 Q 166 0 M := by
  unfold NX12_keepsLaw_18
  refine xlp_for (fun r (a : Int32 × Mem) => ∃ k, k + r = 16 ∧ a.1 = nI k ∧ RV (IMs tk V (870 + 4 * k)) a.2 ∧ LO M0 a.2) ?_ ?_ 16 (0, M) ⟨0, rfl, rfl, hR, hL⟩
  · rintro ⟨x, M1⟩ B ⟨k, hk, hx, r1, l1⟩
    have hx : x = nI k := hx
    subst hx
    have : k = 16 := by omega
    subst this
    show lbX12_keepsLaw_18 Q 166 (fun l M => B (l, M)) (nI 16) M1
    unfold lbX12_keepsLaw_18
    exact ⟨fun _ => h M1 r1 l1, fun q => absurd (by decide) q⟩
  · rintro r ⟨x, M1⟩ B ⟨k, hk, hx, r1, l1⟩ hB
    have hx : x = nI k := hx
    subst hx
    have r1 : RV (IMs tk V (870 + 4 * k)) M1 := r1
    have l1 : LO M0 M1 := l1
    show lbX12_keepsLaw_18 Q 166 (fun l M => B (l, M)) (nI k) M1
    unfold lbX12_keepsLaw_18
    rw [ixn (by omega), nI_1]
    refine ⟨fun q => absurd q (nI_ge (b := 16) (by omega) (by decide)), fun _ => ?_⟩
    refine ⟨vp_in_nI (by omega) (by decide), s12_keeps1 (c := 175) (i := k) (k := 870 + 4 * k) hV (by omega) (by rw [locN_175 (by omega)]) (by decide) (by decide) (by decide) r1 l1 (fun v0 N0 r0' l0' => ⟨vp_in_nI (by omega) (by decide), ?_⟩)⟩
    rintro K0 rfl
    refine ⟨vp_in_nI (by omega) (by decide), s12_keeps1 (c := 176) (i := k) (k := 870 + 4 * k + 1) hV (by omega) (by rw [locN_176 (by omega)]; omega) (by decide) (by decide) (by decide) r0' l0' (fun v1 N1 r1' l1' => ⟨vp_in_nI (by omega) (by decide), ?_⟩)⟩
    rintro K1 rfl
    refine ⟨vp_in_nI (by omega) (by decide), s12_keeps1 (c := 177) (i := k) (k := 870 + 4 * k + 2) hV (by omega) (by rw [locN_177 (by omega)]; omega) (by decide) (by decide) (by decide) r1' l1' (fun v2 N2 r2' l2' => ⟨vp_in_nI (by omega) (by decide), ?_⟩)⟩
    rintro K2 rfl
    refine ⟨vp_in_nI (by omega) (by decide), s12_keeps1 (c := 178) (i := k) (k := 870 + 4 * k + 3) hV (by omega) (by rw [locN_178 (by omega)]; omega) (by decide) (by decide) (by decide) r2' l2' (fun v3 N3 r3' l3' => ⟨vp_in_nI (by omega) (by decide), ?_⟩)⟩
    rintro K3 rfl
    refine hB _ ⟨k + 1, by omega, rfl, ?_, l3'⟩
    have e : 870 + 4 * k + 3 + 1 = 870 + 4 * (k + 1) := by omega
    rw [e] at r3'
    exact r3'
theorem im_law {Q : Mem → Prop} {M : Mem} (hV : V 166 46 = if tk = true then 1 else 0) (hR : RV (IMs tk V 869) M) (hL : LO M0 M) (h : ∀ M', RV (IMs tk V 1734) M' → LO M0 M' → Q M') : FX12_keepsLaw Q 166 M := by
  unfold FX12_keepsLaw
  refine s12_keeps1 (c := 174) (i := 0) (k := 869) hV (by decide) rfl (by decide) (by decide) (by decide) hR hL (fun v N r1 l1 => ?_)
  rintro K rfl
  exact im_law1 hV r1 l1 (fun M1 r2 l2 => im_law2 hV r2 l2 h)
theorem im_t4 {Q : Mem → Prop} {M : Mem} (hV : V 166 46 = if tk = true then 1 else 0) (hR : RV (IMs tk V 205) M) (hL : LO M0 M) (h : ∀ M', RV (IMs tk V 269) M' → LO M0 M' → Q M') : NX12_keepsTold_196 Q 166 0 M := by
  unfold NX12_keepsTold_196
  refine xlp_for (fun r (a : Int32 × Mem) => ∃ k, k + r = 64 ∧ a.1 = nI k ∧ RV (IMs tk V (205 + k)) a.2 ∧ LO M0 a.2) ?_ ?_ 64 (0, M) ⟨0, rfl, rfl, hR, hL⟩
  · rintro ⟨x, M1⟩ B ⟨k, hk, hx, r1, l1⟩
    have hx : x = nI k := hx
    subst hx
    have : k = 64 := by omega
    subst this
    show lbX12_keepsTold_196 Q 166 (fun l M => B (l, M)) (nI 64) M1
    unfold lbX12_keepsTold_196
    exact ⟨fun _ => h M1 r1 l1, fun q => absurd (by decide) q⟩
  · rintro r ⟨x, M1⟩ B ⟨k, hk, hx, r1, l1⟩ hB
    have hx : x = nI k := hx
    subst hx
    have r1 : RV (IMs tk V (205 + k)) M1 := r1
    have l1 : LO M0 M1 := l1
    show lbX12_keepsTold_196 Q 166 (fun l M => B (l, M)) (nI k) M1
    unfold lbX12_keepsTold_196
    rw [ixn (by omega), nI_1]
    refine ⟨fun q => absurd q (nI_ge (b := 64) (by omega) (by decide)), fun _ => ?_⟩
    refine ⟨vp_in_nI (by omega) (by decide), s12_keeps1 (c := 183) (i := k) (k := 205 + k) hV (by omega) (by rw [locN_183 (by omega)]) (by decide) (by decide) (by decide) r1 l1 (fun v0 N0 r0' l0' => ⟨vp_in_nI (by omega) (by decide), ?_⟩)⟩
    rintro K0 rfl
    refine hB _ ⟨k + 1, by omega, rfl, ?_, l0'⟩
    have e : 205 + k + 1 = 205 + (k + 1) := by omega
    rw [e] at r0'
    exact r0'
theorem im_t3 {Q : Mem → Prop} {M : Mem} (hV : V 166 46 = if tk = true then 1 else 0) (hR : RV (IMs tk V 141) M) (hL : LO M0 M) (h : ∀ M', RV (IMs tk V 205) M' → LO M0 M' → NX12_keepsTold_196 Q 166 0 M') : NX12_keepsTold_150 Q 166 0 M := by
  unfold NX12_keepsTold_150
  refine xlp_for (fun r (a : Int32 × Mem) => ∃ k, k + r = 32 ∧ a.1 = nI k ∧ RV (IMs tk V (141 + 2 * k)) a.2 ∧ LO M0 a.2) ?_ ?_ 32 (0, M) ⟨0, rfl, rfl, hR, hL⟩
  · rintro ⟨x, M1⟩ B ⟨k, hk, hx, r1, l1⟩
    have hx : x = nI k := hx
    subst hx
    have : k = 32 := by omega
    subst this
    show lbX12_keepsTold_150 Q 166 (fun l M => B (l, M)) (nI 32) M1
    unfold lbX12_keepsTold_150
    exact ⟨fun _ => h M1 r1 l1, fun q => absurd (by decide) q⟩
  · rintro r ⟨x, M1⟩ B ⟨k, hk, hx, r1, l1⟩ hB
    have hx : x = nI k := hx
    subst hx
    have r1 : RV (IMs tk V (141 + 2 * k)) M1 := r1
    have l1 : LO M0 M1 := l1
    show lbX12_keepsTold_150 Q 166 (fun l M => B (l, M)) (nI k) M1
    unfold lbX12_keepsTold_150
    rw [ixn (by omega), nI_1]
    refine ⟨fun q => absurd q (nI_ge (b := 32) (by omega) (by decide)), fun _ => ?_⟩
    refine ⟨vp_in_nI (by omega) (by decide), s12_keeps1 (c := 182) (i := k) (k := 141 + 2 * k) hV (by omega) (by rw [locN_182 (by omega)]) (by decide) (by decide) (by decide) r1 l1 (fun v0 N0 r0' l0' => ⟨vp_in_nI (by omega) (by decide), ?_⟩)⟩
    rintro K0 rfl
    refine ⟨vp_in_nI (by omega) (by decide), s12_keeps1 (c := 184) (i := k) (k := 141 + 2 * k + 1) hV (by omega) (by rw [locN_184 (by omega)]; omega) (by decide) (by decide) (by decide) r0' l0' (fun v1 N1 r1' l1' => ⟨vp_in_nI (by omega) (by decide), ?_⟩)⟩
    rintro K1 rfl
    refine hB _ ⟨k + 1, by omega, rfl, ?_, l1'⟩
    have e : 141 + 2 * k + 1 + 1 = 141 + 2 * (k + 1) := by omega
    rw [e] at r1'
    exact r1'
theorem im_t2 {Q : Mem → Prop} {M : Mem} (hV : V 166 46 = if tk = true then 1 else 0) (hR : RV (IMs tk V 127) M) (hL : LO M0 M) (h : ∀ M', RV (IMs tk V 141) M' → LO M0 M' → NX12_keepsTold_150 Q 166 0 M') : NX12_keepsTold_104 Q 166 0 M := by
  unfold NX12_keepsTold_104
  refine xlp_for (fun r (a : Int32 × Mem) => ∃ k, k + r = 7 ∧ a.1 = nI k ∧ RV (IMs tk V (127 + 2 * k)) a.2 ∧ LO M0 a.2) ?_ ?_ 7 (0, M) ⟨0, rfl, rfl, hR, hL⟩
  · rintro ⟨x, M1⟩ B ⟨k, hk, hx, r1, l1⟩
    have hx : x = nI k := hx
    subst hx
    have : k = 7 := by omega
    subst this
    show lbX12_keepsTold_104 Q 166 (fun l M => B (l, M)) (nI 7) M1
    unfold lbX12_keepsTold_104
    exact ⟨fun _ => h M1 r1 l1, fun q => absurd (by decide) q⟩
  · rintro r ⟨x, M1⟩ B ⟨k, hk, hx, r1, l1⟩ hB
    have hx : x = nI k := hx
    subst hx
    have r1 : RV (IMs tk V (127 + 2 * k)) M1 := r1
    have l1 : LO M0 M1 := l1
    show lbX12_keepsTold_104 Q 166 (fun l M => B (l, M)) (nI k) M1
    unfold lbX12_keepsTold_104
    rw [ixn (by omega), nI_1]
    refine ⟨fun q => absurd q (nI_ge (b := 7) (by omega) (by decide)), fun _ => ?_⟩
    refine ⟨vp_in_nI (by omega) (by decide), s12_keeps1 (c := 187) (i := k) (k := 127 + 2 * k) hV (by omega) (by rw [locN_187 (by omega)]) (by decide) (by decide) (by decide) r1 l1 (fun v0 N0 r0' l0' => ⟨vp_in_nI (by omega) (by decide), ?_⟩)⟩
    rintro K0 rfl
    refine ⟨vp_in_nI (by omega) (by decide), s12_keeps1 (c := 188) (i := k) (k := 127 + 2 * k + 1) hV (by omega) (by rw [locN_188 (by omega)]; omega) (by decide) (by decide) (by decide) r0' l0' (fun v1 N1 r1' l1' => ⟨vp_in_nI (by omega) (by decide), ?_⟩)⟩
    rintro K1 rfl
    refine hB _ ⟨k + 1, by omega, rfl, ?_, l1'⟩
    have e : 127 + 2 * k + 1 + 1 = 127 + 2 * (k + 1) := by omega
    rw [e] at r1'
    exact r1'
theorem im_t1 {Q : Mem → Prop} {M : Mem} (hV : V 166 46 = if tk = true then 1 else 0) (hR : RV (IMs tk V 113) M) (hL : LO M0 M) (h : ∀ M', RV (IMs tk V 127) M' → LO M0 M' → NX12_keepsTold_104 Q 166 0 M') : NX12_keepsTold_74 Q 166 0 M := by
  unfold NX12_keepsTold_74
  refine xlp_for (fun r (a : Int32 × Mem) => ∃ k, k + r = 14 ∧ a.1 = nI k ∧ RV (IMs tk V (113 + k)) a.2 ∧ LO M0 a.2) ?_ ?_ 14 (0, M) ⟨0, rfl, rfl, hR, hL⟩
  · rintro ⟨x, M1⟩ B ⟨k, hk, hx, r1, l1⟩
    have hx : x = nI k := hx
    subst hx
    have : k = 14 := by omega
    subst this
    show lbX12_keepsTold_74 Q 166 (fun l M => B (l, M)) (nI 14) M1
    unfold lbX12_keepsTold_74
    exact ⟨fun _ => h M1 r1 l1, fun q => absurd (by decide) q⟩
  · rintro r ⟨x, M1⟩ B ⟨k, hk, hx, r1, l1⟩ hB
    have hx : x = nI k := hx
    subst hx
    have r1 : RV (IMs tk V (113 + k)) M1 := r1
    have l1 : LO M0 M1 := l1
    show lbX12_keepsTold_74 Q 166 (fun l M => B (l, M)) (nI k) M1
    unfold lbX12_keepsTold_74
    rw [ixn (by omega), nI_1]
    refine ⟨fun q => absurd q (nI_ge (b := 14) (by omega) (by decide)), fun _ => ?_⟩
    refine ⟨vp_in_nI (by omega) (by decide), s12_keeps1 (c := 170) (i := k) (k := 113 + k) hV (by omega) (by rw [locN_170 (by omega)]) (by decide) (by decide) (by decide) r1 l1 (fun v0 N0 r0' l0' => ⟨vp_in_nI (by omega) (by decide), ?_⟩)⟩
    rintro K0 rfl
    refine hB _ ⟨k + 1, by omega, rfl, ?_, l0'⟩
    have e : 113 + k + 1 = 113 + (k + 1) := by omega
    rw [e] at r0'
    exact r0'
theorem im_told {Q : Mem → Prop} {M : Mem} (hV : V 166 46 = if tk = true then 1 else 0) (hR : RV (IMs tk V 107) M) (hL : LO M0 M) (h : ∀ M', RV (IMs tk V 269) M' → LO M0 M' → Q M') : FX12_keepsTold Q 166 M := by
  unfold FX12_keepsTold
  refine s12_keeps1 (c := 166) (i := 6) (k := 107) hV (by decide) rfl (by decide) (by decide) (by decide) hR hL (fun v0 N0 r0 l0 => ?_)
  rintro K0 rfl
  refine s12_keeps1 (c := 166) (i := 7) (k := 108) hV (by decide) rfl (by decide) (by decide) (by decide) r0 l0 (fun v1 N1 r1 l1 => ?_)
  rintro K1 rfl
  refine s12_keeps1 (c := 166) (i := 33) (k := 109) hV (by decide) rfl (by decide) (by decide) (by decide) r1 l1 (fun v2 N2 r2 l2 => ?_)
  rintro K2 rfl
  refine s12_keeps1 (c := 166) (i := 35) (k := 110) hV (by decide) rfl (by decide) (by decide) (by decide) r2 l2 (fun v3 N3 r3 l3 => ?_)
  rintro K3 rfl
  refine s12_keeps1 (c := 166) (i := 37) (k := 111) hV (by decide) rfl (by decide) (by decide) (by decide) r3 l3 (fun v4 N4 r4 l4 => ?_)
  rintro K4 rfl
  refine s12_keeps1 (c := 166) (i := 41) (k := 112) hV (by decide) rfl (by decide) (by decide) (by decide) r4 l4 (fun v5 N5 r5 l5 => ?_)
  rintro K5 rfl
  exact im_t1 hV r5 l5 (fun M1 q1 p1 => im_t2 hV q1 p1 (fun M2 q2 p2 => im_t3 hV q2 p2 (fun M3 q3 p3 => im_t4 hV q3 p3 h)))
theorem im_book {Q : Bool → Mem → Prop} {M : Mem} {x0 : Int32} (hV : V 166 46 = if tk = true then 1 else 0) (hR : RV (IMs tk V 269) M) (hL : LO M0 M) (h : ∀ M', RV (IMs tk V 1734) M' → LO M0 M' → ((¬ x0 = 0 → Q true M') ∧ (x0 = 0 → ∀ M2 : Mem, M2 = xu M' 166 3 0 → Q true M2))) : NX12_image_69 Q 166 x0 0 M := by
  unfold NX12_image_69
  refine xlp_for (fun r (a : Int32 × Mem) => ∃ k, k + r = 600 ∧ a.1 = nI k ∧ RV (IMs tk V (269 + k)) a.2 ∧ LO M0 a.2) ?_ ?_ 600 (0, M) ⟨0, rfl, rfl, hR, hL⟩
  · rintro ⟨x, M1⟩ B ⟨k, hk, hx, r1, l1⟩
    have hx : x = nI k := hx
    subst hx
    have : k = 600 := by omega
    subst this
    show lbX12_image_69 Q 166 x0 (fun l M => B (l, M)) (nI 600) M1
    unfold lbX12_image_69
    exact ⟨fun _ => im_law hV r1 l1 h, fun q => absurd (by decide) q⟩
  · rintro r ⟨x, M1⟩ B ⟨k, hk, hx, r1, l1⟩ hB
    have hx : x = nI k := hx
    subst hx
    have r1 : RV (IMs tk V (269 + k)) M1 := r1
    have l1 : LO M0 M1 := l1
    show lbX12_image_69 Q 166 x0 (fun l M => B (l, M)) (nI k) M1
    unfold lbX12_image_69
    rw [ixn (by omega), nI_1]
    refine ⟨fun q => absurd q (nI_ge (b := 600) (by omega) (by decide)), fun _ => ?_⟩
    refine ⟨vp_in_nI (by omega) (by decide), s12_keeps1 (c := 171) (i := k) (k := 269 + k) hV (by omega) (by rw [locN_171 (by omega)]) (by decide) (by decide) (by decide) r1 l1 (fun v0 N0 r0' l0' => ⟨vp_in_nI (by omega) (by decide), ?_⟩)⟩
    rintro K0 rfl
    refine hB _ ⟨k + 1, by omega, rfl, ?_, l0'⟩
    have e : 269 + k + 1 = 269 + (k + 1) := by omega
    rw [e] at r0'
    exact r0'
theorem im_now {Q : Bool → Mem → Prop} {M : Mem} {x0 : Int32} (hV : V 166 46 = if tk = true then 1 else 0) (hR : RV (IMs tk V 0) M) (hL : LO M0 M) (h : ∀ M', RV (IMs tk V 1734) M' → LO M0 M' → ((¬ x0 = 0 → Q true M') ∧ (x0 = 0 → ∀ M2 : Mem, M2 = xu M' 166 3 0 → Q true M2))) : NX12_image_35 Q 166 x0 0 M := by
  unfold NX12_image_35
  refine xlp_for (fun r (a : Int32 × Mem) => ∃ k, k + r = 107 ∧ a.1 = nI k ∧ RV (IMs tk V (0 + k)) a.2 ∧ LO M0 a.2) ?_ ?_ 107 (0, M) ⟨0, rfl, rfl, hR, hL⟩
  · rintro ⟨x, M1⟩ B ⟨k, hk, hx, r1, l1⟩
    have hx : x = nI k := hx
    subst hx
    have : k = 107 := by omega
    subst this
    show lbX12_image_35 Q 166 x0 (fun l M => B (l, M)) (nI 107) M1
    unfold lbX12_image_35
    exact ⟨fun _ => im_told hV r1 l1 (fun M2 r2 l2 => im_book hV r2 l2 h), fun q => absurd (by decide) q⟩
  · rintro r ⟨x, M1⟩ B ⟨k, hk, hx, r1, l1⟩ hB
    have hx : x = nI k := hx
    subst hx
    have r1 : RV (IMs tk V (0 + k)) M1 := r1
    have l1 : LO M0 M1 := l1
    show lbX12_image_35 Q 166 x0 (fun l M => B (l, M)) (nI k) M1
    unfold lbX12_image_35
    rw [ixn (by omega), nI_1]
    refine ⟨fun q => absurd q (nI_ge (b := 107) (by omega) (by decide)), fun _ => ?_⟩
    refine ⟨vp_in_nI (by omega) (by decide), s12_keeps1 (c := 167) (i := k) (k := 0 + k) hV (by omega) (by rw [locN_167 (by omega)]; omega) (by decide) (by decide) (by decide) r1 l1 (fun v0 N0 r0' l0' => ⟨vp_in_nI (by omega) (by decide), ?_⟩)⟩
    rintro K0 rfl
    refine hB _ ⟨k + 1, by omega, rfl, ?_, l0'⟩
    have e : 0 + k + 1 = 0 + (k + 1) := by omega
    rw [e] at r0'
    exact r0'
end IMG
