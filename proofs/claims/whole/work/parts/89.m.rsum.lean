/-! the reference reads a sum -/
def RCd (L : List (Nat × Nat)) (M : Mem) : Prop := M 166 25 = nI L.length ∧ ∀ j, j < L.length → M 179 (800 + j) = nI (L.getD j (0, 0)).1 ∧ M 180 (800 + j) = nI (L.getD j (0, 0)).2
/-- what stays while the reference reads sums -/
def rsl (M M2 : Mem) : Prop := ∀ c i, ¬ rdp c i → ¬ (c = 166 ∧ i = 25) → ¬ ((c = 179 ∨ c = 180) ∧ 800 ≤ i) → M2 c i = M c i
theorem rsl.refl (M : Mem) : rsl M M := fun _ _ _ _ _ => rfl
theorem rsl.trans {M M2 M3 : Mem} (h : rsl M M2) (h2 : rsl M2 M3) : rsl M M3 := fun c i a1 a2 a3 => (h2 c i a1 a2 a3).trans (h c i a1 a2 a3)
theorem rs1.rsl {M M2 : Mem} (h : rs1 M M2) : rsl M M2 := fun c i a1 _ _ => h c i a1
theorem sc179 {c i : Nat} (hc : c = 179 ∨ c = 180) (h : 800 ≤ i) : sc c i = true := by
  rcases hc with rfl | rfl
  · simp [sc, vr]; omega
  · simp [sc, vr]; omega
theorem rsl.rfr {M M2 : Mem} (h : rsl M M2) : rfr M M2 := fun c i hc => h c i (fun q => by
    rcases hc with hc | hc
    · rw [sc_rd q] at hc; cases hc
    · have := q.1; omega) (fun q => by
    rcases hc with hc | hc
    · rw [q.1, q.2] at hc; simp [sc] at hc
    · omega) (fun q => by
    rcases hc with hc | hc
    · rw [sc179 q.1 q.2] at hc; cases hc
    · omega)
/-- the reference stands at the piece i, with the codes L -/
def RZ (b : Nat → Nat) (n : Nat) (M0 : Mem) (i : Nat) (L : List (Nat × Nat)) (M : Mem) : Prop := RA b n i M ∧ RCd L M ∧ rsl M0 M
section RZS
variable {b : Nat → Nat} {n : Nat} {M0 : Mem} {i : Nat} {L : List (Nat × Nat)} {M : Mem}
theorem RCd.cg {M2 : Mem} (h : RCd L M) (f5 : M2 166 25 = M 166 25) (f : ∀ c j, (c = 179 ∨ c = 180) → M2 c j = M c j) : RCd L M2 := ⟨by rw [f5]; exact h.1, fun j hj => by rw [f 179 _ (Or.inl rfl), f 180 _ (Or.inr rfl)]; exact h.2 j hj⟩
theorem RCd.rs {M2 : Mem} (h : RCd L M) (f : rs1 M M2) : RCd L M2 := h.cg (f 166 25 (fun q => by have := q.2.2; omega)) (fun c j hc => f c j (fun q => by have := q.1; omega))
theorem RZ.mv {j : Nat} {M2 : Mem} (h : RZ b n M0 i L M) (ra : RA b n j M2) (f : rs1 M M2) : RZ b n M0 j L M2 := ⟨ra, h.2.1.rs f, h.2.2.trans f.rsl⟩
theorem s12_emits {Q : Mem → Prop} {x : Nat × Nat} (h : RZ b n M0 i L M) (hl : L.length < 400) (k : ∀ M2, RZ b n M0 i (L ++ [x]) M2 → Q M2) : FX12_emits Q 166 (nI x.1) (nI x.2) M := by
  unfold FX12_emits
  have e : (800 : Int32) + nI L.length = nI (800 + L.length) := nI_add 800 _
  rw [h.2.1.1, e]
  refine ⟨vp_in_nI (by omega) (by omega), ?_⟩
  rw [ixn (show 800 + L.length < 2 ^ 31 by omega)]
  rintro M1 rfl
  have e1 : xu M (166 + 13) (800 + L.length) (nI x.1) 166 25 = nI L.length := by rw [xu_cell _ _ _ (by decide)]; exact h.2.1.1
  rw [e1, e]
  refine ⟨vp_in_nI (by omega) (by omega), ?_⟩
  rw [ixn (show 800 + L.length < 2 ^ 31 by omega)]
  rintro M2 rfl M3 e3
  rw [xu_cell _ _ _ (show (166 : Nat) ≠ 166 + 14 by decide), e1, nI_1] at e3
  have hx : ∀ c j, M3 c j = if c = 166 ∧ j = 25 then nI (L.length + 1) else if c = 180 ∧ j = 800 + L.length then nI x.2 else if c = 179 ∧ j = 800 + L.length then nI x.1 else M c j := fun c j => by rw [e3, xu_if, xu_if, xu_if]
  have f3 : rsl M M3 := fun c j a1 a2 a3 => by rw [hx, if_neg a2, if_neg (by omega), if_neg (by omega)]
  refine k M3 ⟨h.1.mv f3.rfr (h.1.rd.cg (fun t a1 a2 => by rw [hx, if_neg (by omega), if_neg (by omega), if_neg (by omega)])), ⟨by rw [hx, if_pos ⟨rfl, rfl⟩, List.length_append]; rfl, fun j hj => ?_⟩, h.2.2.trans f3⟩
  rw [List.length_append] at hj
  by_cases hjl : j = L.length
  · subst hjl
    rw [hx, hx, getD_new, if_neg (by omega), if_neg (by omega), if_pos ⟨rfl, rfl⟩, if_neg (by omega), if_pos ⟨rfl, rfl⟩]
    exact ⟨rfl, rfl⟩
  · have hj2 : j < L.length := by simp at hj; omega
    rw [hx, hx, getD_old _ _ hj2, if_neg (by omega), if_neg (by omega), if_neg (by omega), if_neg (by omega), if_neg (by omega), if_neg (by omega)]
    exact h.2.1.2 j hj2
theorem RZ.lt4 (h : RZ b n M0 i L M) (ht : ¬ tyT b n i = 0) : i < 400 := by
  have := ty_lt ht
  have := h.1.n4
  omega
theorem untP_ty {T V : Nat → Nat} {j : Nat} {u : Nat × Nat} (h : untP T V j = some u) : ¬ T j = 0 := fun e => by
  unfold untP at h
  rw [if_neg (by omega), if_neg (by omega)] at h
  cases h
theorem s12_unit {Q : Int32 → Mem → Prop} (h : RZ b n M0 i L M) (hl : L.length ≤ i) (k : ∀ u M2, untP (tyT b n) (tyV b n) i = some u → RZ b n M0 (i + 1) (L ++ [u]) M2 → Q 0 M2) (k2 : untP (tyT b n) (tyV b n) i = none → ∀ M2, RErr b n 1 i M0 M2 → Q (-1) M2) : FX12_readUnit Q 166 M := by
  have em : ∀ u, untP (tyT b n) (tyV b n) i = some u → NX12_readUnit_71 Q 166 166 (nI u.1) (nI u.2) M := fun u hu => by
    unfold NX12_readUnit_71
    have := h.lt4 (untP_ty hu)
    refine s12_emits h (by omega) (fun M2 z => ?_)
    exact s12_next z.1 (fun M3 ra f => k u M3 hu (z.mv ra f))
  have no : ¬ (tyT b n i = 2 ∧ 7 ≤ tyV b n i ∧ tyV b n i ≤ 15) → NX12_readUnit_23 Q 166 M := fun a1 => by
    unfold NX12_readUnit_23 NX12_readUnit_24
    refine ⟨fun q => absurd rfl q, fun _ => ⟨fun q => ?_, fun q => ?_⟩⟩
    · have q3 := (h.1.t (c := 3) (by omega)).mp q
      have hu : untP (tyT b n) (tyV b n) i = some (0, tyV b n i) := by unfold untP; rw [if_neg a1, if_pos q3]
      unfold NX12_readUnit_43 NX12_readUnit_53
      refine ⟨fun _ => ⟨fun _ => ?_, fun q => absurd rfl q⟩, fun q => absurd rfl q⟩
      rw [h.1.rd.2.2.2 (by show 2 ≤ tyT b n i; omega)]
      exact em _ hu
    · have q3 : ¬ tyT b n i = 3 := fun w => q ((h.1.t (c := 3) (by omega)).mpr w)
      have hu : untP (tyT b n) (tyV b n) i = none := by unfold untP; rw [if_neg a1, if_neg q3]
      exact s12_errs 1 h.1 (fun M2 he => k2 hu M2 (he.of h.2.2.rfr))
  unfold FX12_readUnit FX12_canAsk
  refine ⟨fun q => no (fun w => q ((h.1.t (c := 2) (by omega)).mpr w.1)), fun q => ?_⟩
  have q2 := (h.1.t (c := 2) (by omega)).mp q
  have e15 : M 166 15 = nI (tyV b n i) := h.1.rd.2.2.2 (by show 2 ≤ tyT b n i; omega)
  have hv : tyV b n i < 10000 := tyV_le (by omega) (fun j hj => (h.1.bt j hj).1)
  rw [e15]
  refine s12_isIn ⟨fun w => ?_, fun w => ?_⟩
  · have w' := of_decide_eq_false w
    exact no (fun r => w' ⟨(nI_leI (a := 7) (by omega) (by omega)).mpr r.2.1, (nI_leI (b := 15) (by omega) (by omega)).mpr r.2.2⟩)
  · have w' := of_decide_eq_true w
    have v1 := (nI_leI (a := 7) (by omega) (by omega)).mp w'.1
    have v2 := (nI_leI (b := 15) (by omega) (by omega)).mp w'.2
    have hu : untP (tyT b n) (tyV b n) i = some (1, tyV b n i - 7) := if_pos ⟨q2, v1, v2⟩
    unfold NX12_readUnit_24 NX12_readUnit_43 NX12_readUnit_53
    refine ⟨fun _ => ⟨fun q => absurd q (by decide), fun _ => ⟨fun q => absurd q (by decide), fun _ => ?_⟩⟩, fun q => absurd q (by decide)⟩
    rw [e15, show nI (tyV b n i) - 7 = nI (tyV b n i - 7) from pk_sub (b := 7) v1]
    exact em _ hu
/-- a product, up to the sign that ends it; w waits -/
theorem s12_prodL {Q : Int32 → Mem → Prop} {r0 i0 w p : Nat} {A acc0 : List (Nat × Nat)} (z0 : RZ b n M0 i0 (A ++ acc0) M) (hb0 : 801 ≤ i0 + 2 * r0) (hi0 : i0 ≤ 400) (hn0 : A.length + acc0.length + p ≤ i0)
    (k : ∀ r j acc M2, r ≤ r0 → RZ b n M0 j (A ++ acc) M2 → ¬ (tyT b n j = 4 ∧ tyV b n j = 42) → ¬ (tyT b n j = 4 ∧ tyV b n j = 47) → sumL (tyT b n) (tyV b n) r j w acc = sumL (tyT b n) (tyV b n) r0 i0 w acc0 → 801 ≤ j + 2 * r → j ≤ 400 → A.length + acc.length + p ≤ j → Q 0 M2) (k2 : ∀ f e M2, sumL (tyT b n) (tyV b n) r0 i0 w acc0 = .error (f, e) → RErr b n f e M0 M2 → Q (-1) M2) : NX12_readProduct_10 Q 166 M := by
  unfold NX12_readProduct_10
  refine xlp_for (fun r (a : Mem) => ∃ (i : Nat) (acc : List (Nat × Nat)), r ≤ r0 ∧ RZ b n M0 i (A ++ acc) a ∧ sumL (tyT b n) (tyV b n) r i w acc = sumL (tyT b n) (tyV b n) r0 i0 w acc0 ∧ 801 ≤ i + 2 * r ∧ i ≤ 400 ∧ A.length + acc.length + p ≤ i) ?_ ?_ r0 _ ⟨i0, acc0, Nat.le_refl _, z0, rfl, hb0, hi0, hn0⟩
  · rintro a B ⟨i, acc, -, -, -, hb, hi, -⟩
    omega
  · rintro r N B ⟨i, acc, hr, z, hp, hb, hi, hn⟩ hB
    show lbX12_readProduct_10 Q 166 B N
    unfold lbX12_readProduct_10
    have gm : tyT b n i = 4 ∧ tyV b n i = 42 → NX12_readProduct_28 Q B 166 N := fun q42 => by
      unfold NX12_readProduct_28
      have hz : ¬ tyT b n i = 0 := by rw [q42.1]; decide
      have hi4 := z.lt4 hz
      refine s12_isSign (g := 42) z.1 (by omega) (fun _ => ?_) (fun q => absurd q42 q)
      refine s12_next z.1 (fun M1 ra1 f1 => ⟨fun _ => ?_, fun q => absurd q (by decide)⟩)
      have z1 := z.mv ra1 f1
      unfold NX12_readProduct_57 NX12_readProduct_74
      refine ⟨fun _ => ?_, fun q => absurd q (by decide)⟩
      refine s12_unit z1 (by rw [List.length_append]; omega) (fun u M2 hu z2 => ⟨fun _ => ⟨fun q => absurd q (by decide), fun _ => ?_⟩, fun q => absurd q (by decide)⟩) (fun hu M2 he => ⟨fun q => absurd rfl q, fun _ => k2 1 _ M2 (hp ▸ sumL_m0 q42 hu) he⟩)
      have hi5 := z1.lt4 (untP_ty hu)
      unfold NX12_readProduct_94
      refine s12_emits (x := (4, 0)) z2 (by simp only [List.length_append, List.length_cons, List.length_nil]; omega) (fun M3 z3 => hB _ ⟨i + 2, acc ++ [u, (4, 0)], by omega, ?_, (sumL_m q42 hu).symm.trans hp, by omega, by omega, by simp only [List.length_append, List.length_cons, List.length_nil]; omega⟩)
      rw [show A ++ (acc ++ [u, (4, 0)]) = A ++ acc ++ [u] ++ [(4, 0)] by simp]
      exact z3
    have gd : tyT b n i = 4 ∧ tyV b n i = 47 → NX12_readProduct_28 Q B 166 N := fun q47 => by
      unfold NX12_readProduct_28
      have hz : ¬ tyT b n i = 0 := by rw [q47.1]; decide
      have hi4 := z.lt4 hz
      refine s12_isSign (g := 42) z.1 (by omega) (fun q => by omega) (fun _ => ?_)
      refine s12_next z.1 (fun M1 ra1 f1 => ⟨fun q => absurd rfl q, fun _ => ⟨fun q => ?_, fun q => ?_⟩⟩)
      · have z1 := z.mv ra1 f1
        have q3 := (ra1.t (c := 3) (by omega)).mp q
        have hv := tyV_num q3
        have e15 : M1 166 15 = nI (tyV b n (i + 1)) := ra1.rd.2.2.2 (by show 2 ≤ tyT b n (i + 1); omega)
        unfold NX12_readProduct_57 NX12_readProduct_74
        refine ⟨fun q => absurd rfl q, fun _ => ⟨fun q0 => ?_, fun q0 => ?_⟩⟩
        · have h0 : ¬ tyV b n (i + 1) = 0 := fun e => q0 (by rw [e15, e]; rfl)
          have hu0 : untP (tyT b n) (tyV b n) (i + 1) = some (0, tyV b n (i + 1)) := by unfold untP; rw [if_neg (by omega), if_pos q3]
          refine s12_unit z1 (by rw [List.length_append]; omega) (fun u M2 hu z2 => ⟨fun _ => ⟨fun _ => ?_, fun q => absurd rfl q⟩, fun q => absurd q (by decide)⟩) (fun hu M2 he => by rw [hu0] at hu; cases hu)
          have hi5 := z1.lt4 (untP_ty hu)
          rw [hu0] at hu
          have hu := (Option.some.inj hu).symm
          subst hu
          unfold NX12_readProduct_94
          refine s12_emits (x := (5, 0)) z2 (by simp only [List.length_append, List.length_cons, List.length_nil]; omega) (fun M3 z3 => hB _ ⟨i + 2, acc ++ [(0, tyV b n (i + 1)), (5, 0)], by omega, ?_, (sumL_d q47 q3 h0).symm.trans hp, by omega, by omega, by simp only [List.length_append, List.length_cons, List.length_nil]; omega⟩)
          rw [show A ++ (acc ++ [(0, tyV b n (i + 1)), (5, 0)]) = A ++ acc ++ [(0, tyV b n (i + 1))] ++ [(5, 0)] by simp]
          exact z3
        · have h0 : tyV b n (i + 1) = 0 := by
            rw [e15] at q0
            exact (nI_eq (b := 0) (by omega) (by omega)).mp q0
          exact s12_errs 2 ra1 (fun M2 he => k2 2 _ M2 (hp ▸ sumL_d2 q47 q3 h0) (he.of (z.2.2.rfr.trans f1.rfr)))
      · have q3 : ¬ tyT b n (i + 1) = 3 := fun w => q ((ra1.t (c := 3) (by omega)).mpr w)
        exact s12_errs 1 ra1 (fun M2 he => k2 1 _ M2 (hp ▸ sumL_d1 q47 q3) (he.of (z.2.2.rfr.trans f1.rfr)))
    refine s12_isSign (g := 42) z.1 (by omega) (fun q => ⟨fun _ => gm q, fun w => (by cases w)⟩) (fun q42 => ⟨fun w => (by cases w), fun _ => ?_⟩)
    exact s12_isSign (g := 47) z.1 (by omega) (fun q => ⟨fun w => (by cases w), fun _ => gd q⟩) (fun q47 => ⟨fun _ => k (r + 1) i acc N hr z q42 q47 hp hb hi hn, fun w => (by cases w)⟩)
theorem s12_sum {Q : Int32 → Mem → Prop} (h : RZ b n M0 i L M) (hl : L.length ≤ i) (k : ∀ cs j M2, sumP (tyT b n) (tyV b n) i = .ok (cs, j) → j ≤ 400 → RZ b n M0 j (L ++ cs) M2 → Q 0 M2) (k2 : ∀ f e M2, sumP (tyT b n) (tyV b n) i = .error (f, e) → RErr b n f e M0 M2 → Q (-1) M2) : FX12_readSum Q 166 M := by
  unfold FX12_readSum FX12_readProduct
  refine s12_unit h hl (fun u M1 hu z1 => ⟨fun _ => ?_, fun q => absurd q (by decide)⟩) (fun hu M2 he => ⟨fun q => absurd rfl q, fun _ => ⟨fun q => absurd rfl q, fun _ => k2 1 i M2 (sumP_e hu) he⟩⟩)
  have hi := h.lt4 (untP_ty hu)
  refine s12_prodL (r0 := 400) (w := 0) (p := 0) (A := L) (acc0 := [u]) z1 (by omega) (by omega) (by simp only [List.length_cons, List.length_nil]; omega) (fun r0 i0 acc0 M2 hr0 z2 n42 n47 hp0 hb0 hi0 hn0 => ⟨fun _ => ?_, fun q => absurd q (by decide)⟩) (fun f e M2 hs he => ⟨fun q => absurd rfl q, fun _ => k2 f e M2 ((sumP_k hu).trans hs) he⟩)
  unfold NX12_readSum_10
  refine xlp_for (fun r (a : Mem) => ∃ (r1 i' w : Nat) (acc : List (Nat × Nat)), r1 ≤ r ∧ RZ b n M0 i' (L ++ pdw w acc) a ∧ ¬ (tyT b n i' = 4 ∧ tyV b n i' = 42) ∧ ¬ (tyT b n i' = 4 ∧ tyV b n i' = 47) ∧ sumL (tyT b n) (tyV b n) r1 i' w acc = sumP (tyT b n) (tyV b n) i ∧ 801 ≤ i' + 2 * r1 ∧ i' ≤ 400 ∧ L.length + acc.length + wn w ≤ i') ?_ ?_ 400 _ ⟨r0, i0, 0, acc0, hr0, z2, n42, n47, hp0.trans (sumP_k hu).symm, hb0, hi0, hn0⟩
  · rintro a B ⟨r1, i', w, acc, hr1, -, -, -, -, hb, hi, -⟩
    omega
  · rintro r N B ⟨r1, i', w, acc, hr1, z, n42, n47, hp, hb, hi, hn⟩ hB
    obtain ⟨r2, rfl⟩ : ∃ r2, r1 = r2 + 1 := ⟨r1 - 1, by omega⟩
    show lbX12_readSum_10 Q 166 B N
    unfold lbX12_readSum_10
    have go : ∀ w2 v, (w2 = 2 ∧ v = 43) ∨ (w2 = 3 ∧ v = 45) → tyT b n i' = 4 ∧ tyV b n i' = v → NX12_readSum_42 Q B 166 (nI w2) N := by
      intro w2 v hv qv
      unfold NX12_readSum_42 FX12_readProduct
      have hi4 := z.lt4 (by rw [qv.1]; decide)
      refine s12_next z.1 (fun M1 ra1 f1 => ?_)
      have z1 := z.mv ra1 f1
      refine s12_unit z1 (by rw [List.length_append, pdw_len]; omega) (fun u M2 hu z2 => ⟨fun _ => ?_, fun q => absurd q (by decide)⟩) (fun hu M2 he => ⟨fun q => absurd rfl q, fun _ => ⟨fun q => absurd rfl q, fun _ => k2 1 _ M2 (hp ▸ sumL_p0 ⟨qv.1, by omega⟩ hu) he⟩⟩)
      have hi5 := z1.lt4 (untP_ty hu)
      have hp2 : sumL (tyT b n) (tyV b n) r2 (i' + 2) w2 (pdw w acc ++ [u]) = sumP (tyT b n) (tyV b n) i := by
        rcases hv with ⟨rfl, rfl⟩ | ⟨rfl, rfl⟩
        · exact (sumL_p qv hu).symm.trans hp
        · exact (sumL_s qv hu).symm.trans hp
      have e0 : ∀ ac, pdw w2 ac = ac ++ [(w2, 0)] := fun ac => if_neg (by omega)
      have e3 : wn w2 = 1 := if_neg (by omega)
      refine s12_prodL (r0 := r2) (w := w2) (p := 1) (A := L) (acc0 := pdw w acc ++ [u]) (by rw [← List.append_assoc]; exact z2) (by omega) (by omega) (by simp only [List.length_append, List.length_cons, List.length_nil, pdw_len]; omega) (fun r3 i3 acc3 M3 hr3 z3 m42 m47 hp3 hb3 hi3 hn3 => ⟨fun _ => ?_, fun q => absurd q (by decide)⟩) (fun f e M2 hs he => ⟨fun q => absurd rfl q, fun _ => k2 f e M2 (hp2.symm.trans hs) he⟩)
      refine s12_emits (x := (w2, 0)) z3 (by simp only [List.length_append]; omega) (fun M4 z4 => hB _ ⟨r3, i3, w2, acc3, by omega, ?_, m42, m47, hp3.trans hp2, hb3, hi3, by omega⟩)
      rw [e0, ← List.append_assoc]
      exact z4
    have go2 : tyT b n i' = 4 ∧ (tyV b n i' = 43 ∨ tyV b n i' = 45) → NX12_readSum_28 Q B 166 N := fun q => by
      unfold NX12_readSum_28
      have hv15 := z.1.v (c := 43) (by rw [q.1]; decide) (by omega)
      refine ⟨fun x => go 3 45 (Or.inr ⟨rfl, rfl⟩) ⟨q.1, ?_⟩, fun x => go 2 43 (Or.inl ⟨rfl, rfl⟩) ⟨q.1, hv15.mp x⟩⟩
      rcases q.2 with q2 | q2
      · exact absurd (hv15.mpr q2) x
      · exact q2
    refine s12_isSign (g := 43) z.1 (by omega) (fun q => ⟨fun _ => go2 ⟨q.1, Or.inl q.2⟩, fun w => (by cases w)⟩) (fun q43 => ⟨fun w => (by cases w), fun _ => ?_⟩)
    refine s12_isSign (g := 45) z.1 (by omega) (fun q => ⟨fun w => (by cases w), fun _ => go2 ⟨q.1, Or.inr q.2⟩⟩) (fun q45 => ⟨fun _ => k (pdw w acc) i' N ?_ hi z, fun w => (by cases w)⟩)
    exact hp ▸ sumL_e n42 n47 (fun q => by
      rcases q.2 with q2 | q2
      · exact q43 ⟨q.1, q2⟩
      · exact q45 ⟨q.1, q2⟩)
end RZS
/-- what a reader of the reference owes -/
def rOwe (b : Nat → Nat) (n : Nat) (M0 : Mem) (p : Except (Nat × Nat) (List (Nat × Nat) × Nat)) (L : List (Nat × Nat)) (Q : Int32 → Mem → Prop) : Prop := (∀ cs j M2, p = .ok (cs, j) → j ≤ 400 → RZ b n M0 j (L ++ cs) M2 → Q 0 M2) ∧ (∀ f e M2, p = .error (f, e) → RErr b n f e M0 M2 → Q (-1) M2)
theorem s12_compared {b : Nat → Nat} {n : Nat} {M0 : Mem} {i : Nat} {L : List (Nat × Nat)} {M : Mem} {Q : Int32 → Mem → Prop} (h : RZ b n M0 i L M) (hl : L.length ≤ i) (k : rOwe b n M0 (cmpS (tyT b n) (tyV b n) i) L Q) : FX12_readCompared Q 166 M := by
  unfold FX12_readCompared
  refine s12_sum h hl (fun cs j M1 hs hj z1 => ⟨fun _ => ?_, fun q => absurd q (by decide)⟩) (fun f e M2 hs he => ⟨fun q => absurd rfl q, fun _ => k.2 f e M2 (cmpS_e1 hs) he⟩)
  obtain ⟨-, t1, t2⟩ := sumP_ty (fun i => tyV_num) [] hs (by decide)
  have go : ∀ x, (x = 60 ∨ x = 61 ∨ x = 62) → tyT b n j = 4 ∧ tyV b n j = x → NX12_readCompared_43 Q 166 M1 := by
    intro x hx qx
    have q : tyT b n j = 4 ∧ (tyV b n j = 60 ∨ tyV b n j = 61 ∨ tyV b n j = 62) := ⟨qx.1, by omega⟩
    have hi4 := z1.lt4 (by rw [qx.1]; decide)
    have em : ∀ s, s = tyV b n j - 54 → NX12_readCompared_73 Q 166 (nI s) M1 := by
      rintro s rfl
      unfold NX12_readCompared_73
      refine s12_next z1.1 (fun M2 ra2 f2 => ?_)
      have z2 := z1.mv ra2 f2
      refine s12_sum z2 (by rw [List.length_append]; omega) (fun ds j2 M3 hs2 hj2 z3 => ⟨fun _ => ?_, fun q => absurd q (by decide)⟩) (fun f e M3 hs2 he => ⟨fun q => absurd rfl q, fun _ => k.2 f e M3 (cmpS_e2 hs q hs2) he⟩)
      obtain ⟨-, t3, t4⟩ := sumP_ty (fun i => tyV_num) [] hs2 (by decide)
      refine s12_emits (x := (tyV b n j - 54, 0)) z3 (by simp only [List.length_append]; omega) (fun M4 z4 => k.1 _ j2 M4 (cmpS_k hs q hs2) hj2 ?_)
      rw [show L ++ (cs ++ ds ++ [(tyV b n j - 54, 0)]) = L ++ cs ++ ds ++ [(tyV b n j - 54, 0)] by simp]
      exact z4
    have v60 := z1.1.v (c := 60) (by rw [qx.1]; decide) (by omega)
    have v61 := z1.1.v (c := 61) (by rw [qx.1]; decide) (by omega)
    unfold NX12_readCompared_43
    refine ⟨fun a1 => ⟨fun a2 => em 8 ?_, fun a2 => em 7 ?_⟩, fun a1 => em 6 ?_⟩
    · have b1 : ¬ tyV b n j = 60 := fun w => a1 (v60.mpr w)
      have b2 : ¬ tyV b n j = 61 := fun w => a2 (v61.mpr w)
      omega
    · have := v61.mp a2
      omega
    · have := v60.mp a1
      omega
  refine s12_isSign (g := 60) z1.1 (by omega) (fun q => ⟨fun _ => go 60 (by omega) q, fun w => (by cases w)⟩) (fun a1 => ⟨fun w => (by cases w), fun _ => ?_⟩)
  refine s12_isSign (g := 61) z1.1 (by omega) (fun q => ⟨fun _ => go 61 (by omega) q, fun w => (by cases w)⟩) (fun a2 => ⟨fun w => (by cases w), fun _ => ?_⟩)
  refine s12_isSign (g := 62) z1.1 (by omega) (fun q => ⟨fun _ => go 62 (by omega) q, fun w => (by cases w)⟩) (fun a3 => ⟨fun w => (by cases w), fun _ => ?_⟩)
  refine s12_errs 1 z1.1 (fun M2 he => k.2 1 j M2 (cmpS_1 hs (fun q => ?_)) (he.of z1.2.2.rfr))
  rcases q.2 with q2 | q2 | q2
  · exact a1 ⟨q.1, q2⟩
  · exact a2 ⟨q.1, q2⟩
  · exact a3 ⟨q.1, q2⟩
