/-! the steps of a sum -/
section SML
variable {T V : Nat → Nat} {r i w : Nat} {acc : List (Nat × Nat)} {u : Nat × Nat}
theorem sumL_m (q : T i = 4 ∧ V i = 42) (hu : untP T V (i + 1) = some u) : sumL T V (r + 1) i w acc = sumL T V r (i + 2) w (acc ++ [u, (4, 0)]) := by
  rw [sumL, if_pos q, hu]
theorem sumL_m0 (q : T i = 4 ∧ V i = 42) (hu : untP T V (i + 1) = none) : sumL T V (r + 1) i w acc = .error (1, i + 1) := by
  rw [sumL, if_pos q, hu]
theorem sumL_d (q : T i = 4 ∧ V i = 47) (h3 : T (i + 1) = 3) (h0 : ¬ V (i + 1) = 0) : sumL T V (r + 1) i w acc = sumL T V r (i + 2) w (acc ++ [(0, V (i + 1)), (5, 0)]) := by
  rw [sumL, if_neg (by omega), if_pos q, if_pos h3, if_neg h0]
theorem sumL_d2 (q : T i = 4 ∧ V i = 47) (h3 : T (i + 1) = 3) (h0 : V (i + 1) = 0) : sumL T V (r + 1) i w acc = .error (2, i + 1) := by
  rw [sumL, if_neg (by omega), if_pos q, if_pos h3, if_pos h0]
theorem sumL_d1 (q : T i = 4 ∧ V i = 47) (h3 : ¬ T (i + 1) = 3) : sumL T V (r + 1) i w acc = .error (1, i + 1) := by
  rw [sumL, if_neg (by omega), if_pos q, if_neg h3]
theorem sumL_p (q : T i = 4 ∧ V i = 43) (hu : untP T V (i + 1) = some u) : sumL T V (r + 1) i w acc = sumL T V r (i + 2) 2 (pdw w acc ++ [u]) := by
  rw [sumL, if_neg (by omega), if_neg (by omega), if_pos ⟨q.1, Or.inl q.2⟩, hu, if_pos q.2]
theorem sumL_s (q : T i = 4 ∧ V i = 45) (hu : untP T V (i + 1) = some u) : sumL T V (r + 1) i w acc = sumL T V r (i + 2) 3 (pdw w acc ++ [u]) := by
  rw [sumL, if_neg (by omega), if_neg (by omega), if_pos ⟨q.1, Or.inr q.2⟩, hu, if_neg (by omega)]
theorem sumL_p0 (q : T i = 4 ∧ (V i = 43 ∨ V i = 45)) (hu : untP T V (i + 1) = none) : sumL T V (r + 1) i w acc = .error (1, i + 1) := by
  rw [sumL, if_neg (by omega), if_neg (by omega), if_pos q, hu]
theorem sumL_e (q1 : ¬ (T i = 4 ∧ V i = 42)) (q2 : ¬ (T i = 4 ∧ V i = 47)) (q3 : ¬ (T i = 4 ∧ (V i = 43 ∨ V i = 45))) : sumL T V (r + 1) i w acc = .ok (pdw w acc, i) := by
  rw [sumL, if_neg q1, if_neg q2, if_neg q3]
theorem sumP_k (hu : untP T V i = some u) : sumP T V i = sumL T V 400 (i + 1) 0 [u] := by
  unfold sumP
  rw [hu]
theorem sumP_e (hu : untP T V i = none) : sumP T V i = .error (1, i) := by
  unfold sumP
  rw [hu]
end SML
/-! the class reads a sum -/
/-- a code of the class -/
def cI (c : Nat × Nat) : Int32 := if c.1 = 0 then nI c.2 else if c.1 = 1 then -107 - nI c.2 else [-1, -2, -3, -4, -5, -6, -7, -10, -8, -9].getD (c.1 - 2) 0
/-- a code that may stand -/
def gC (c : Nat × Nat) : Prop := (c.1 = 0 ∧ c.2 ≤ 9999) ∨ (c.1 = 1 ∧ c.2 < 9) ∨ (2 ≤ c.1 ∧ c.1 ≤ 11)
theorem gC_rel {c : Nat × Nat} (h : gC c) : cRel (cI c) (nI c.1) (nI c.2) := by
  obtain ⟨o, a⟩ := c
  rcases h with ⟨h1, h2⟩ | ⟨h1, h2⟩ | ⟨h1, h2⟩
  · have h1 : o = 0 := h1
    subst h1
    exact Or.inl ⟨rfl, rfl, a, h2, rfl⟩
  · have h1 : o = 1 := h1
    subst h1
    exact Or.inr (Or.inl ⟨rfl, a, h2, rfl, rfl⟩)
  · have h1 : 2 ≤ o := h1
    have h2 : o ≤ 11 := h2
    have : o = 2 ∨ o = 3 ∨ o = 4 ∨ o = 5 ∨ o = 6 ∨ o = 7 ∨ o = 8 ∨ o = 9 ∨ o = 10 ∨ o = 11 := by omega
    unfold cRel
    rcases this with rfl | rfl | rfl | rfl | rfl | rfl | rfl | rfl | rfl | rfl <;> simp [cI, nI]
theorem gC_u {b : Nat → Nat} {n i : Nat} {u : Nat × Nat} (h : untP (tyT b n) (tyV b n) i = some u) : gC u := by
  unfold untP at h
  split at h
  · next q =>
    rw [← Option.some.inj h]
    refine Or.inr (Or.inl ⟨rfl, ?_⟩)
    show tyV b n i - 7 < 9
    omega
  · split at h
    · next q =>
      rw [← Option.some.inj h]
      have := tyV_num q
      exact Or.inl ⟨rfl, by show tyV b n i ≤ 9999; omega⟩
    · cases h
/-- the codes that the class has laid down -/
def CCd (L : List (Nat × Nat)) (M : Mem) : Prop := M 140 6 = nI L.length ∧ ∀ j, j < L.length → M 141 j = cI (L.getD j (0, 0)) ∧ gC (L.getD j (0, 0))
/-- what stays while the class reads sums and conditions -/
def cfl (M M2 : Mem) : Prop := ∀ c i, ¬ (c = 139 ∧ (i = 5 ∨ i = 6)) → ¬ (c = 140 ∧ i = 6) → ¬ c = 141 → M2 c i = M c i
theorem cfl.refl (M : Mem) : cfl M M := fun _ _ _ _ _ => rfl
theorem cfl.trans {M M2 M3 : Mem} (h : cfl M M2) (h2 : cfl M2 M3) : cfl M M3 := fun c i a1 a2 a3 => (h2 c i a1 a2 a3).trans (h c i a1 a2 a3)
theorem cs1.cfl {M M2 : Mem} (h : cs1 M M2) : cfl M M2 := fun c i a1 _ _ => h c i a1
theorem cfl.cfr {M M2 : Mem} (h : cfl M M2) : cfr M M2 := fun c i hc => h c i (by omega) (by omega) (by omega)
/-- the class stands at the piece i, with the codes L -/
def CZ (b : Nat → Nat) (n m : Nat) (M0 : Mem) (i : Nat) (L : List (Nat × Nat)) (M : Mem) : Prop := CA 0 b n m i M ∧ CCd L M ∧ cfl M0 M
section CZS
variable {b : Nat → Nat} {n m : Nat} {M0 : Mem} {i : Nat} {L : List (Nat × Nat)} {M : Mem}
theorem CCd.cs {M2 : Mem} (h : CCd L M) (f : cs1 M M2) : CCd L M2 := ⟨by rw [f 140 6 (by omega)]; exact h.1, fun j hj => by rw [f 141 j (by omega)]; exact h.2 j hj⟩
theorem CZ.mv {j : Nat} {M2 : Mem} (h : CZ b n m M0 i L M) (ca : CA 0 b n m j M2) (f : cs1 M M2) : CZ b n m M0 j L M2 := ⟨ca, h.2.1.cs f, h.2.2.trans f.cfl⟩
theorem CZ.le4 (h : CZ b n m M0 i L M) : i ≤ 400 := by
  have := h.1.le
  have := h.1.mn
  have := h.1.n4
  omega
theorem CZ.step (h : CZ b n m M0 i L M) (ht : tyT b n i ≠ 0) : CZ b n m M0 (i + 1) L (xu M 139 5 (M 139 5 + 1)) := by
  obtain ⟨c1, c2⟩ := h.1.step ht
  exact h.mv c1 c2
theorem getD_new {α : Type} (L : List α) (x d : α) : (L ++ [x]).getD L.length d = x := by simp [List.getD_eq_getElem?_getD]
theorem getD_old {α : Type} {L : List α} (R : List α) (d : α) {j : Nat} (h : j < L.length) : (L ++ R).getD j d = L.getD j d := by simp [List.getD_eq_getElem?_getD, List.getElem?_append_left h]
theorem s5_emit {Q : Mem → Prop} {x : Nat × Nat} (h : CZ b n m M0 i L M) (hl : L.length < 400) (hx : gC x) (k : ∀ M2, CZ b n m M0 i (L ++ [x]) M2 → Q M2) : FX2_emit Q 140 (cI x) M := by
  unfold FX2_emit
  rw [h.2.1.1]
  refine ⟨fun q => absurd ((nI_leI (a := 400) (by omega) (by omega)).mp q) (by omega), fun _ => ⟨vp_in_nI hl (by omega), ?_⟩⟩
  rw [ixn (by omega)]
  rintro M1 rfl M2 rfl
  rw [xu_cell _ _ _ (show (140 : Nat) ≠ 140 + 1 by decide), h.2.1.1, nI_1]
  refine k _ ⟨h.1.mv (fun c j q1 q2 => by simp only [xu_if]; rw [if_neg (by omega), if_neg (by omega)]) (by simp [xu_if]; exact h.1.nx) h.1.le, ⟨by rw [xu_same]; simp, fun j hj => ?_⟩, h.2.2.trans (fun c j a1 a2 a3 => by simp only [xu_if]; rw [if_neg (by omega), if_neg (by omega)])⟩
  rw [xu_cell _ _ _ (by decide)]
  show xu M 141 L.length (cI x) 141 j = _ ∧ _
  rw [List.length_append] at hj
  by_cases hjl : j = L.length
  · subst hjl
    rw [xu_same, getD_new]
    exact ⟨rfl, hx⟩
  · have hj2 : j < L.length := by simp at hj; omega
    rw [xu_at _ _ _ hjl, getD_old _ _ hj2]
    exact h.2.1.2 j hj2
theorem KR_uw : ∀ v, v < 24 → ((7 ≤ v ∧ v ≤ 15) ∧ wkI 0 v = nI (300 + v) ∧ (-100) - (nI (300 + v) - 300) = cI (1, v - 7)) ∨ (¬ (7 ≤ v ∧ v ≤ 15) ∧ (wkI 0 v < 307 ∨ 315 < wkI 0 v) ∧ ¬ wkI 0 v = 201) := by decide +kernel
theorem KR_us : ∀ v, v < 128 → nI v < 307 ∧ ¬ nI v = 201 := by decide +kernel
theorem KR_unit {t v : Nat} {x : Int32} (h : KR 0 t v x) : ((t = 2 ∧ 7 ≤ v ∧ v ≤ 15) ∧ (¬ x < 307 ∧ ¬ 315 < x) ∧ (-100) - (x - 300) = cI (1, v - 7)) ∨ (¬ (t = 2 ∧ 7 ≤ v ∧ v ≤ 15) ∧ t = 3 ∧ (x < 307 ∨ 315 < x) ∧ x = 201) ∨ (¬ (t = 2 ∧ 7 ≤ v ∧ v ≤ 15) ∧ ¬ t = 3 ∧ (x < 307 ∨ 315 < x) ∧ ¬ x = 201) := by
  rcases h with ⟨h1, h2⟩ | ⟨h1, h2⟩ | ⟨h1, h2, h3⟩ | ⟨h1, h2, h3⟩ | ⟨h1, h2⟩
  · rw [h2]; exact Or.inr (Or.inr ⟨by omega, by omega, by decide, by decide⟩)
  · rw [h2]; exact Or.inr (Or.inl ⟨by omega, h1, by decide, rfl⟩)
  · rcases KR_uw v h2 with ⟨a1, a2, a3⟩ | ⟨a1, a2, a3⟩
    · refine Or.inl ⟨⟨h1, a1⟩, ?_, by rw [h3, a2]; exact a3⟩
      rw [h3, a2]
      exact ⟨nI_nlt (b := 307) (by omega) (by omega), nI_nlt (a := 315) (by omega) (by omega)⟩
    · rw [h3]
      exact Or.inr (Or.inr ⟨by omega, by omega, a2, a3⟩)
  · have : v < 128 := by simp [isM] at h3; omega
    rw [h2]
    exact Or.inr (Or.inr ⟨by omega, by omega, Or.inl (KR_us v this).1, (KR_us v this).2⟩)
  · rcases h2 with h2 | ⟨c, h2, h3, -⟩
    · rw [h2]; exact Or.inr (Or.inr ⟨by omega, by omega, by decide, by decide⟩)
    · rw [h3]; exact Or.inr (Or.inr ⟨by omega, by omega, Or.inl (KR_us c h2).1, (KR_us c h2).2⟩)
theorem s5_unit {Q : Bool → Mem → Prop} (h : CZ b n m M0 i L M) (hl : L.length ≤ i) (k : ∀ u M2, untP (tyT b n) (tyV b n) i = some u → CZ b n m M0 (i + 1) (L ++ [u]) M2 → Q true M2) (k2 : untP (tyT b n) (tyV b n) i = none → ∀ M2, CErr b n 1 i M0 M2 → Q false M2) : FX5_unit Q 139 M := by
  unfold FX5_unit
  refine s5_kind h.1 (fun hK => ?_)
  have em : ∀ u, untP (tyT b n) (tyV b n) i = some u → tyT b n i ≠ 0 → NX5_unit_65 Q 139 (139 + 1) (cI u) M := fun u hu ht => by
    unfold NX5_unit_65
    have := h.1.lt ht
    have := h.1.mn
    have := h.1.n4
    refine s5_emit h (by omega) (gC_u hu) (fun M2 z => ?_)
    rintro M3 rfl
    exact k u _ hu (z.step ht)
  rcases KR_unit hK with ⟨a1, a2, a3⟩ | ⟨a1, a2, a3, a4⟩ | ⟨a1, a2, a3, a4⟩
  · have hu : untP (tyT b n) (tyV b n) i = some (1, tyV b n i - 7) := if_pos a1
    refine ⟨fun q => absurd q a2.1, fun _ => ⟨fun q => absurd q a2.2, fun _ => ?_⟩⟩
    unfold NX5_unit_24 NX5_unit_42
    refine ⟨fun _ => ⟨fun q => absurd q (by decide), fun _ => ?_⟩, fun q => absurd q (by decide)⟩
    rw [a3]
    exact em _ hu (by omega)
  · have hu : untP (tyT b n) (tyV b n) i = some (0, tyV b n i) := by unfold untP; rw [if_neg a1, if_pos a2]
    have : NX5_unit_23 Q 139 (M 159 i) M := by
      unfold NX5_unit_23 NX5_unit_24 NX5_unit_42
      refine ⟨fun q => absurd rfl q, fun _ => ⟨fun _ => ⟨fun _ => s5_numberHere h.1 a2 ?_, fun q => absurd rfl q⟩, fun q => absurd a4 q⟩⟩
      exact em _ hu (by omega)
    refine ⟨fun _ => this, fun q => ⟨fun _ => this, fun q2 => ?_⟩⟩
    rcases a3 with a3 | a3
    · exact absurd a3 q
    · exact absurd a3 q2
  · have hu : untP (tyT b n) (tyV b n) i = none := by unfold untP; rw [if_neg a1, if_neg a2]
    have : NX5_unit_23 Q 139 (M 159 i) M := by
      unfold NX5_unit_23 NX5_unit_24
      exact ⟨fun q => absurd rfl q, fun _ => ⟨fun q => absurd q a4, fun _ => s5_refuse 1 h.1 (fun M2 he => k2 hu M2 (he.of h.2.2.cfr))⟩⟩
    refine ⟨fun _ => this, fun q => ⟨fun _ => this, fun q2 => ?_⟩⟩
    rcases a3 with a3 | a3
    · exact absurd a3 q
    · exact absurd a3 q2
end CZS
def wI (w : Nat) : Int32 := if w = 0 then 0 else if w = 2 then -1 else -2
theorem wI_c {w : Nat} (h : w = 2 ∨ w = 3) : wI w = cI (w, 0) := by rcases h with rfl | rfl <;> rfl
theorem s5_sum {b : Nat → Nat} {n m : Nat} {M0 : Mem} {i : Nat} {L : List (Nat × Nat)} {M : Mem} {Q : Bool → Mem → Prop} (h : CZ b n m M0 i L M) (hl : L.length ≤ i) (k : ∀ cs j M2, sumP (tyT b n) (tyV b n) i = .ok (cs, j) → CZ b n m M0 j (L ++ cs) M2 → Q true M2) (k2 : ∀ f e M2, sumP (tyT b n) (tyV b n) i = .error (f, e) → CErr b n f e M0 M2 → Q false M2) : FX5_sum Q 139 M := by
  unfold FX5_sum
  refine s5_unit h hl (fun u M1 hu z1 => ⟨fun _ => ?_, fun w => (by cases w)⟩) (fun hu M2 he => ⟨fun w => (by cases w), fun _ => k2 1 i M2 (sumP_e hu) he⟩)
  unfold NX5_sum_13
  refine xlp_for (fun r (a : Int32 × Int32 × Mem) => ∃ (i' w : Nat) (acc : List (Nat × Nat)), (w = 0 ∨ w = 2 ∨ w = 3) ∧ a.1 = wI w ∧ a.2.1 = nI (400 - r) ∧ r ≤ 400 ∧ CZ b n m M0 i' (L ++ acc) a.2.2 ∧ sumL (tyT b n) (tyV b n) r i' w acc = sumP (tyT b n) (tyV b n) i ∧ 801 ≤ i' + 2 * r ∧ L.length + acc.length + wn w ≤ i') ?_ ?_ 400 _ ⟨i + 1, 0, [u], Or.inl rfl, rfl, rfl, by omega, z1, (sumP_k hu).symm, by omega, by simp [wn]; omega⟩
  · rintro a B ⟨i', w, acc, -, -, -, -, z, -, hb, -⟩
    have := z.le4
    omega
  · rintro r ⟨a1, a2, N⟩ B ⟨i', w, acc, hw, e1, e2, hr, z, hp, hb, hn⟩ hB
    have e1 : a1 = wI w := e1
    have e2 : a2 = nI (400 - (r + 1)) := e2
    have z : CZ b n m M0 i' (L ++ acc) N := z
    subst e1 e2
    have h4 := z.le4
    have e2' : nI (400 - (r + 1)) + 1 = nI (400 - r) := by rw [nI_1, show 400 - (r + 1) + 1 = 400 - r by omega]
    show lbX5_sum_13 Q 139 (fun l1 l2 M => B (l1, l2, M)) (wI w) (nI (400 - (r + 1))) N
    unfold lbX5_sum_13
    refine ⟨fun q => absurd ((nI_leI (a := 400) (by omega) (by omega)).mp q) (by omega), fun _ => s5_kind z.1 (fun hK => ?_)⟩
    have k42 := KR_s (c := 42) z.1.k4 rfl hK
    have k47 := KR_s (c := 47) z.1.k4 rfl hK
    have k43 := KR_s (c := 43) z.1.k4 rfl hK
    have k45 := KR_s (c := 45) z.1.k4 rfl hK
    by_cases q42 : tyT b n i' = 4 ∧ tyV b n i' = 42
    · have x42 : N 159 i' = 42 := k42.mpr q42
      rw [x42]
      refine ⟨fun _ => ?_, fun q => absurd rfl q⟩
      unfold NX5_sum_49
      refine ⟨fun _ => ?_, fun q => absurd rfl q⟩
      unfold NX5_sum_75
      rintro M4 rfl
      have z4 := z.step (by rw [q42.1]; decide)
      refine ⟨fun _ => ?_, fun q => absurd q (by decide)⟩
      refine s5_unit z4 (by rw [List.length_append]; omega) (fun u M5 hu z5 => ⟨fun _ => ?_, fun w => (by cases w)⟩) (fun hu M2 he => ⟨fun w => (by cases w), fun _ => k2 1 _ M2 (hp ▸ sumL_m0 q42 hu) he⟩)
      unfold NX5_sum_114
      refine ⟨fun _ => ⟨fun q => absurd rfl q, fun _ => ?_⟩, fun q => absurd q (by decide)⟩
      have h5 := z5.le4
      refine s5_emit (x := (4, 0)) z5 (by simp only [List.length_append, List.length_cons, List.length_nil]; omega) (Or.inr (Or.inr ⟨by decide, by decide⟩)) (fun M6 z6 => ?_)
      rw [e2']
      refine hB _ ⟨i' + 2, w, acc ++ [u, (4, 0)], hw, rfl, rfl, by omega, ?_, (sumL_m q42 hu).symm.trans hp, by omega, by simp only [List.length_append, List.length_cons, List.length_nil]; omega⟩
      have e : L ++ (acc ++ [u, (4, 0)]) = L ++ acc ++ [u] ++ [(4, 0)] := by simp
      rw [e]
      exact z6
    have x42 : ¬ N 159 i' = 42 := fun q => q42 (k42.mp q)
    refine ⟨fun q => absurd q x42, fun _ => ?_⟩
    by_cases q47 : tyT b n i' = 4 ∧ tyV b n i' = 47
    · have x47 : N 159 i' = 47 := k47.mpr q47
      rw [x47]
      refine ⟨fun _ => ?_, fun q => absurd rfl q⟩
      unfold NX5_sum_49
      refine ⟨fun q => absurd q (by decide), fun _ => ⟨fun _ => ?_, fun q => absurd rfl q⟩⟩
      unfold NX5_sum_75
      rintro M4 rfl
      have z4 := z.step (by rw [q47.1]; decide)
      refine ⟨fun q => absurd rfl q, fun _ => ?_⟩
      refine s5_number (lo := 1) (hi := 9999) z4.1 (by omega) (by omega) (fun h3 h0 _ M5 ca5 f5 v5 => ⟨fun _ => ?_, fun w => (by cases w)⟩) (fun h3 M2 he => ⟨fun w => (by cases w), fun _ => k2 1 _ M2 (hp ▸ sumL_d1 q47 h3) (he.of z4.2.2.cfr)⟩) (fun h3 h0 M2 he => ⟨fun w => (by cases w), fun _ => k2 2 _ M2 (hp ▸ sumL_d2 q47 h3 (by have := tyV_num h3; omega)) (he.of z4.2.2.cfr)⟩)
      have z5 := z4.mv ca5 f5
      have h5 := z5.le4
      have hv := tyV_num h3
      unfold NX5_sum_114
      refine ⟨fun q => absurd rfl q, fun _ => ?_⟩
      rw [v5]
      refine s5_emit (x := (0, tyV b n (i' + 1))) z5 (by simp only [List.length_append]; omega) (Or.inl ⟨rfl, by show tyV b n (i' + 1) ≤ 9999; omega⟩) (fun M6 z6 => ?_)
      refine s5_emit (x := (5, 0)) z6 (by simp only [List.length_append, List.length_cons, List.length_nil]; omega) (Or.inr (Or.inr ⟨by decide, by decide⟩)) (fun M7 z7 => ?_)
      rw [e2']
      refine hB _ ⟨i' + 2, w, acc ++ [(0, tyV b n (i' + 1)), (5, 0)], hw, rfl, rfl, by omega, ?_, (sumL_d q47 h3 (by omega)).symm.trans hp, by omega, by simp only [List.length_append, List.length_cons, List.length_nil]; omega⟩
      have e : L ++ (acc ++ [(0, tyV b n (i' + 1)), (5, 0)]) = L ++ acc ++ [(0, tyV b n (i' + 1))] ++ [(5, 0)] := by simp
      rw [e]
      exact z7
    have x47 : ¬ N 159 i' = 47 := fun q => q47 (k47.mp q)
    refine ⟨fun q => absurd q x47, fun _ => ?_⟩
    have tail : ∀ N2, CZ b n m M0 i' (L ++ pdw w acc) N2 → NX5_sum_49 Q (fun l1 l2 M => B (l1, l2, M)) 139 (wI w) (nI (400 - (r + 1))) (N 159 i') N2 := by
      intro N2 z2
      unfold NX5_sum_49
      refine ⟨fun q => absurd q x42, fun _ => ⟨fun q => absurd q x47, fun _ => ?_⟩⟩
      have go : ∀ w2 v, (w2 = 2 ∧ v = 43) ∨ (w2 = 3 ∧ v = 45) → tyT b n i' = 4 ∧ tyV b n i' = v → NX5_sum_75 Q (fun l1 l2 M => B (l1, l2, M)) 139 (wI w) (nI (400 - (r + 1))) (N 159 i') N2 := by
        intro w2 v hv qv
        unfold NX5_sum_75
        rintro M4 rfl
        have z4 := z2.step (by rw [qv.1]; decide)
        refine ⟨fun _ => ?_, fun q => absurd q x47⟩
        refine s5_unit z4 (by rw [List.length_append, pdw_len]; omega) (fun u M5 hu z5 => ⟨fun _ => ?_, fun w => (by cases w)⟩) (fun hu M2 he => ⟨fun w => (by cases w), fun _ => k2 1 _ M2 (hp ▸ sumL_p0 ⟨qv.1, by omega⟩ hu) he⟩)
        have e : L ++ (pdw w acc ++ [u]) = L ++ pdw w acc ++ [u] := by simp
        unfold NX5_sum_114
        refine ⟨fun _ => ⟨fun _ => ⟨fun q => ?_, fun q => ?_⟩, fun q => absurd q x42⟩, fun q => absurd q x47⟩
        · rcases hv with ⟨rfl, rfl⟩ | ⟨rfl, rfl⟩
          · exact absurd (k43.mpr qv) q
          · rw [e2']
            exact hB _ ⟨i' + 2, 3, pdw w acc ++ [u], by omega, rfl, rfl, by omega, by rw [e]; exact z5, (sumL_s qv hu).symm.trans hp, by omega, by rw [List.length_append, pdw_len, show wn 3 = 1 from rfl]; simp only [List.length_cons, List.length_nil]; omega⟩
        · rcases hv with ⟨rfl, rfl⟩ | ⟨rfl, rfl⟩
          · rw [e2']
            exact hB _ ⟨i' + 2, 2, pdw w acc ++ [u], by omega, rfl, rfl, by omega, by rw [e]; exact z5, (sumL_p qv hu).symm.trans hp, by omega, by rw [List.length_append, pdw_len, show wn 2 = 1 from rfl]; simp only [List.length_cons, List.length_nil]; omega⟩
          · exact absurd ((k43.mp q).2.symm.trans qv.2) (by decide)
      refine ⟨fun q => go 2 43 (Or.inl ⟨rfl, rfl⟩) (k43.mp q), fun q3 => ⟨fun q => go 3 45 (Or.inr ⟨rfl, rfl⟩) (k45.mp q), fun q5 => ?_⟩⟩
      exact k (pdw w acc) i' N2 (hp ▸ sumL_e q42 q47 (fun q => by
        rcases q.2 with q2 | q2
        · exact q3 (k43.mpr ⟨q.1, q2⟩)
        · exact q5 (k45.mpr ⟨q.1, q2⟩))) z2
    rcases hw with rfl | hw
    · exact ⟨fun _ => tail N z, fun q => absurd rfl q⟩
    · have e0 : pdw w acc = acc ++ [(w, 0)] := if_neg (by omega)
      have e3 : wn w = 1 := if_neg (by omega)
      rw [e0] at tail
      refine ⟨fun q => absurd q (by rcases hw with rfl | rfl <;> decide), fun _ => ?_⟩
      show FX2_emit _ 140 (wI w) N
      have hx : ∀ M10, CZ b n m M0 i' (L ++ acc ++ [(w, 0)]) M10 → NX5_sum_49 Q (fun l1 l2 M => B (l1, l2, M)) 139 (wI w) (nI (400 - (r + 1))) (N 159 i') M10 := fun M10 z10 => tail M10 (by rw [← List.append_assoc]; exact z10)
      rw [wI_c hw] at hx ⊢
      exact s5_emit z (by rw [List.length_append]; omega) (Or.inr (Or.inr ⟨by show 2 ≤ w; omega, by show w ≤ 11; omega⟩)) hx
