/-! a line of the tenets -/
def tenG (T V : Nat → Nat) : Nat → Nat → Nat → Except (Nat × Nat) (Nat × Nat)
  | 0, i, g => .ok (g, i)
  | r + 1, i, g =>
    if T i = 3 then
      if 0 ≤ V i ∧ V i ≤ 15 then
        if T (i + 1) = 2 ∧ V (i + 1) = 5 then tenG T V r (i + 2) (g ||| 2 ^ V i) else .ok (g ||| 2 ^ V i, i + 1)
      else .error (2, i)
    else .error (1, i)
def tenE (T V : Nat → Nat) (g i : Nat) : Except (Nat × Nat) (List Nat × Nat) :=
  if T i = 2 ∧ V i = 23 then
    if T (i + 1) = 3 then
      if 0 ≤ V (i + 1) ∧ V (i + 1) ≤ 15 then
        if T (i + 2) = 4 ∧ V (i + 2) = 59 then .ok ([g, V (i + 1)], i + 3) else .error (1, i + 2)
      else .error (2, i + 1)
    else .error (1, i + 1)
  else .error (1, i)
def tenP (T V : Nat → Nat) (l i : Nat) : Except (Nat × Nat) (List Nat × Nat) :=
  if l = 16 ∧ T i = 3 ∧ V i ≤ 15 then .error (3, i) else if l = 16 ∧ T i = 3 then .error (2, i) else if l = 16 then .error (1, i) else
    match tenG T V 402 i 0 with
    | .error e => .error e
    | .ok (g, j) => tenE T V g j
def tnC (L : List (List Nat)) (M : Mem) : Prop := M 155 2 = nI L.length ∧ (∀ j, j < L.length → M 156 j = rw_ L j 0 ∧ M 157 j = nI (2 ^ (L.getD j []).getD 1 0) ∧ (L.getD j []).getD 0 0 < 65536 ∧ (L.getD j []).getD 1 0 ≤ 15)
theorem wO3_0 : wOk 3 0 5 := ⟨by decide, by decide +kernel⟩
theorem wO3_1 : wOk 3 1 23 := ⟨by decide, by decide +kernel⟩
/-- the end of a line of the class: so, a number, the mark -/
theorem s5_tenE {b : Nat → Nat} {n m g : Nat} (L : List (List Nat)) (i : Nat) (M : Mem) (Q : Bool → Mem → Prop) (ca : CA 3 b n m i M) (hL : L.length < 16) (hg : g < 65536) (hR : tnC L M) (h1 : ∀ x j M2, tenE (tyT b n) (tyV b n) g i = .ok (x, j) → CA 3 b n m j M2 → cl1 M M2 → tnC (L ++ [x]) M2 → Q true M2) (h2 : ∀ f e M2, tenE (tyT b n) (tyV b n) g i = .error (f, e) → CErr b n f e M M2 → Q false M2) : NX5_tenetLine_107 Q 139 (nI g) M := by
  unfold NX5_tenetLine_107
  refine s5_takeW ca wO3_1 (fun q1 M1 c1 f1 => ⟨fun w => (by cases w), fun _ => ?_⟩) (fun q M2 he => ⟨fun _ => h2 1 i M2 (by unfold tenE; rw [if_neg q]) he, fun w => (by cases w)⟩)
  refine s5_number (lo := 0) (hi := 15) c1 (by omega) (by omega) (fun q3 _ q4 M4 c4 f4 v4 => ⟨fun _ => ?_, fun w => (by cases w)⟩) (fun q M2 he => ⟨fun w => (by cases w), fun _ => h2 1 (i + 1) M2 (by unfold tenE; rw [if_pos q1, if_neg q]) (he.of f1.cfr)⟩) (fun q3 q M2 he => ⟨fun w => (by cases w), fun _ => h2 2 (i + 1) M2 (by unfold tenE; rw [if_pos q1, if_pos q3, if_neg q]) (he.of f1.cfr)⟩)
  have f14 := f1.trans f4
  rw [v4, sh1 _ (by omega)]
  unfold FX7_add
  have e0 : M4 (139 + 16) 2 = nI L.length := (f14 155 2 (by omega)).trans hR.1
  rw [e0]
  refine ⟨fun q => absurd ((nI_leI (a := 16) (by omega) (by omega)).mp q) (by omega), fun _ => ⟨vp_in_nI (by omega) (by omega), ?_⟩⟩
  rw [ixn (by omega)]
  rintro M5 rfl
  rw [xu_cell _ _ _ (show (139 + 16 : Nat) ≠ 139 + 16 + 1 by decide), e0, ixn (by omega)]
  refine ⟨vp_in_nI (by omega) (by omega), ?_⟩
  rintro M6 rfl
  rw [xu_cell _ _ _ (show (139 + 16 : Nat) ≠ 139 + 16 + 2 by decide), xu_cell _ _ _ (show (139 + 16 : Nat) ≠ 139 + 16 + 1 by decide), e0, nI_1]
  rintro M7 rfl
  have c7 : CA 3 b n m (i + 1 + 1) (xu (xu (xu M4 (139 + 16 + 1) L.length (nI g)) (139 + 16 + 2) L.length (nI (2 ^ tyV b n (i + 1)))) (139 + 16) 2 (nI (L.length + 1))) := c4.mv (fun c j q1 q2 => by simp only [xu_if]; rw [if_neg (by omega), if_neg (by omega), if_neg (by omega)]) (by simp [xu_if]; exact c4.nx) c4.le
  have f7 : cl1 M4 (xu (xu (xu M4 (139 + 16 + 1) L.length (nI g)) (139 + 16 + 2) L.length (nI (2 ^ tyV b n (i + 1)))) (139 + 16) 2 (nI (L.length + 1))) := fun c j hc => by simp only [xu_if]; rw [if_neg (by omega), if_neg (by omega), if_neg (by omega)]
  refine s5_take (c := 59) c7 rfl (fun q8 M8 c8 f8 => ?_) (fun q M2 he => h2 1 (i + 2) M2 (by unfold tenE; rw [if_pos q1, if_pos q3, if_pos ⟨Nat.zero_le _, q4⟩, if_neg (show ¬ (tyT b n (i + 2) = 4 ∧ tyV b n (i + 2) = 59) from q)]) (he.of (f14.cfr.trans f7.cfr)))
  refine h1 [g, tyV b n (i + 1)] (i + 3) M8 (by unfold tenE; rw [if_pos q1, if_pos q3, if_pos ⟨Nat.zero_le _, q4⟩, if_pos (show tyT b n (i + 2) = 4 ∧ tyV b n (i + 2) = 59 from q8)]) c8 ((f14.cl1.trans f7).trans f8.cl1) ⟨?_, fun j hj => ?_⟩
  · rw [f8 155 2 (by omega)]; simp [xu_if]
  · rw [f8 156 j (by omega), f8 157 j (by omega)]
    rw [List.length_append] at hj
    by_cases hjl : j = L.length
    · subst hjl
      rw [rw_new]
      simp [xu_if, List.getD_eq_getElem?_getD]
      exact ⟨hg, q4⟩
    · have hj2 : j < L.length := by simp at hj; omega
      have hr := hR.2 j hj2
      rw [rw_old _ hj2]
      simp [xu_if, hjl, List.getD_eq_getElem?_getD, List.getElem?_append_left hj2]
      rw [f14 156 j (by omega), f14 157 j (by omega)]
      simpa [List.getD_eq_getElem?_getD] using hr
