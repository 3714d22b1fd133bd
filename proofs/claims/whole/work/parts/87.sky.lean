/-! a text line by line -/
def pAll {α : Type} (T : Nat → Nat) (ln : Nat → Nat → Except (Nat × Nat) (α × Nat)) : Nat → Nat → List α → Except (Nat × Nat) (List α)
  | 0, _, acc => .ok acc
  | r + 1, i, acc => if T i = 0 then .ok acc else match ln acc.length i with
    | .error e => .error e
    | .ok (x, j) => pAll T ln r j (acc ++ [x])
theorem pAll_0 {α : Type} {T : Nat → Nat} {ln : Nat → Nat → Except (Nat × Nat) (α × Nat)} {r i : Nat} {acc : List α} (h : T i = 0) : pAll T ln (r + 1) i acc = .ok acc := if_pos h
theorem pAll_e {α : Type} {T : Nat → Nat} {ln : Nat → Nat → Except (Nat × Nat) (α × Nat)} {r i : Nat} {acc : List α} {e : Nat × Nat} (h : ¬ T i = 0) (h2 : ln acc.length i = .error e) : pAll T ln (r + 1) i acc = .error e := by
  unfold pAll
  rw [if_neg h, h2]
theorem pAll_k {α : Type} {T : Nat → Nat} {ln : Nat → Nat → Except (Nat × Nat) (α × Nat)} {r i : Nat} {acc : List α} {x : α} {j : Nat} (h : ¬ T i = 0) (h2 : ln acc.length i = .ok (x, j)) : pAll T ln (r + 1) i acc = pAll T ln r j (acc ++ [x]) := by
  rw [pAll, if_neg h, h2]
/-- what a good line of the class leaves -/
def cl1 (M M2 : Mem) : Prop := ∀ c i, (c < 139 ∨ 161 < c ∨ (c = 139 ∧ i ≠ 5 ∧ i ≠ 6)) → M2 c i = M c i
/-- what a good text of the class leaves -/
def cl2 (M M2 : Mem) : Prop := ∀ c i, (c < 139 ∨ 161 < c ∨ (c = 139 ∧ (i = 10 ∨ i = 11))) → M2 c i = M c i
theorem cl1.cfr {M M2 : Mem} (h : cl1 M M2) : cfr M M2 := fun c i hc => h c i (by omega)
theorem cl1.cl2 {M M2 : Mem} (h : cl1 M M2) : cl2 M M2 := fun c i hc => h c i (by omega)
theorem cl2.trans {M M2 M3 : Mem} (h : cl2 M M2) (h2 : cl2 M2 M3) : cl2 M M3 := fun c i hc => (h2 c i hc).trans (h c i hc)
theorem cl2.cfr {M M2 : Mem} (h : cl2 M M2) : cfr M M2 := fun c i hc => h c i (by omega)
theorem cl1.trans {M M2 M3 : Mem} (h : cl1 M M2) (h2 : cl1 M2 M3) : cl1 M M3 := fun c i hc => (h2 c i hc).trans (h c i hc)
theorem cs1.cl1 {M M2 : Mem} (h : cs1 M M2) : cl1 M M2 := fun c i hc => h c i (by omega)
theorem s5_loop {α : Type} {P8 P9 : Int32} {k : Nat} {b : Nat → Nat} {n m : Nat} {M : Mem} {Q : Int32 → Mem → Prop} (ln : Nat → Nat → Except (Nat × Nat) (α × Nat)) (R : List α → Mem → Prop) (FL : (Bool → Mem → Prop) → Mem → Prop)
    (hR : ∀ L M M2, (∀ c i, 140 ≤ c → c ≤ 157 → M2 c i = M c i) → R L M → R L M2)
    (h16 : ∀ i x, ln 16 i ≠ .ok x)
    (hline : ∀ (L : List α) (i : Nat) (M : Mem) (Q : Bool → Mem → Prop), CA k b n m i M → M 139 7 = nI L.length → L.length ≤ 16 → R L M → M 139 8 = P8 → M 139 9 = P9 → (∀ x j M2, ln L.length i = .ok (x, j) → CA k b n m j M2 → cl1 M M2 → R (L ++ [x]) M2 → Q true M2) → (∀ f e M2, ln L.length i = .error (f, e) → CErr b n f e M M2 → Q false M2) → FL Q M)
    (hsel : ∀ (Q : Bool → Mem → Prop) (M : Mem), FL Q M → ((¬ nI k = 0 → ((¬ nI k = 1 → ((¬ nI k = 2 → FX5_tenetLine Q 139 M) ∧ (nI k = 2 → FX5_planLine Q 139 M))) ∧ (nI k = 1 → FX5_skyLine Q 139 M))) ∧ (nI k = 0 → FX5_lawLine Q 139 M)))
    (ca : CA k b n m 0 M) (h7 : M 139 7 = 0) (hR0 : R [] M) (h8 : M 139 8 = P8) (h9 : M 139 9 = P9)
    (h1 : ∀ L M2, pAll (tyT b n) ln 18 0 [] = .ok L → L.length ≤ 16 → R L M2 → cl2 M M2 → Q (nI L.length) M2) (h2 : ∀ f e M2, pAll (tyT b n) ln 18 0 [] = .error (f, e) → CErr b n f e M M2 → Q (-1) M2) : NX5_read_79 Q 139 (nI k) 0 M := by
  unfold NX5_read_79
  have stp : ∀ (B : Int32 × Mem → Prop) (L : List α) (i r : Nat) (N : Mem), L.length ≤ 16 → CA k b n m i N → N 139 7 = nI L.length → R L N → N 139 8 = P8 → N 139 9 = P9 → pAll (tyT b n) ln (r + 1) i L = pAll (tyT b n) ln 18 0 [] → cl2 M N → (∀ x j M2, ln L.length i = .ok (x, j) → CA k b n m j M2 → cl1 N M2 → R (L ++ [x]) M2 → pAll (tyT b n) ln r j (L ++ [x]) = pAll (tyT b n) ln 18 0 [] → B (nI (L.length + 1), xu M2 139 7 (nI (L.length + 1)))) → lbX5_read_79 Q 139 (nI k) (fun l5 M => B (l5, M)) (nI L.length) N := by
    intro B L i r N hL ca hn7 hRL hn8 hn9 hp hf hB
    unfold lbX5_read_79
    refine ⟨fun q => absurd ((nI_leI (a := 400) (by omega) (by omega)).mp q) (by omega), fun _ => s5_kind ca (fun hK => ?_)⟩
    have hz := KR_n (d := 200) (t' := 0) ca.k4 (Or.inl ⟨rfl, rfl⟩) hK
    refine ⟨fun q => ?_, fun q => ?_⟩
    · rw [hn7]
      exact h1 L N (hp ▸ pAll_0 (hz.mp q)) hL hRL hf
    · have hz' : ¬ tyT b n i = 0 := fun w => q (hz.mpr w)
      refine hsel _ _ (hline L i N _ ca hn7 hL hRL hn8 hn9 (fun x j M2 e1 c1 f1 r1 => ?_) (fun f e M2 e1 he => ?_))
      · unfold NX5_read_136
        refine ⟨fun _ => ?_, fun q => absurd q (by decide)⟩
        rintro M1 rfl
        rw [f1 139 7 (by omega), hn7, nI_1]
        exact hB x j M2 e1 c1 f1 r1 ((pAll_k hz' e1).symm.trans hp)
      · unfold NX5_read_136
        exact ⟨fun q => absurd rfl q, fun _ => h2 f e M2 (hp ▸ pAll_e hz' e1) (he.of hf.cfr)⟩
  refine xlp_for (fun r (a : Int32 × Mem) => ∃ (L : List α) (i : Nat), L.length + r = 16 ∧ a.1 = nI L.length ∧ CA k b n m i a.2 ∧ a.2 139 7 = nI L.length ∧ R L a.2 ∧ a.2 139 8 = P8 ∧ a.2 139 9 = P9 ∧ pAll (tyT b n) ln (r + 2) i L = pAll (tyT b n) ln 18 0 [] ∧ cl2 M a.2) ?_ ?_ 16 _ ⟨[], 0, rfl, rfl, ca, h7, hR0, h8, h9, rfl, fun _ _ _ => rfl⟩
  · rintro ⟨a, N⟩ B ⟨L, i, hr, ha, ca, hn7, hRL, hn8, hn9, hp, hf⟩
    have ha' : a = nI L.length := ha
    subst ha'
    refine stp B L i 1 N (by omega) ca hn7 hRL hn8 hn9 hp hf (fun x j M2 e1 => ?_)
    rw [show L.length = 16 by omega] at e1
    exact absurd e1 (h16 _ _)
  · rintro r ⟨a, N⟩ B ⟨L, i, hr, ha, ca, hn7, hRL, hn8, hn9, hp, hf⟩ hB
    have ha' : a = nI L.length := ha
    subst ha'
    refine stp B L i (r + 2) N (by omega) ca hn7 hRL hn8 hn9 hp hf (fun x j M2 e1 c1 f1 r1 hp1 => ?_)
    refine hB _ ⟨L ++ [x], j, by simp; omega, by simp, c1.mv (fun c i q1 q2 => xu_ne _ _ (by omega)) (by simp [xu_if]; exact c1.nx) c1.le, by simp [xu_same], hR _ _ _ (fun c i q1 q2 => xu_ne _ _ (by omega)) r1, ?_, ?_, hp1, hf.trans (fun c i hc => ?_)⟩
    · show xu M2 139 7 (nI (L.length + 1)) 139 8 = _
      rw [xu_at _ _ _ (by decide), f1 139 8 (by omega)]; exact hn8
    · show xu M2 139 7 (nI (L.length + 1)) 139 9 = _
      rw [xu_at _ _ _ (by decide), f1 139 9 (by omega)]; exact hn9
    · show xu M2 139 7 (nI (L.length + 1)) c i = _
      rw [xu_ne _ _ (by omega)]
      exact f1 c i (by omega)
/-- a line of the sky -/
def skyP (T V : Nat → Nat) (l i : Nat) : Except (Nat × Nat) (List Nat × Nat) :=
  if T i = 2 ∧ V i = 15 then
    if l < 16 then
      if T (i + 1) = 3 then
        if 0 ≤ V (i + 1) ∧ V (i + 1) ≤ 999 then
          if T (i + 2) = 2 ∧ V (i + 2) = 16 then
            if T (i + 3) = 3 then
              if 0 ≤ V (i + 3) ∧ V (i + 3) ≤ 9 then
                if T (i + 4) = 4 ∧ V (i + 4) = 59 then .ok ([V (i + 1), V (i + 3)], i + 5) else .error (1, i + 4)
              else .error (2, i + 3)
            else .error (1, i + 3)
          else .error (1, i + 2)
        else .error (2, i + 1)
      else .error (1, i + 1)
    else .error (3, i)
  else .error (1, i)
def rw_ (L : List (List Nat)) (j f : Nat) : Int32 := nI ((L.getD j []).getD f 0)
theorem rw_old {L : List (List Nat)} {x : List Nat} {j : Nat} (f : Nat) (h : j < L.length) : rw_ (L ++ [x]) j f = rw_ L j f := by
  simp [rw_, List.getD_eq_getElem?_getD, List.getElem?_append_left h]
theorem rw_new {L : List (List Nat)} {x : List Nat} (f : Nat) : rw_ (L ++ [x]) L.length f = nI (x.getD f 0) := by
  simp [rw_, List.getD_eq_getElem?_getD]
def skC (L : List (List Nat)) (M : Mem) : Prop := M 147 2 = nI L.length ∧ (∀ j, j < L.length → M 148 j = rw_ L j 0 ∧ M 149 j = rw_ L j 1 ∧ (L.getD j []).getD 0 0 ≤ 999 ∧ (L.getD j []).getD 1 0 ≤ 9)
theorem wO1_0 : wOk 1 0 15 := ⟨by decide, by decide +kernel⟩
theorem wO1_1 : wOk 1 1 16 := ⟨by decide, by decide +kernel⟩
theorem s5_skyLine {b : Nat → Nat} {n m : Nat} {P8 P9 : Int32} (L : List (List Nat)) (i : Nat) (M : Mem) (Q : Bool → Mem → Prop) (ca : CA 1 b n m i M) (h7 : M 139 7 = nI L.length) (hL : L.length ≤ 16) (hR : skC L M) (_ : M 139 8 = P8) (_ : M 139 9 = P9) (h1 : ∀ x j M2, skyP (tyT b n) (tyV b n) L.length i = .ok (x, j) → CA 1 b n m j M2 → cl1 M M2 → skC (L ++ [x]) M2 → Q true M2) (h2 : ∀ f e M2, skyP (tyT b n) (tyV b n) L.length i = .error (f, e) → CErr b n f e M M2 → Q false M2) : FX5_skyLine Q 139 M := by
  unfold FX5_skyLine
  refine s5_begin ca wO1_0 h7 hL (fun q1 q2 M1 c1 f1 => ⟨fun w => (by cases w), fun _ => ?_⟩) (fun q M2 he => ⟨fun _ => h2 1 i M2 (by simp [skyP, q]) he, fun w => (by cases w)⟩) (fun q1 q2 M2 he => ⟨fun _ => h2 3 i M2 (by simp [skyP, q1, q2]) he, fun w => (by cases w)⟩)
  refine s5_number (lo := 0) (hi := 999) c1 (by omega) (by omega) (fun q3 _ q4 M2 c2 f2 v2 => ⟨fun _ => ?_, fun w => (by cases w)⟩) (fun q M2 he => ⟨fun w => (by cases w), fun _ => h2 1 (i + 1) M2 (by simp [skyP, q1, q2, q]) (he.of f1.cfr)⟩) (fun q3 q M2 he => ⟨fun w => (by cases w), fun _ => h2 2 (i + 1) M2 (by have : ¬ tyV b n (i + 1) ≤ 999 := fun w => q ⟨by omega, w⟩; simp [skyP, q1, q2, q3, this]) (he.of f1.cfr)⟩)
  refine s5_takeW c2 wO1_1 (fun q5 M3 c3 f3 => ⟨fun w => (by cases w), fun _ => ?_⟩) (fun q M2 he => ⟨fun _ => h2 1 (i + 2) M2 (by unfold skyP; rw [if_pos q1, if_pos q2, if_pos q3, if_pos ⟨Nat.zero_le _, q4⟩, if_neg (show ¬ (tyT b n (i + 2) = 2 ∧ tyV b n (i + 2) = 16) from q)]) (he.of (f1.trans f2).cfr), fun w => (by cases w)⟩)
  have f13 := (f1.trans f2).trans f3
  refine s5_number (lo := 0) (hi := 9) c3 (by omega) (by omega) (fun q6 _ q7 M4 c4 f4 v4 => ⟨fun _ => ?_, fun w => (by cases w)⟩) (fun q M2 he => ⟨fun w => (by cases w), fun _ => h2 1 (i + 3) M2 (by simp [skyP, q1, q2, q3, q4, q5, q]) (he.of f13.cfr)⟩) (fun q6 q M2 he => ⟨fun w => (by cases w), fun _ => h2 2 (i + 3) M2 (by have : ¬ tyV b n (i + 3) ≤ 9 := fun w => q ⟨by omega, w⟩; simp [skyP, q1, q2, q3, q4, q5, q6, this]) (he.of f13.cfr)⟩)
  have f14 := f13.trans f4
  rw [v2, v4]
  unfold FX6_add
  have e0 : M4 (139 + 8) 2 = nI L.length := (f14 147 2 (by omega)).trans hR.1
  rw [e0]
  refine ⟨fun q => absurd ((nI_leI (a := 16) (by omega) (by omega)).mp q) (by omega), fun _ => ⟨vp_in_nI (by omega) (by omega), ?_⟩⟩
  rw [ixn (by omega)]
  rintro M5 rfl
  rw [xu_cell _ _ _ (show (139 + 8 : Nat) ≠ 139 + 8 + 1 by decide), e0, ixn (by omega)]
  refine ⟨vp_in_nI (by omega) (by omega), ?_⟩
  rintro M6 rfl
  rw [xu_cell _ _ _ (show (139 + 8 : Nat) ≠ 139 + 8 + 2 by decide), xu_cell _ _ _ (show (139 + 8 : Nat) ≠ 139 + 8 + 1 by decide), e0, nI_1]
  rintro M7 rfl
  have c7 : CA 1 b n m (i + 1 + 1 + 1 + 1) (xu (xu (xu M4 (139 + 8 + 1) L.length (nI (tyV b n (i + 1)))) (139 + 8 + 2) L.length (nI (tyV b n (i + 3)))) (139 + 8) 2 (nI (L.length + 1))) := c4.mv (fun c j q1 q2 => by simp only [xu_if]; rw [if_neg (by omega), if_neg (by omega), if_neg (by omega)]) (by simp [xu_if]; exact c4.nx) c4.le
  have f7 : cl1 M4 (xu (xu (xu M4 (139 + 8 + 1) L.length (nI (tyV b n (i + 1)))) (139 + 8 + 2) L.length (nI (tyV b n (i + 3)))) (139 + 8) 2 (nI (L.length + 1))) := fun c j hc => by simp only [xu_if]; rw [if_neg (by omega), if_neg (by omega), if_neg (by omega)]
  refine s5_take (c := 59) c7 rfl (fun q8 M8 c8 f8 => ?_) (fun q M2 he => h2 1 (i + 4) M2 (by unfold skyP; rw [if_pos q1, if_pos q2, if_pos q3, if_pos ⟨Nat.zero_le _, q4⟩, if_pos q5, if_pos q6, if_pos ⟨Nat.zero_le _, q7⟩, if_neg (show ¬ (tyT b n (i + 4) = 4 ∧ tyV b n (i + 4) = 59) from q)]) (he.of (f14.cfr.trans f7.cfr)))
  refine h1 [tyV b n (i + 1), tyV b n (i + 3)] (i + 5) M8 (by unfold skyP; rw [if_pos q1, if_pos q2, if_pos q3, if_pos ⟨Nat.zero_le _, q4⟩, if_pos q5, if_pos q6, if_pos ⟨Nat.zero_le _, q7⟩, if_pos (show tyT b n (i + 4) = 4 ∧ tyV b n (i + 4) = 59 from q8)]) c8 ((f14.cl1.trans f7).trans f8.cl1) ⟨?_, fun j hj => ?_⟩
  · rw [f8 147 2 (by omega)]; simp [xu_if]
  · rw [f8 148 j (by omega), f8 149 j (by omega)]
    rw [List.length_append] at hj
    by_cases hjl : j = L.length
    · subst hjl
      rw [rw_new, rw_new]
      simp [xu_if, List.getD_eq_getElem?_getD]
      exact ⟨q4, q7⟩
    · have hj2 : j < L.length := by simp at hj; omega
      have hr := hR.2 j hj2
      rw [rw_old _ hj2, rw_old _ hj2]
      simp [xu_if, hjl, List.getD_eq_getElem?_getD, List.getElem?_append_left hj2]
      rw [f14 148 j (by omega), f14 149 j (by omega)]
      simpa [List.getD_eq_getElem?_getD] using hr
