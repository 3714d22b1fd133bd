/-! a line of the plan -/
def hB (P N w : Nat) : Nat := if w = 0 then 1000 else if w = 1 then 100 else if w = 3 then P else N
def planM (T V : Nat → Nat) (x : List Nat) (i : Nat) : Except (Nat × Nat) (List Nat × Nat) := if T i = 4 ∧ V i = 59 then .ok (x, i + 1) else .error (1, i)
def planE (P N : Nat) (T V : Nat → Nat) (d w i : Nat) : Except (Nat × Nat) (List Nat × Nat) :=
  if T i = 3 then
    if V i < hB P N w then
      if w = 3 then
        if T (i + 1) = 3 then
          if 1 ≤ V (i + 1) ∧ V (i + 1) ≤ 99 then planM T V [d, w, V i, V (i + 1)] (i + 2) else .error (2, i + 1)
        else .error (1, i + 1)
      else planM T V [d, w, V i, 0] (i + 1)
    else .error (2, i)
  else .error (1, i)
def planP (P N : Nat) (T V : Nat → Nat) (l i : Nat) : Except (Nat × Nat) (List Nat × Nat) :=
  if T i = 2 ∧ V i = 17 then
    if l < 16 then
      if T (i + 1) = 3 then
        if 0 ≤ V (i + 1) ∧ V (i + 1) ≤ 999 then
          if T (i + 2) = 2 ∧ 18 ≤ V (i + 2) ∧ V (i + 2) ≤ 22 then planE P N T V (V (i + 1)) (V (i + 2) - 18) (i + 3) else .error (1, i + 2)
        else .error (2, i + 1)
      else .error (1, i + 1)
    else .error (3, i)
  else .error (1, i)
theorem planE_1 {P N : Nat} {T V : Nat → Nat} {d w i : Nat} (h : ¬ T i = 3) : planE P N T V d w i = .error (1, i) := if_neg h
theorem planE_2 {P N : Nat} {T V : Nat → Nat} {d w i : Nat} (h : T i = 3) (h2 : ¬ V i < hB P N w) : planE P N T V d w i = .error (2, i) := by
  unfold planE
  rw [if_pos h, if_neg h2]
theorem planE_k {P N : Nat} {T V : Nat → Nat} {d w i : Nat} (h : T i = 3) (h2 : V i < hB P N w) (h3 : ¬ w = 3) : planE P N T V d w i = planM T V [d, w, V i, 0] (i + 1) := by
  unfold planE
  rw [if_pos h, if_pos h2, if_neg h3]
def plR1 (x : List Nat) (d w who much : Int32) : Prop := d = nI (x.getD 0 0) ∧ w = nI (x.getD 1 0) + 1 ∧ (x.getD 1 0 < 2 → much = nI (x.getD 2 0)) ∧ (2 ≤ x.getD 1 0 → who = nI (x.getD 2 0)) ∧ (x.getD 1 0 = 3 → much = nI (x.getD 3 0))
def plC (L : List (List Nat)) (M : Mem) : Prop := M 150 4 = nI L.length ∧ (∀ j, j < L.length → plR1 (L.getD j []) (M 151 j) (M 152 j) (M 153 j) (M 154 j))
theorem wO2_0 : wOk 2 0 17 := ⟨by decide, by decide +kernel⟩
theorem KR_dw : ∀ v, v < 24 → ((18 ≤ v ∧ v ≤ 22) ∧ wkI 2 v - 300 = nI (v - 17)) ∨ (¬ (18 ≤ v ∧ v ≤ 22) ∧ wkI 2 v - 300 < 1) := by decide +kernel
theorem KR_ds : ∀ v, v < 128 → nI v - 300 < 1 := by decide +kernel
theorem KR_deed {t v : Nat} {x : Int32} (h : KR 2 t v x) : ((t = 2 ∧ 18 ≤ v ∧ v ≤ 22) ∧ x - 300 = nI (v - 17)) ∨ (¬ (t = 2 ∧ 18 ≤ v ∧ v ≤ 22) ∧ x - 300 < 1) := by
  rcases h with ⟨h1, h2⟩ | ⟨h1, h2⟩ | ⟨h1, h2, h3⟩ | ⟨h1, h2, h3⟩ | ⟨h1, h2⟩
  · exact Or.inr ⟨by omega, by rw [h2]; decide⟩
  · exact Or.inr ⟨by omega, by rw [h2]; decide⟩
  · rw [h3]
    rcases KR_dw v h2 with h | h
    · exact Or.inl ⟨⟨h1, h.1⟩, h.2⟩
    · exact Or.inr ⟨fun q => h.1 q.2, h.2⟩
  · have : v < 128 := by simp [isM] at h3; omega
    exact Or.inr ⟨by omega, by rw [h2]; exact KR_ds v this⟩
  · refine Or.inr ⟨by omega, ?_⟩
    rcases h2 with h2 | ⟨c, h2, h3, -⟩
    · rw [h2]; decide
    · rw [h3]; exact KR_ds c h2
theorem s5_numX {k : Nat} {b : Nat → Nat} {n m i h : Nat} {M : Mem} {Q : Bool → Mem → Prop} (ca : CA k b n m i M) (hh : h < 10000) (h1 : tyT b n i = 3 → tyV b n i < h → ∀ M2, CA k b n m (i + 1) M2 → cs1 M M2 → M2 139 6 = nI (tyV b n i) → Q true M2) (h2 : ¬ tyT b n i = 3 → ∀ M2, CErr b n 1 i M M2 → Q false M2) (h3 : tyT b n i = 3 → ¬ tyV b n i < h → ∀ M2, CErr b n 2 i M M2 → Q false M2) : FX5_number Q 139 0 (nI h - 1) M := by
  cases h with
  | succ h =>
    rw [show nI (h + 1) - 1 = nI h from pk_sub (b := 1) (by omega)]
    exact s5_number (lo := 0) ca (by omega) (by omega) (fun a1 _ a3 => h1 a1 (by omega)) h2 (fun a1 a2 => h3 a1 (by omega))
  | zero =>
    unfold FX5_number NX5_number_40
    refine s5_kind ca (fun hK => ?_)
    have := KR_n (d := 201) (t' := 3) ca.k4 (Or.inr ⟨rfl, rfl⟩) hK
    refine ⟨fun q => ?_, fun q => s5_refuse 1 ca (h2 (fun q2 => q (this.mpr q2)))⟩
    have ht := this.mp q
    refine s5_numberHere ca ht ?_
    rintro M5 rfl
    have hv := tyV_num ht
    have ca5 : CA k b n m i (xu M 139 6 (nI (tyV b n i))) := ca.mv (fun c j h1 h2 => xu_ne _ _ (by omega)) (by rw [xu_at _ _ _ (by decide)]; exact ca.nx) ca.le
    have f5 : cs1 M (xu M 139 6 (nI (tyV b n i))) := fun c j hc => xu_ne _ _ (fun q => hc ⟨q.1, Or.inr q.2⟩)
    rw [xu_same]
    refine ⟨fun q => ?_, fun q1 => ⟨fun q2 => ?_, fun q => ?_⟩⟩
    · exact absurd ((nI_ltI (b := 0) (by omega) (by omega)).mp q) (by omega)
    · exact absurd q2 (by
        rw [show nI 0 - 1 = (-1 : Int32) from rfl]
        intro q
        have h4 : (0 : Int32) ≤ nI (tyV b n i) := (nI_leI (a := 0) (by omega) (by omega)).mpr (by omega)
        have h5 : (0 : Int32) ≤ -1 := Int32.le_trans h4 q
        exact absurd h5 (by decide))
    · exact s5_refuse 2 ca5 (fun M2 he => h3 ht (by omega) M2 (he.of f5.cfr))
/-- the class keeps the line and takes the mark -/
theorem s5_planA {b : Nat → Nat} {n m i : Nat} {L : List (List Nat)} {M : Mem} {Q : Bool → Mem → Prop} {x : List Nat} {d w who much : Int32} (ca : CA 2 b n m i M) (hL : L.length < 16) (hR : plC L M) (hx : plR1 x d w who much) (h1 : tyT b n i = 4 ∧ tyV b n i = 59 → ∀ M2, CA 2 b n m (i + 1) M2 → cl1 M M2 → plC (L ++ [x]) M2 → Q true M2) (h2 : ¬ (tyT b n i = 4 ∧ tyV b n i = 59) → ∀ M2, CErr b n 1 i M M2 → Q false M2) : NX5_planLine_180 Q 139 (139 + 11) d w who much M := by
  unfold NX5_planLine_180 FX4_add
  have e0 : M (139 + 11) 4 = nI L.length := hR.1
  rw [e0]
  refine ⟨fun q => absurd ((nI_leI (a := 16) (by omega) (by omega)).mp q) (by omega), fun _ => ⟨vp_in_nI (by omega) (by omega), ?_⟩⟩
  rw [ixn (by omega)]
  rintro M1 rfl
  have e1 : xu M (139 + 11 + 1) L.length d (139 + 11) 4 = nI L.length := by rw [xu_cell _ _ _ (by decide)]; exact e0
  rw [e1, ixn (by omega)]
  refine ⟨vp_in_nI (by omega) (by omega), ?_⟩
  rintro M2 rfl
  have e2 : xu (xu M (139 + 11 + 1) L.length d) (139 + 11 + 2) L.length w (139 + 11) 4 = nI L.length := by rw [xu_cell _ _ _ (by decide)]; exact e1
  rw [e2, ixn (by omega)]
  refine ⟨vp_in_nI (by omega) (by omega), ?_⟩
  rintro M3 rfl
  have e3 : xu (xu (xu M (139 + 11 + 1) L.length d) (139 + 11 + 2) L.length w) (139 + 11 + 3) L.length who (139 + 11) 4 = nI L.length := by rw [xu_cell _ _ _ (by decide)]; exact e2
  rw [e3, ixn (by omega)]
  refine ⟨vp_in_nI (by omega) (by omega), ?_⟩
  rintro M4 rfl
  have e4 : xu (xu (xu (xu M (139 + 11 + 1) L.length d) (139 + 11 + 2) L.length w) (139 + 11 + 3) L.length who) (139 + 11 + 4) L.length much (139 + 11) 4 = nI L.length := by rw [xu_cell _ _ _ (by decide)]; exact e3
  rw [e4, nI_1]
  rintro M5 e5
  have f5 : cl1 M M5 := fun c j hc => by rw [e5]; simp only [xu_if]; rw [if_neg (by omega), if_neg (by omega), if_neg (by omega), if_neg (by omega), if_neg (by omega)]
  have c5 : CA 2 b n m i M5 := ca.mv (fun c j q1 q2 => by rw [e5]; simp only [xu_if]; rw [if_neg (by omega), if_neg (by omega), if_neg (by omega), if_neg (by omega), if_neg (by omega)]) (by rw [e5]; simp [xu_if]; exact ca.nx) ca.le
  refine s5_take (c := 59) c5 rfl (fun q8 M8 c8 f8 => ?_) (fun q M2 he => h2 q M2 (he.of f5.cfr))
  refine h1 q8 M8 c8 (f5.trans f8.cl1) ⟨?_, fun j hj => ?_⟩
  · rw [f8 150 4 (by omega), e5]; simp [xu_if]
  · rw [f8 151 j (by omega), f8 152 j (by omega), f8 153 j (by omega), f8 154 j (by omega), e5]
    rw [List.length_append] at hj
    by_cases hjl : j = L.length
    · subst hjl
      simp [xu_if, List.getD_eq_getElem?_getD]
      exact hx
    · have hj2 : j < L.length := by simp at hj; omega
      have hr := hR.2 j hj2
      simp [xu_if, hjl, List.getD_eq_getElem?_getD, List.getElem?_append_left hj2]
      simpa [List.getD_eq_getElem?_getD] using hr
theorem plC.cs {L : List (List Nat)} {M M2 : Mem} (h : plC L M) (f : cs1 M M2) : plC L M2 := ⟨by rw [f 150 4 (by omega)]; exact h.1, fun j hj => by rw [f 151 j (by omega), f 152 j (by omega), f 153 j (by omega), f 154 j (by omega)]; exact h.2 j hj⟩
theorem s5_planM {b : Nat → Nat} {n m i : Nat} {L : List (List Nat)} {M : Mem} {Q : Bool → Mem → Prop} {x : List Nat} {d w who much : Int32} (ca : CA 2 b n m i M) (hL : L.length < 16) (hR : plC L M) (hx : plR1 x d w who much) (h1 : ∀ y j M2, planM (tyT b n) (tyV b n) x i = .ok (y, j) → CA 2 b n m j M2 → cl1 M M2 → plC (L ++ [y]) M2 → Q true M2) (h2 : ∀ f e M2, planM (tyT b n) (tyV b n) x i = .error (f, e) → CErr b n f e M M2 → Q false M2) : NX5_planLine_180 Q 139 (139 + 11) d w who much M :=
  s5_planA ca hL hR hx (fun q M2 => h1 x (i + 1) M2 (if_pos q)) (fun q M2 => h2 1 i M2 (if_neg q))
