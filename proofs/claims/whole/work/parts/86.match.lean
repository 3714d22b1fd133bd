/-! the small steps of both readers -/
/-- what stays while the class reads -/
def cfr (M M2 : Mem) : Prop := ∀ c i, (c < 139 ∨ 161 < c) → M2 c i = M c i
/-- what stays while the reference reads -/
def rfr (M M2 : Mem) : Prop := ∀ c i, (sc c i = false ∨ c < 166) → M2 c i = M c i
def cs1 (M M2 : Mem) : Prop := ∀ c i, ¬ (c = 139 ∧ (i = 5 ∨ i = 6)) → M2 c i = M c i
def rs1 (M M2 : Mem) : Prop := ∀ c i, ¬ rdp c i → M2 c i = M c i
theorem cs1.cfr {M M2 : Mem} (h : cs1 M M2) : cfr M M2 := fun c i hc => h c i (by omega)
theorem cfr.trans {M M2 M3 : Mem} (h : cfr M M2) (h2 : cfr M2 M3) : cfr M M3 := fun c i hc => (h2 c i hc).trans (h c i hc)
theorem rfr.trans {M M2 M3 : Mem} (h : rfr M M2) (h2 : rfr M2 M3) : rfr M M3 := fun c i hc => (h2 c i hc).trans (h c i hc)
theorem cs1.trans {M M2 M3 : Mem} (h : cs1 M M2) (h2 : cs1 M2 M3) : cs1 M M3 := fun c i hc => (h2 c i hc).trans (h c i hc)
theorem rs1.trans {M M2 M3 : Mem} (h : rs1 M M2) (h2 : rs1 M2 M3) : rs1 M M3 := fun c i hc => (h2 c i hc).trans (h c i hc)
theorem rs1.rfr {M M2 : Mem} (h : rs1 M M2) : rfr M M2 := fun c i hc => h c i (by
  rintro ⟨rfl, h2, h3⟩
  rcases hc with hc | hc
  · have : i = 12 ∨ i = 13 ∨ i = 14 ∨ i = 15 := by omega
    rcases this with rfl | rfl | rfl | rfl <;> simp [sc] at hc
  · omega)
/-- the pieces -/
def tyT (b : Nat → Nat) (n i : Nat) : Nat := pcT b n (pos b n i)
def tyV (b : Nat → Nat) (n i : Nat) : Nat := pcV b n (pos b n i)
/-- the class stands at the piece i of m -/
def CA (k : Nat) (b : Nat → Nat) (n m i : Nat) (M : Mem) : Prop := M 139 5 = nI i ∧ i ≤ m ∧ M 158 3 = nI (m + 1) ∧ TKr k b n (m + 1) M ∧ m ≤ n ∧ n ≤ 400 ∧ pos b n m = n ∧ k < 4
theorem CA.nx {k : Nat} {b : Nat → Nat} {n m i : Nat} {M : Mem} (h : CA k b n m i M) : M 139 5 = nI i := h.1
theorem CA.le {k : Nat} {b : Nat → Nat} {n m i : Nat} {M : Mem} (h : CA k b n m i M) : i ≤ m := h.2.1
theorem CA.ct {k : Nat} {b : Nat → Nat} {n m i : Nat} {M : Mem} (h : CA k b n m i M) : M 158 3 = nI (m + 1) := h.2.2.1
theorem CA.tk {k : Nat} {b : Nat → Nat} {n m i : Nat} {M : Mem} (h : CA k b n m i M) : TKr k b n (m + 1) M := h.2.2.2.1
theorem CA.mn {k : Nat} {b : Nat → Nat} {n m i : Nat} {M : Mem} (h : CA k b n m i M) : m ≤ n := h.2.2.2.2.1
theorem CA.n4 {k : Nat} {b : Nat → Nat} {n m i : Nat} {M : Mem} (h : CA k b n m i M) : n ≤ 400 := h.2.2.2.2.2.1
theorem CA.en {k : Nat} {b : Nat → Nat} {n m i : Nat} {M : Mem} (h : CA k b n m i M) : pos b n m = n := h.2.2.2.2.2.2.1
theorem CA.k4 {k : Nat} {b : Nat → Nat} {n m i : Nat} {M : Mem} (h : CA k b n m i M) : k < 4 := h.2.2.2.2.2.2.2
/-- the reference stands at the piece i -/
def RA (b : Nat → Nat) (n i : Nat) (M : Mem) : Prop := RD b n (pos b n i) M ∧ BT b n M ∧ IX M ∧ M 166 11 = nI n ∧ n ≤ 400
theorem RA.rd {b : Nat → Nat} {n i : Nat} {M : Mem} (h : RA b n i M) : RD b n (pos b n i) M := h.1
theorem RA.bt {b : Nat → Nat} {n i : Nat} {M : Mem} (h : RA b n i M) : BT b n M := h.2.1
theorem RA.ix {b : Nat → Nat} {n i : Nat} {M : Mem} (h : RA b n i M) : IX M := h.2.2.1
theorem RA.le {b : Nat → Nat} {n i : Nat} {M : Mem} (h : RA b n i M) : M 166 11 = nI n := h.2.2.2.1
theorem RA.n4 {b : Nat → Nat} {n i : Nat} {M : Mem} (h : RA b n i M) : n ≤ 400 := h.2.2.2.2
def CErr (b : Nat → Nat) (n f i : Nat) (M M2 : Mem) : Prop := M2 139 10 = nI f ∧ M2 139 11 = nI (pos b n i) ∧ cfr M M2
def RErr (b : Nat → Nat) (n f i : Nat) (M M2 : Mem) : Prop := M2 166 29 = nI f ∧ M2 166 30 = nI (pos b n i) ∧ rfr M M2
theorem CErr.of {b : Nat → Nat} {n f i : Nat} {M M1 M2 : Mem} (h : cfr M M1) (h2 : CErr b n f i M1 M2) : CErr b n f i M M2 := ⟨h2.1, h2.2.1, h.trans h2.2.2⟩
theorem RErr.of {b : Nat → Nat} {n f i : Nat} {M M1 M2 : Mem} (h : rfr M M1) (h2 : RErr b n f i M1 M2) : RErr b n f i M M2 := ⟨h2.1, h2.2.1, h.trans h2.2.2⟩
theorem CA.lt {k : Nat} {b : Nat → Nat} {n m i : Nat} {M : Mem} (h : CA k b n m i M) (ht : tyT b n i ≠ 0) : i < m := by
  have := h.le
  have h2 : i ≠ m := by
    rintro rfl
    exact ht ((pcT_0 (pos_le _)).mpr h.en)
  omega
/-- a step that leaves the pieces as they are -/
theorem CA.mv {k : Nat} {b : Nat → Nat} {n m i j : Nat} {M M2 : Mem} (h : CA k b n m i M) (hf : ∀ c i, 158 ≤ c → c ≤ 161 → M2 c i = M c i) (h5 : M2 139 5 = nI j) (hj : j ≤ m) : CA k b n m j M2 := by
  refine ⟨h5, hj, (hf 158 3 (by omega) (by omega)).trans h.ct, fun t ht => ?_, h.mn, h.n4, h.en, h.k4⟩
  rw [hf 159 t (by omega) (by omega), hf 160 t (by omega) (by omega), hf 161 t (by omega) (by omega)]
  exact h.tk t ht
theorem RA.mv {b : Nat → Nat} {n i j : Nat} {M M2 : Mem} (h : RA b n i M) (hf : rfr M M2) (hr : RD b n (pos b n j) M2) : RA b n j M2 := by
  refine ⟨hr, fun t ht => ?_, ⟨fun t ht => ?_, ?_⟩, ?_, h.n4⟩
  · rw [hf 172 t (Or.inl rfl), hf 165 t (Or.inr (by omega))]; exact h.bt t ht
  · rw [hf 173 t (Or.inl rfl)]; exact h.ix.1 t ht
  · rw [hf 166 5 (Or.inl rfl)]; exact h.ix.2
  · rw [hf 166 11 (Or.inl rfl)]; exact h.le
theorem RD.cg {b : Nat → Nat} {n q : Nat} {M M2 : Mem} (h : RD b n q M) (hf : ∀ i, 12 ≤ i → i ≤ 15 → M2 166 i = M 166 i) : RD b n q M2 :=
  ⟨(hf 12 (by omega) (by omega)).trans h.1, (hf 13 (by omega) (by omega)).trans h.2.1, (hf 14 (by omega) (by omega)).trans h.2.2.1, fun w => (hf 15 (by omega) (by omega)).trans (h.2.2.2 w)⟩
theorem s5_kind {k : Nat} {b : Nat → Nat} {n m i : Nat} {M : Mem} {Q : Int32 → Prop} (ca : CA k b n m i M) (h : KR k (tyT b n i) (tyV b n i) (M 159 i) → Q (M 159 i)) : FX5_kind Q 139 M := by
  have := ca.le
  have := ca.mn
  have := ca.n4
  unfold FX5_kind
  rw [ca.nx, show M (139 + 19) 3 = nI (m + 1) from ca.ct]
  refine ⟨fun q => absurd ((nI_leI (by omega) (by omega)).mp q) (by omega), fun _ => ⟨fun q => absurd ((nI_leI (a := 401) (by omega) (by omega)).mp q) (by omega), fun _ => ⟨vp_in_nI (by omega) (by omega), ?_⟩⟩⟩
  rw [ixn (by omega)]
  exact h (ca.tk i (by omega)).1
theorem s5_refuse {k : Nat} {b : Nat → Nat} {n m i : Nat} {M : Mem} {Q : Bool → Mem → Prop} (f : Nat) (ca : CA k b n m i M) (h : ∀ M2, CErr b n f i M M2 → Q false M2) : FX5_refuse Q 139 (nI f) M := by
  have := ca.le
  have := ca.mn
  have := ca.n4
  unfold FX5_refuse NX5_refuse_50 NX5_refuse_51
  rintro M2 rfl
  have e1 : xu M 139 10 (nI f) 139 5 = nI i := by rw [xu_at _ _ _ (by decide)]; exact ca.nx
  have e2 : xu M 139 10 (nI f) (139 + 19) 3 = nI (m + 1) := by rw [xu_cell _ _ _ (by decide)]; exact ca.ct
  rw [e1, e2]
  refine ⟨fun q => absurd ((nI_leI (by omega) (by omega)).mp q) (by omega), fun _ => ⟨fun q => absurd ((nI_leI (a := 401) (by omega) (by omega)).mp q) (by omega), fun _ => ⟨vp_in_nI (by omega) (by omega), ?_⟩⟩⟩
  rintro M3 rfl
  refine h _ ⟨?_, ?_, fun c j hc => ?_⟩
  · simp [xu_if]
  · rw [xu_same, ixn (by omega), xu_cell _ _ _ (by decide)]
    exact (ca.tk i (by omega)).2.2
  · rw [xu_cell _ _ _ (by omega), xu_cell _ _ _ (by omega)]
theorem wk_lo : ∀ k, k < 4 → ∀ v, v < 24 → wkI k v = 202 ∨ ∃ j, j < 16 ∧ wkI k v = nI (300 + j) := by decide +kernel
/-- a word: the class's own number w, the reference's g -/
def wOk (k w g : Nat) : Prop := w < 16 ∧ ∀ v, v < 24 → (wkI k v = nI (300 + w) ↔ v = g)
theorem KR_w {k t v w g : Nat} {x : Int32} (hw : wOk k w g) (h : KR k t v x) : x = nI (300 + w) ↔ t = 2 ∧ v = g := by
  have hw1 := hw.1
  have ne : ∀ c, c < 300 → ¬ nI c = nI (300 + w) := fun c hc q => absurd ((nI_eq (by omega) (by omega)).mp q) (by omega)
  rcases h with ⟨h1, h2⟩ | ⟨h1, h2⟩ | ⟨h1, h2, h3⟩ | ⟨h1, h2, h3⟩ | ⟨h1, h2⟩
  · rw [h2]; exact ⟨fun q => absurd q (ne 200 (by omega)), fun q => by omega⟩
  · rw [h2]; exact ⟨fun q => absurd q (ne 201 (by omega)), fun q => by omega⟩
  · rw [h3, hw.2 v h2]; exact ⟨fun q => ⟨h1, q⟩, fun q => q.2⟩
  · rw [h2]
    have : v < 300 := by simp [isM] at h3; omega
    exact ⟨fun q => absurd q (ne v this), fun q => by omega⟩
  · rcases h2 with h2 | ⟨c, h2, h3, -⟩
    · rw [h2]; exact ⟨fun q => absurd q (ne 202 (by omega)), fun q => by omega⟩
    · rw [h3]; exact ⟨fun q => absurd q (ne c (by omega)), fun q => by omega⟩
theorem KR_s {k t v c : Nat} {x : Int32} (hk : k < 4) (hc : isM c = true) (h : KR k t v x) : x = nI c ↔ t = 4 ∧ v = c := by
  have hc1 : c < 128 := by simp [isM] at hc; omega
  have ne : ∀ d, 128 ≤ d → d < 1000 → ¬ nI d = nI c := fun d h1 h2 q => absurd ((nI_eq (by omega) (by omega)).mp q) (by omega)
  rcases h with ⟨h1, h2⟩ | ⟨h1, h2⟩ | ⟨h1, h2, h3⟩ | ⟨h1, h2, h3⟩ | ⟨h1, h2⟩
  · rw [h2]; exact ⟨fun q => absurd q (ne 200 (by omega) (by omega)), fun q => by omega⟩
  · rw [h2]; exact ⟨fun q => absurd q (ne 201 (by omega) (by omega)), fun q => by omega⟩
  · refine ⟨fun q => ?_, fun q => by omega⟩
    rcases wk_lo k hk v h2 with h4 | ⟨j, h4, h5⟩
    · exact absurd (h4.symm.trans (h3.symm.trans q)) (ne 202 (by omega) (by omega))
    · exact absurd (h5.symm.trans (h3.symm.trans q)) (ne _ (by omega) (by omega))
  · rw [h2]
    have : v < 128 := by simp [isM] at h3; omega
    exact ⟨fun q => ⟨h1, (nI_eq (by omega) (by omega)).mp q⟩, fun q => by rw [q.2]⟩
  · rcases h2 with h2 | ⟨d, h2, h3, h4⟩
    · rw [h2]; exact ⟨fun q => absurd q (ne 202 (by omega) (by omega)), fun q => by omega⟩
    · rw [h3]
      refine ⟨fun q => ?_, fun q => by omega⟩
      have : d = c := (nI_eq (by omega) (by omega)).mp q
      rw [this, hc] at h4
      cases h4
theorem KR_n {k t v d t' : Nat} {x : Int32} (hk : k < 4) (hd : (d = 200 ∧ t' = 0) ∨ (d = 201 ∧ t' = 3)) (h : KR k t v x) : x = nI d ↔ t = t' := by
  have ne : ∀ c, c < 1000 → c ≠ d → ¬ nI c = nI d := fun c h1 h2 q => h2 ((nI_eq (by omega) (by omega)).mp q)
  rcases h with ⟨h1, h2⟩ | ⟨h1, h2⟩ | ⟨h1, h2, h3⟩ | ⟨h1, h2, h3⟩ | ⟨h1, h2⟩
  · rcases hd with ⟨rfl, rfl⟩ | ⟨rfl, rfl⟩
    · exact ⟨fun _ => h1, fun _ => h2⟩
    · rw [h2]; exact ⟨fun q => absurd q (ne 200 (by omega) (by omega)), fun q => by omega⟩
  · rcases hd with ⟨rfl, rfl⟩ | ⟨rfl, rfl⟩
    · rw [h2]; exact ⟨fun q => absurd q (ne 201 (by omega) (by omega)), fun q => by omega⟩
    · exact ⟨fun _ => h1, fun _ => h2⟩
  · refine ⟨fun q => ?_, fun q => by omega⟩
    rcases wk_lo k hk v h2 with h4 | ⟨j, h4, h5⟩
    · exact absurd (h4.symm.trans (h3.symm.trans q)) (ne 202 (by omega) (by omega))
    · exact absurd (h5.symm.trans (h3.symm.trans q)) (ne _ (by omega) (by omega))
  · rw [h2]
    have : v < 128 := by simp [isM] at h3; omega
    exact ⟨fun q => absurd q (ne _ (by omega) (by omega)), fun q => by omega⟩
  · rcases h2 with h2 | ⟨c, h2, h3, h4⟩
    · rw [h2]; exact ⟨fun q => absurd q (ne 202 (by omega) (by omega)), fun q => by omega⟩
    · rw [h3]; exact ⟨fun q => absurd q (ne _ (by omega) (by omega)), fun q => by omega⟩
theorem s5_isWord {k : Nat} {b : Nat → Nat} {n m i w g : Nat} {M : Mem} {Q : Bool → Prop} (ca : CA k b n m i M) (hw : wOk k w g) (h1 : tyT b n i = 2 ∧ tyV b n i = g → Q true) (h2 : ¬ (tyT b n i = 2 ∧ tyV b n i = g) → Q false) : FX5_isWord Q 139 (nI w) M := by
  unfold FX5_isWord
  refine s5_kind ca (fun hK => ?_)
  have e : (300 : Int32) + nI w = nI (300 + w) := nI_add 300 w
  rw [e]
  have := KR_w hw hK
  exact ⟨fun q => h2 (fun q2 => q (this.mpr q2)), fun q => h1 (this.mp q)⟩
theorem CA.step {k : Nat} {b : Nat → Nat} {n m i : Nat} {M : Mem} (ca : CA k b n m i M) (ht : tyT b n i ≠ 0) : CA k b n m (i + 1) (xu M 139 5 (M 139 5 + 1)) ∧ cs1 M (xu M 139 5 (M 139 5 + 1)) := by
  have := ca.lt ht
  refine ⟨ca.mv (fun c j h1 h2 => xu_ne _ _ (by omega)) ?_ this, fun c j hc => xu_ne _ _ (fun q => hc ⟨q.1, Or.inl q.2⟩)⟩
  rw [xu_same, ca.nx, nI_1]
theorem s5_take {k : Nat} {b : Nat → Nat} {n m i c : Nat} {M : Mem} {Q : Bool → Mem → Prop} (ca : CA k b n m i M) (hc : isM c = true) (h1 : tyT b n i = 4 ∧ tyV b n i = c → ∀ M2, CA k b n m (i + 1) M2 → cs1 M M2 → Q true M2) (h2 : ¬ (tyT b n i = 4 ∧ tyV b n i = c) → ∀ M2, CErr b n 1 i M M2 → Q false M2) : FX5_take Q 139 (nI c) M := by
  unfold FX5_take
  refine s5_kind ca (fun hK => ?_)
  have := KR_s ca.k4 hc hK
  refine ⟨fun q => ?_, fun q => s5_refuse 1 ca (h2 (fun q2 => q (this.mpr q2)))⟩
  rintro M2 rfl
  have hq := this.mp q
  obtain ⟨c1, c2⟩ := ca.step (by rw [hq.1]; decide)
  exact h1 hq _ c1 c2
theorem s5_takeW {k : Nat} {b : Nat → Nat} {n m i w g : Nat} {M : Mem} {Q : Bool → Mem → Prop} (ca : CA k b n m i M) (hw : wOk k w g) (h1 : tyT b n i = 2 ∧ tyV b n i = g → ∀ M2, CA k b n m (i + 1) M2 → cs1 M M2 → Q true M2) (h2 : ¬ (tyT b n i = 2 ∧ tyV b n i = g) → ∀ M2, CErr b n 1 i M M2 → Q false M2) : FX5_take Q 139 (nI (300 + w)) M := by
  unfold FX5_take
  refine s5_kind ca (fun hK => ?_)
  have := KR_w hw hK
  refine ⟨fun q => ?_, fun q => s5_refuse 1 ca (h2 (fun q2 => q (this.mpr q2)))⟩
  rintro M2 rfl
  have hq := this.mp q
  obtain ⟨c1, c2⟩ := ca.step (by rw [hq.1]; decide)
  exact h1 hq _ c1 c2
theorem tyV_num {b : Nat → Nat} {n i : Nat} (h : tyT b n i = 3) : tyV b n i < 10000 := by
  unfold tyT at h
  unfold tyV
  have hp : pos b n i < n := by
    have := pos_le (b := b) (n := n) i
    by_cases e : pos b n i = n
    · rw [(pcT_0 this).mpr e] at h; omega
    · omega
  by_cases hL : isL (b (pos b n i)) = true
  · rw [pcT_L hp hL] at h
    split at h <;> omega
  · by_cases hD : isD (b (pos b n i)) = true
    · rw [pcT_D hp hD] at h
      rw [pcV_D hD]
      split at h
      · next h4 =>
        have rb := ren_bd (b := b) (n := n) (f := isD) (p := pos b n i + 1) (by omega)
        have := dgs_le (b := b) (p := pos b n i) (ren b n isD (pos b n i + 1) - pos b n i) (fun j hj => by
          by_cases hj0 : j = 0
          · rw [hj0]; exact hD
          · exact rb.2.2.1 _ (by omega) (by omega))
        exact Nat.lt_of_lt_of_le this (Nat.pow_le_pow_right (by omega) h4)
      · omega
    · rw [pcT_S hp (by simpa using hL) (by simpa using hD)] at h
      split at h <;> omega
theorem s5_numberHere {k : Nat} {b : Nat → Nat} {n m i : Nat} {M : Mem} {Q : Int32 → Prop} (ca : CA k b n m i M) (h3 : tyT b n i = 3) (h : Q (nI (tyV b n i))) : FX5_numberHere Q 139 M := by
  have := ca.le
  have := ca.mn
  have := ca.n4
  unfold FX5_numberHere
  rw [ca.nx, show M (139 + 19) 3 = nI (m + 1) from ca.ct]
  refine ⟨fun q => absurd ((nI_leI (by omega) (by omega)).mp q) (by omega), fun _ => ⟨fun q => absurd ((nI_leI (a := 401) (by omega) (by omega)).mp q) (by omega), fun _ => ⟨vp_in_nI (by omega) (by omega), ?_⟩⟩⟩
  rw [ixn (by omega), show M (139 + 19 + 2) i = nI (tyV b n i) from (ca.tk i (by omega)).2.1 h3]
  exact h
theorem s5_number {k : Nat} {b : Nat → Nat} {n m i lo hi : Nat} {M : Mem} {Q : Bool → Mem → Prop} (ca : CA k b n m i M) (hlo : lo < 10000) (hhi : hi < 10000) (h1 : tyT b n i = 3 → lo ≤ tyV b n i → tyV b n i ≤ hi → ∀ M2, CA k b n m (i + 1) M2 → cs1 M M2 → M2 139 6 = nI (tyV b n i) → Q true M2) (h2 : ¬ tyT b n i = 3 → ∀ M2, CErr b n 1 i M M2 → Q false M2) (h3 : tyT b n i = 3 → ¬ (lo ≤ tyV b n i ∧ tyV b n i ≤ hi) → ∀ M2, CErr b n 2 i M M2 → Q false M2) : FX5_number Q 139 (nI lo) (nI hi) M := by
  unfold FX5_number NX5_number_40
  refine s5_kind ca (fun hK => ?_)
  have := KR_n (d := 201) (t' := 3) ca.k4 (Or.inr ⟨rfl, rfl⟩) hK
  refine ⟨fun q => ?_, fun q => s5_refuse 1 ca (h2 (fun q2 => q (this.mpr q2)))⟩
  have ht := this.mp q
  refine s5_numberHere ca ht ?_
  rintro M5 rfl
  have hv := tyV_num ht
  have ca5 : CA k b n m i (xu M 139 6 (nI (tyV b n i))) := ca.mv (fun c j h1 h2 => xu_ne _ _ (by omega)) (by rw [xu_at _ _ _ (by decide)]; exact ca.nx) ca.le
  have f5 : cs1 M (xu M 139 6 (nI (tyV b n i))) := fun c j hc => xu_ne _ _ (fun q => hc ⟨q.1, Or.inr q.2⟩)
  rw [xu_same]
  refine ⟨fun q => ?_, fun q1 => ⟨fun q2 => ?_, fun q => ?_⟩⟩
  · have := (nI_ltI (by omega) (by omega)).mp q
    exact s5_refuse 2 ca5 (fun M2 he => h3 ht (by omega) M2 (he.of f5.cfr))
  · have q1' := mt (nI_ltI (a := tyV b n i) (b := lo) (by omega) (by omega)).mpr q1
    have q2' := (nI_leI (by omega) (by omega)).mp q2
    rintro M6 rfl
    obtain ⟨c1, c2⟩ := ca5.step (by rw [ht]; decide)
    exact h1 ht (by omega) q2' _ c1 (f5.trans c2) (by rw [xu_at _ _ _ (by decide), xu_same])
  · have := mt (nI_leI (a := tyV b n i) (b := hi) (by omega) (by omega)).mpr q
    exact s5_refuse 2 ca5 (fun M2 he => h3 ht (by omega) M2 (he.of f5.cfr))
theorem s5_begin {k : Nat} {b : Nat → Nat} {n m i w g l : Nat} {M : Mem} {Q : Bool → Mem → Prop} (ca : CA k b n m i M) (hw : wOk k w g) (hl : M 139 7 = nI l) (hl2 : l ≤ 16) (h1 : tyT b n i = 2 ∧ tyV b n i = g → l < 16 → ∀ M2, CA k b n m (i + 1) M2 → cs1 M M2 → Q true M2) (h2 : ¬ (tyT b n i = 2 ∧ tyV b n i = g) → ∀ M2, CErr b n 1 i M M2 → Q false M2) (h3 : tyT b n i = 2 ∧ tyV b n i = g → l = 16 → ∀ M2, CErr b n 3 i M M2 → Q false M2) : FX5_begin Q 139 (nI w) M := by
  unfold FX5_begin
  refine s5_isWord ca hw (fun q => ⟨fun _ => ?_, fun w => (by cases w)⟩) (fun q => ⟨fun w => (by cases w), fun _ => s5_refuse 1 ca (h2 q)⟩)
  rw [hl]
  refine ⟨fun w => ?_, fun w => ?_⟩
  · have := (nI_ltI (b := 16) (by omega) (by omega)).mp w
    rintro M2 rfl
    obtain ⟨c1, c2⟩ := ca.step (by rw [q.1]; decide)
    exact h1 q this _ c1 c2
  · have := mt (nI_ltI (a := l) (b := 16) (by omega) (by omega)).mpr w
    exact s5_refuse 3 ca (h3 q (by omega))
/-- the reference goes on to the next piece -/
theorem s12_next {b : Nat → Nat} {n i : Nat} {M : Mem} {Q : Mem → Prop} (ra : RA b n i M) (h : ∀ M2, RA b n (i + 1) M2 → rs1 M M2 → Q M2) : FX12_reads Q 166 M :=
  s12_reads ra.bt ra.ix ra.n4 ra.le (pcE_bd (pos_le i)).2.1 ra.rd.1 (fun M2 hr hf => h M2 (ra.mv (rs1.rfr hf) hr) hf)
theorem s12_errs {b : Nat → Nat} {n i : Nat} {M : Mem} {Q : Int32 → Mem → Prop} (f : Nat) (ra : RA b n i M) (h : ∀ M2, RErr b n f i M M2 → Q (-1) M2) : FX12_errs Q 166 (nI f) M := by
  unfold FX12_errs
  rintro M1 rfl M2 rfl
  refine h _ ⟨?_, ?_, fun c j hc => ?_⟩
  · simp [xu_if]
  · rw [xu_same, xu_at _ _ _ (by decide)]; exact ra.rd.2.1
  · rw [xu_ne _ _ (by rintro ⟨rfl, rfl⟩; rcases hc with hc | hc; simp [sc] at hc; omega), xu_ne _ _ (by rintro ⟨rfl, rfl⟩; rcases hc with hc | hc; simp [sc] at hc; omega)]
theorem pcT_le (b : Nat → Nat) (n p : Nat) : pcT b n p < 5 := by
  unfold pcT
  repeat' split
  all_goals omega
theorem tyT_le (b : Nat → Nat) (n i : Nat) : tyT b n i < 5 := pcT_le b n _
theorem RA.t {b : Nat → Nat} {n i : Nat} {M : Mem} (ra : RA b n i M) {c : Nat} (hc : c < 5) : M 166 14 = nI c ↔ tyT b n i = c := by
  rw [ra.rd.2.2.1]
  have := tyT_le b n i
  exact nI_eq (by show tyT b n i < _; omega) (by omega)
theorem tyV_le {b : Nat → Nat} {n i : Nat} (h : 2 ≤ tyT b n i) (hb : ∀ j, j < n → b j < 256) : tyV b n i < 10000 := by
  by_cases h3 : tyT b n i = 3
  · exact tyV_num h3
  · unfold tyT at h h3
    unfold tyV
    have hp : pos b n i < n := by
      have := pos_le (b := b) (n := n) i
      by_cases e : pos b n i = n
      · rw [(pcT_0 this).mpr e] at h; omega
      · omega
    by_cases hL : isL (b (pos b n i)) = true
    · rw [pcV_L hL]
      cases hw : wof b n (pos b n i) with
      | none => exact (by decide : (0 : Nat) < 10000)
      | some g =>
        have hg := (wix_some _ _ _ _ hw).2.1
        rw [gW_n] at hg
        show g < 10000
        omega
    · by_cases hD : isD (b (pos b n i)) = true
      · rw [pcT_D hp hD] at h h3
        split at h
        · next h4 => rw [if_pos h4] at h3; exact absurd rfl h3
        · omega
      · rw [pcV_S (by simpa using hL) (by simpa using hD)]
        have := hb _ hp
        omega
theorem RA.v {b : Nat → Nat} {n i : Nat} {M : Mem} (ra : RA b n i M) {c : Nat} (ht : 2 ≤ tyT b n i) (hc : c < 10000) : M 166 15 = nI c ↔ tyV b n i = c := by
  have := tyV_le ht (fun j hj => (ra.bt j hj).1)
  rw [ra.rd.2.2.2 ht]
  exact nI_eq (by show tyV b n i < _; omega) (by omega)
theorem s12_isWord {b : Nat → Nat} {n i g : Nat} {M : Mem} {Q : Bool → Prop} (ra : RA b n i M) (hg : g < 24) (h1 : tyT b n i = 2 ∧ tyV b n i = g → Q true) (h2 : ¬ (tyT b n i = 2 ∧ tyV b n i = g) → Q false) : FX12_isWord Q 166 (nI g) M := by
  unfold FX12_isWord
  refine ⟨fun q => h2 (fun w => q ((ra.t (c := 2) (by omega)).mpr w.1)), fun q => ?_⟩
  have ht := (ra.t (c := 2) (by omega)).mp q
  refine ⟨fun q => h2 (fun w => q ((ra.v (by omega) (by omega)).mpr w.2)), fun q => h1 ⟨ht, (ra.v (by omega) (by omega)).mp q⟩⟩
theorem s12_isSign {b : Nat → Nat} {n i g : Nat} {M : Mem} {Q : Bool → Prop} (ra : RA b n i M) (hg : g < 256) (h1 : tyT b n i = 4 ∧ tyV b n i = g → Q true) (h2 : ¬ (tyT b n i = 4 ∧ tyV b n i = g) → Q false) : FX12_isSign Q 166 (nI g) M := by
  unfold FX12_isSign
  refine ⟨fun q => h2 (fun w => q ((ra.t (c := 4) (by omega)).mpr w.1)), fun q => ?_⟩
  have ht := (ra.t (c := 4) (by omega)).mp q
  refine ⟨fun q => h2 (fun w => q ((ra.v (by omega) (by omega)).mpr w.2)), fun q => h1 ⟨ht, (ra.v (by omega) (by omega)).mp q⟩⟩
theorem s12_readNumber {b : Nat → Nat} {n i lo hi : Nat} {M : Mem} {Q : Int32 → Mem → Prop} (ra : RA b n i M) (hlo : lo < 10000) (hhi : hi < 10000) (h1 : tyT b n i = 3 → lo ≤ tyV b n i → tyV b n i ≤ hi → ∀ M2, RA b n (i + 1) M2 → rs1 M M2 → Q (nI (tyV b n i)) M2) (h2 : ¬ tyT b n i = 3 → ∀ M2, RErr b n 1 i M M2 → Q (-1) M2) (h3 : tyT b n i = 3 → ¬ (lo ≤ tyV b n i ∧ tyV b n i ≤ hi) → ∀ M2, RErr b n 2 i M M2 → Q (-1) M2) : FX12_readNumber Q 166 (nI lo) (nI hi) M := by
  unfold FX12_readNumber
  refine ⟨fun q => ?_, fun q => s12_errs 1 ra (h2 (fun w => q ((ra.t (c := 3) (by omega)).mpr w)))⟩
  have ht := (ra.t (c := 3) (by omega)).mp q
  have hv := tyV_num ht
  have e15 : M 166 15 = nI (tyV b n i) := ra.rd.2.2.2 (by show 2 ≤ tyT b n i; omega)
  rw [e15]
  refine s12_isIn ⟨fun w => ?_, fun w => ?_⟩
  · have w' := of_decide_eq_true w
    exact s12_next ra (h1 ht ((nI_leI (by omega) (by omega)).mp w'.1) ((nI_leI (by omega) (by omega)).mp w'.2))
  · have w' := of_decide_eq_false w
    exact s12_errs 2 ra (h3 ht (fun r => w' ⟨(nI_leI (by omega) (by omega)).mpr r.1, (nI_leI (by omega) (by omega)).mpr r.2⟩))
theorem s12_readMark {b : Nat → Nat} {n i g : Nat} {M : Mem} {Q : Int32 → Mem → Prop} (ra : RA b n i M) (hg : g < 256) (h1 : tyT b n i = 4 ∧ tyV b n i = g → ∀ M2, RA b n (i + 1) M2 → rs1 M M2 → Q 0 M2) (h2 : ¬ (tyT b n i = 4 ∧ tyV b n i = g) → ∀ M2, RErr b n 1 i M M2 → Q (-1) M2) : FX12_readMark Q 166 (nI g) M := by
  unfold FX12_readMark
  exact s12_isSign ra hg (fun q => ⟨fun _ => s12_next ra (h1 q), fun w => (by cases w)⟩) (fun q => ⟨fun w => (by cases w), fun _ => s12_errs 1 ra (h2 q)⟩)
theorem s12_readTold {b : Nat → Nat} {n i g lo hi : Nat} {M : Mem} {Q : Int32 → Mem → Prop} (ra : RA b n i M) (hg : g < 24) (hlo : lo < 10000) (hhi : hi < 10000) (h0 : ¬ (tyT b n i = 2 ∧ tyV b n i = g) → ∀ M2, RErr b n 1 i M M2 → Q (-1) M2) (h1 : tyT b n i = 2 ∧ tyV b n i = g → tyT b n (i + 1) = 3 → lo ≤ tyV b n (i + 1) → tyV b n (i + 1) ≤ hi → ∀ M2, RA b n (i + 2) M2 → rs1 M M2 → Q (nI (tyV b n (i + 1))) M2) (h2 : tyT b n i = 2 ∧ tyV b n i = g → ¬ tyT b n (i + 1) = 3 → ∀ M2, RErr b n 1 (i + 1) M M2 → Q (-1) M2) (h3 : tyT b n i = 2 ∧ tyV b n i = g → tyT b n (i + 1) = 3 → ¬ (lo ≤ tyV b n (i + 1) ∧ tyV b n (i + 1) ≤ hi) → ∀ M2, RErr b n 2 (i + 1) M M2 → Q (-1) M2) : FX12_readTold Q 166 (nI g) (nI lo) (nI hi) M := by
  unfold FX12_readTold
  refine s12_isWord ra hg (fun q => ⟨fun _ => ?_, fun w => (by cases w)⟩) (fun q => ⟨fun w => (by cases w), fun _ => s12_errs 1 ra (h0 q)⟩)
  refine s12_next ra (fun M1 ra1 f1 => ?_)
  exact s12_readNumber ra1 hlo hhi (fun a1 a2 a3 M2 ra2 f2 => h1 q a1 a2 a3 M2 ra2 (f1.trans f2)) (fun a1 M2 he => h2 q a1 M2 (he.of f1.rfr)) (fun a1 a2 M2 he => h3 q a1 a2 M2 (he.of f1.rfr))
