/-! lap: walks, pure -/
def ed (tl : Nat → Nat) (D p q : Nat) : Bool := decide (p ≠ q ∧ dN p q ≤ 2 ∧ dN (tl p) (tl q) ≤ D)
theorem ed_comm (tl : Nat → Nat) (D p q : Nat) : ed tl D p q = ed tl D q p := by
  unfold ed
  rw [dN_comm p q, dN_comm (tl p) (tl q)]
  congr 1
  simp only [ne_comm]
def wk (tl : Nat → Nat) (D P a : Nat) : Nat → Nat → Nat
  | 0, p => if p = a then 1 else 0
  | k + 1, p => sm (fun q => if ed tl D q p = true then wk tl D P a k q else 0) P
theorem sm_mono {f g : Nat → Nat} : ∀ {n m : Nat}, n ≤ m → (∀ k, k < n → f k ≤ g k) → sm f n ≤ sm g m
  | 0, m, _, _ => Nat.zero_le _
  | n + 1, 0, h, _ => by omega
  | n + 1, m + 1, h, hk => by
    by_cases e : n = m
    · subst e
      have := sm_mono (n := n) (m := n) (Nat.le_refl n) (fun k hk2 => hk k (by omega))
      have := hk n (by omega)
      simp only [sm]; omega
    · have := sm_mono (n := n + 1) (m := m) (by omega) hk
      simp only [sm] at this ⊢; omega
theorem sm_mul {c : Nat → Prop} [∀ k, Decidable (c k)] {x : Nat} : ∀ {n : Nat}, sm (fun k => if c k then x else 0) n = x * sm (fun k => if c k then 1 else 0) n
  | 0 => rfl
  | n + 1 => by
    simp only [sm]
    rw [sm_mul (n := n), Nat.mul_add]
    split <;> omega
theorem near4 : ∀ p, p < 10 → sm (fun q => if q ≠ p ∧ dN q p ≤ 2 then 1 else 0) 10 ≤ 4 := by decide +kernel
theorem wk_le {tl : Nat → Nat} {D P a : Nat} (hP : P ≤ 10) : ∀ k p, p < 10 → wk tl D P a k p ≤ 4 ^ k
  | 0, p, _ => by simp only [wk]; split <;> omega
  | k + 1, p, hp => by
    simp only [wk]
    have h1 : sm (fun q => if ed tl D q p = true then wk tl D P a k q else 0) P ≤ sm (fun q => if q ≠ p ∧ dN q p ≤ 2 then 4 ^ k else 0) 10 := sm_mono hP (fun q hq => by
      by_cases e : ed tl D q p = true
      · have e2 := of_decide_eq_true e
        rw [if_pos e, if_pos ⟨e2.1, e2.2.1⟩]
        exact wk_le hP k q (by omega)
      · rw [if_neg e]; exact Nat.zero_le _)
    rw [sm_mul] at h1
    have := Nat.mul_le_mul_left (4 ^ k) (near4 p hp)
    rw [Nat.pow_succ]
    omega
theorem pow4 : ∀ k, k ≤ 10 → 4 ^ k ≤ 1048576 := by decide
/-- the first time that a pillar is reached -/
def FH (tl : Nat → Nat) (D P a p k : Nat) : Prop := 0 < wk tl D P a k p ∧ ∀ j, j < k → wk tl D P a j p = 0
theorem sm_pos {f : Nat → Nat} : ∀ {n : Nat}, 0 < sm f n → ∃ k, k < n ∧ 0 < f k
  | 0, h => by simp [sm] at h
  | n + 1, h => by
    simp only [sm] at h
    rcases Nat.eq_zero_or_pos (f n) with z | z
    · obtain ⟨k, k1, k2⟩ := sm_pos (f := f) (n := n) (by omega)
      exact ⟨k, by omega, k2⟩
    · exact ⟨n, by omega, z⟩
theorem sm_ge {f : Nat → Nat} : ∀ {n k : Nat}, k < n → f k ≤ sm f n
  | 0, k, h => by omega
  | n + 1, k, h => by
    simp only [sm]
    by_cases e : k = n
    · subst e; omega
    · have := sm_ge (f := f) (n := n) (k := k) (by omega); omega
theorem wk_step {tl : Nat → Nat} {D P a k p q : Nat} (hp : p < P) (he : ed tl D p q = true) (h : 0 < wk tl D P a k p) : 0 < wk tl D P a (k + 1) q := by
  simp only [wk]
  have := sm_ge (f := fun p => if ed tl D p q = true then wk tl D P a k p else 0) hp
  rw [if_pos he] at this
  omega
theorem FH_prev {tl : Nat → Nat} {D P a q k : Nat} (h : FH tl D P a q (k + 1)) : ∃ p, p < P ∧ FH tl D P a p k := by
  obtain ⟨h1, h2⟩ := h
  simp only [wk] at h1
  obtain ⟨p, p1, p2⟩ := sm_pos h1
  by_cases e : ed tl D p q = true
  · rw [if_pos e] at p2
    refine ⟨p, p1, p2, fun j hj => ?_⟩
    rcases Nat.eq_zero_or_pos (wk tl D P a j p) with z | z
    · exact z
    · have := wk_step p1 e z
      have := h2 (j + 1) (by omega)
      omega
  · rw [if_neg e] at p2; omega
def hb (tl : Nat → Nat) (D P a : Nat) : Nat → Nat → Bool
  | 0, p => decide (0 < wk tl D P a 0 p)
  | k + 1, p => hb tl D P a k p || decide (0 < wk tl D P a (k + 1) p)
theorem hb_iff {tl : Nat → Nat} {D P a p : Nat} : ∀ {k : Nat}, hb tl D P a k p = true ↔ ∃ j, j ≤ k ∧ 0 < wk tl D P a j p
  | 0 => by
    simp only [hb, decide_eq_true_eq]
    constructor
    · intro h; exact ⟨0, Nat.le_refl 0, h⟩
    · rintro ⟨j, j1, j2⟩
      have : j = 0 := by omega
      subst this; exact j2
  | k + 1 => by
    simp only [hb, Bool.or_eq_true, decide_eq_true_eq]
    rw [hb_iff (k := k)]
    constructor
    · rintro (⟨j, j1, j2⟩ | h)
      · exact ⟨j, by omega, j2⟩
      · exact ⟨k + 1, Nat.le_refl _, h⟩
    · rintro ⟨j, j1, j2⟩
      by_cases e : j = k + 1
      · subst e; exact Or.inr j2
      · exact Or.inl ⟨j, by omega, j2⟩
theorem cnt_lt {f g : Nat → Bool} {j : Nat} : ∀ {n : Nat}, (∀ k, f k = true → g k = true) → j < n → f j = false → g j = true → cnt f n + 1 ≤ cnt g n
  | 0, _, h, _, _ => by omega
  | n + 1, hs, h, h1, h2 => by
    have mono : ∀ m, cnt f m ≤ cnt g m := by
      intro m
      induction m with
      | zero => exact Nat.le_refl _
      | succ m ih =>
        simp only [cnt]
        cases e : f m with
        | false => simp; omega
        | true => rw [hs m e]; simp; omega
    simp only [cnt]
    by_cases e : j = n
    · subst e
      rw [h1, h2]
      have := mono j
      simp; omega
    · have := cnt_lt (n := n) hs (by omega) h1 h2
      cases e2 : f n with
      | false => simp; omega
      | true => rw [hs n e2]; simp; omega
theorem cnt_le' {f : Nat → Bool} : ∀ n, cnt f n ≤ n
  | 0 => Nat.le_refl 0
  | n + 1 => by
    have := cnt_le' (f := f) n
    simp only [cnt]
    split <;> omega
theorem FH_bound {tl : Nat → Nat} {D P a : Nat} : ∀ {k q : Nat}, q < P → FH tl D P a q k → k + 1 ≤ cnt (hb tl D P a k) P
  | 0, q, hq, h => by
    have := cnt_lt (f := fun _ => false) (g := hb tl D P a 0) (j := q) (n := P) (fun k h => by cases h) hq rfl (hb_iff.mpr ⟨0, Nat.le_refl _, h.1⟩)
    omega
  | k + 1, q, hq, h => by
    obtain ⟨p, p1, p2⟩ := FH_prev h
    have ih := FH_bound p1 p2
    have := cnt_lt (f := hb tl D P a k) (g := hb tl D P a (k + 1)) (j := q) (n := P) (fun j hj => by
      obtain ⟨i, i1, i2⟩ := hb_iff.mp hj
      exact hb_iff.mpr ⟨i, by omega, i2⟩) hq (by
      cases e : hb tl D P a k q with
      | false => rfl
      | true =>
        obtain ⟨j, j1, j2⟩ := hb_iff.mp e
        have := h.2 j (by omega)
        omega) (hb_iff.mpr ⟨k + 1, Nat.le_refl _, h.1⟩)
    omega
theorem FH_le {tl : Nat → Nat} {D P a k q : Nat} (hq : q < P) (h : FH tl D P a q k) : k + 1 ≤ P := by
  have := FH_bound hq h
  have := cnt_le' (f := hb tl D P a k) P
  omega
theorem FH_or {tl : Nat → Nat} {D P a q : Nat} : ∀ n, (∃ k, k ≤ n ∧ FH tl D P a q k) ∨ ∀ k, k ≤ n → wk tl D P a k q = 0
  | 0 => by
    rcases Nat.eq_zero_or_pos (wk tl D P a 0 q) with z | z
    · right; intro k hk; have : k = 0 := by omega
      subst this; exact z
    · left; exact ⟨0, Nat.le_refl _, z, fun j hj => by omega⟩
  | n + 1 => by
    rcases FH_or (tl := tl) (D := D) (P := P) (a := a) (q := q) n with ⟨k, k1, k2⟩ | h
    · exact Or.inl ⟨k, by omega, k2⟩
    · rcases Nat.eq_zero_or_pos (wk tl D P a (n + 1) q) with z | z
      · right; intro k hk
        by_cases e : k = n + 1
        · subst e; exact z
        · exact h k (by omega)
      · left; exact ⟨n + 1, Nat.le_refl _, z, fun j hj => h j (by omega)⟩
theorem FH_u {tl : Nat → Nat} {D P a q j k : Nat} (h1 : FH tl D P a q j) (h2 : FH tl D P a q k) : j = k := by
  rcases Nat.lt_trichotomy j k with z | z | z
  · have := h2.2 j z; have := h1.1; omega
  · exact z
  · have := h1.2 k z; have := h2.1; omega
/-- reached at step s for the first time -/
def fhB (tl : Nat → Nat) (D P a s p : Nat) : Bool := decide (0 < wk tl D P a s p) && (match s with | 0 => true | s + 1 => !hb tl D P a s p)
theorem fhB_iff {tl : Nat → Nat} {D P a s p : Nat} : fhB tl D P a s p = true ↔ FH tl D P a p s := by
  unfold fhB FH
  cases s with
  | zero =>
    simp only [Bool.and_true, decide_eq_true_eq]
    constructor
    · intro h; exact ⟨h, fun j hj => by omega⟩
    · intro h; exact h.1
  | succ s =>
    simp only [Bool.and_eq_true, decide_eq_true_eq, Bool.not_eq_true']
    constructor
    · rintro ⟨h1, h2⟩
      refine ⟨h1, fun j hj => ?_⟩
      rcases Nat.eq_zero_or_pos (wk tl D P a j p) with z | z
      · exact z
      · rw [hb_iff.mpr ⟨j, by omega, z⟩] at h2; cases h2
    · rintro ⟨h1, h2⟩
      refine ⟨h1, ?_⟩
      cases e : hb tl D P a s p with
      | false => rfl
      | true =>
        obtain ⟨j, j1, j2⟩ := hb_iff.mp e
        have := h2 j (by omega)
        omega
/-- what has come from the pillars ahead of the p-th in this round -/
def Tw (tl : Nat → Nat) (D P a s q p : Nat) : Nat := sm (fun r => if fhB tl D P a s r = true ∧ ed tl D r q = true then wk tl D P a s r else 0) p
theorem Tw_full {tl : Nat → Nat} {D P a s q : Nat} (h : ∀ k, k ≤ s → wk tl D P a k q = 0) : Tw tl D P a s q P = wk tl D P a (s + 1) q := by
  unfold Tw
  simp only [wk]
  refine sm_congr (fun r hr => ?_)
  by_cases e : ed tl D r q = true
  · rw [if_pos e]
    by_cases f : fhB tl D P a s r = true
    · rw [if_pos ⟨f, e⟩]
    · rw [if_neg (fun z => f z.1)]
      rcases Nat.eq_zero_or_pos (wk tl D P a s r) with z | z
      · exact z.symm
      · exfalso
        apply f
        rw [fhB_iff]
        refine ⟨z, fun j hj => ?_⟩
        rcases Nat.eq_zero_or_pos (wk tl D P a j r) with y | y
        · exact y
        · have := wk_step hr e y
          have := h (j + 1) (by omega)
          omega
  · rw [if_neg e, if_neg (fun z => e z.2)]
/-- where a pillar stands, within a round -/
def MD (tl : Nat → Nat) (D P a s p q : Nat) (x y : Int32) : Prop :=
  (∃ k, k ≤ s ∧ FH tl D P a q k ∧ x = nI k ∧ y = nI (wk tl D P a k q)) ∨
  ((∀ k, k ≤ s → wk tl D P a k q = 0) ∧ ((Tw tl D P a s q p = 0 ∧ x = -1 ∧ y = 0) ∨ (0 < Tw tl D P a s q p ∧ x = nI (s + 1) ∧ y = nI (Tw tl D P a s q p))))
theorem Tw_same {tl : Nat → Nat} {D P a s q p : Nat} (h : ¬ (fhB tl D P a s p = true ∧ ed tl D p q = true)) : Tw tl D P a s q (p + 1) = Tw tl D P a s q p := by
  unfold Tw
  simp only [sm]
  rw [if_neg h]; rfl
theorem Tw_more {tl : Nat → Nat} {D P a s q p : Nat} (h : fhB tl D P a s p = true ∧ ed tl D p q = true) : Tw tl D P a s q (p + 1) = Tw tl D P a s q p + wk tl D P a s p := by
  unfold Tw
  simp only [sm]
  rw [if_pos h]
theorem MD_same {tl : Nat → Nat} {D P a s q p : Nat} {x y : Int32} (h : ¬ (fhB tl D P a s p = true ∧ ed tl D p q = true)) (hm : MD tl D P a s p q x y) : MD tl D P a s (p + 1) q x y := by
  unfold MD at *
  rw [Tw_same h]; exact hm
theorem MD_next {tl : Nat → Nat} {D P a s q : Nat} {x y : Int32} (hm : MD tl D P a s P q x y) : MD tl D P a (s + 1) 0 q x y := by
  rcases hm with ⟨k, k1, k2, k3⟩ | ⟨h1, h2⟩
  · exact Or.inl ⟨k, by omega, k2, k3⟩
  · rw [Tw_full h1] at h2
    rcases h2 with ⟨t1, t2, t3⟩ | ⟨t1, t2, t3⟩
    · refine Or.inr ⟨fun k hk => ?_, Or.inl ⟨rfl, t2, t3⟩⟩
      by_cases e : k = s + 1
      · subst e; exact t1
      · exact h1 k (by omega)
    · exact Or.inl ⟨s + 1, Nat.le_refl _, ⟨t1, fun j hj => h1 j (by omega)⟩, t2, t3⟩
theorem Tw_le {tl : Nat → Nat} {D P a s q p : Nat} (hp : p ≤ P) : Tw tl D P a s q p ≤ wk tl D P a (s + 1) q := by
  unfold Tw
  simp only [wk]
  refine sm_mono hp (fun r _ => ?_)
  by_cases e : ed tl D r q = true
  · rw [if_pos e]
    split
    · exact Nat.le_refl _
    · exact Nat.zero_le _
  · rw [if_neg (fun z => e z.2)]; exact Nat.zero_le _
