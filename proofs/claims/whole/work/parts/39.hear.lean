/-! hears -/
def Hr (t : Nat → Int32) (a b : Nat) : Prop := ∀ p, min a b < p → p < max a b → t p < mn (t a) (t b)
theorem s9_hear {Q : Bool → Prop} {w P a b : Nat} {M : Mem} (hP : M w 10 = nI P) (h10 : P ≤ 10) (ha : a < P) (hb : b < P) (hab : a ≠ b) (hy : Hr (M (w + 1)) a b → Q true) (hn : ¬ Hr (M (w + 1)) a b → Q false) : FX9_hearOneAnother Q w (nI a) (nI b) M := by
  unfold FX9_hearOneAnother
  refine s9_isPillar hP (by omega) (fun _ _ _ => ⟨fun h => (by cases h), fun _ => s9_isPillar hP (by omega) (fun _ _ _ => ⟨fun _ => ⟨vp_in_nI (by omega) (by decide), vp_in_nI (by omega) (by decide), s_min (s_max (s_min ?_))⟩, fun h => (by cases h)⟩) (fun hn => absurd rfl (hn b hb))⟩) (fun hn => absurd rfl (hn a ha))
  rw [mnN (by omega) (by omega), mxN (by omega) (by omega), ixn (by omega), ixn (by omega), nI_1]
  unfold NX9_hearOneAnother_50
  refine xlp_for (fun r x => ∃ k, k + r = max a b ∧ min a b < k ∧ x = nI k ∧ ∀ p, min a b < p → p < k → M (w + 1) p < mn (M (w + 1) a) (M (w + 1) b)) ?_ ?_ (max a b - (min a b + 1)) (nI (min a b + 1)) ⟨_, by omega, by omega, rfl, fun p h1 h2 => by omega⟩
  · rintro x B ⟨k, hk, h1, rfl, h2⟩
    unfold lbX9_hearOneAnother_50
    refine ⟨fun _ => hy (fun p h3 h4 => h2 p h3 (by omega)), fun hc => absurd (nI_le (by omega) (by omega)) hc⟩
  · rintro r x B ⟨k, hk, h1, rfl, h2⟩ hB
    unfold lbX9_hearOneAnother_50
    rw [ixn (by omega)]
    refine ⟨fun hc => absurd hc (nI_ge (by omega) (by omega)), fun _ => ⟨vp_in_nI (by omega) (by decide), fun h3 => hB _ ⟨k + 1, by omega, by omega, nI_1 k, fun p h4 h5 => ?_⟩, fun h3 => hn (fun q => h3 (q k h1 (by omega)))⟩⟩
    rcases Nat.lt_or_ge p k with h6 | h6
    · exact h2 p h4 h6
    · have : p = k := by omega
      subst this; exact h3
theorem s12_hear {Q : Bool → Prop} {P a b : Nat} {M : Mem} (h10 : P ≤ 10) (ha : a < P) (hb : b < P) (hab : a ≠ b) (hy : Hr (fun k => M 167 (63 + k)) a b → Q true) (hn : ¬ Hr (fun k => M 167 (63 + k)) a b → Q false) : FX12_hearsOne Q 166 (nI a) (nI b) M := by
  unfold FX12_hearsOne
  refine ⟨vp63 (by omega), vp63 (by omega), s12_lesser (s12_lesser ?_)⟩
  rw [mnN (by omega) (by omega), ix63 (by omega), ix63 (by omega), nI_1]
  unfold NX12_hearsOne_33
  refine xlp_for (fun r x => ∃ k, k + r = max a b ∧ min a b < k ∧ x = nI k ∧ ∀ p, min a b < p → p < k → M 167 (63 + p) < mn (M 167 (63 + a)) (M 167 (63 + b))) ?_ ?_ (max a b - (min a b + 1)) (nI (min a b + 1)) ⟨_, by omega, by omega, rfl, fun p h1 h2 => by omega⟩
  · rintro x B ⟨k, hk, h1, rfl, h2⟩
    unfold lbX12_hearsOne_33
    refine s12_greater ?_
    rw [mxN (by omega) (by omega)]
    refine ⟨fun _ => hy (fun p h3 h4 => h2 p h3 (by omega)), fun hc => absurd (nI_le (by omega) (by omega)) hc⟩
  · rintro r x B ⟨k, hk, h1, rfl, h2⟩ hB
    unfold lbX12_hearsOne_33
    refine s12_greater ?_
    rw [mxN (by omega) (by omega), ix63 (by omega)]
    refine ⟨fun hc => absurd hc (nI_ge (by omega) (by omega)), fun _ => ⟨vp63 (by omega), fun h3 => hB _ ⟨k + 1, by omega, by omega, nI_1 k, fun p h4 h5 => ?_⟩, fun h3 => hn (fun q => h3 (q k h1 (by omega)))⟩⟩
    rcases Nat.lt_or_ge p k with h6 | h6
    · exact h2 p h4 h6
    · have : p = k := by omega
      subst this; exact h3
def oI : Option Nat → Int32
  | none => -1
  | some k => nI k
def hearF (h : Nat → Bool) (p : Nat) (k : Nat) (s : Nat × Option Nat) : Nat × Option Nat :=
  if h k = true then (s.1 + 1, match s.2 with | none => some k | some j => if dN j p < dN k p then some k else some j) else s
theorem hearF_lt {h : Nat → Bool} {p : Nat} : ∀ n, ∀ j, (fo (hearF h p) (0, none) n).2 = some j → j < n := by
  intro n
  refine fo_inv (n := n) (fun k (s : Nat × Option Nat) => ∀ j, s.2 = some j → j < k) (fun j h => (by cases h)) ?_ n (Nat.le_refl n)
  rintro k ⟨a, b⟩ hk ih j hj
  unfold hearF at hj
  split at hj
  · cases b with
    | none => simp at hj; omega
    | some i =>
      have := ih i rfl
      simp at hj
      split at hj <;> (simp at hj; omega)
  · have := ih j hj
    omega
theorem q_hears : lq_hears Inv := by
  intro M a1 a2 hI
  obtain ⟨P, N, g, ⟨⟨w1, w2, w3, w4, w5, w6⟩, -⟩, -, -⟩ := hI.1.1
  have cw : CW 2 M M := hI.2.1.1
  have hP : M 2 10 = nI P := by rw [← w1]; exact cw.1.1
  have tw : xu M 166 0 0 166 6 = nI P := by rw [told_ne (by decide)]; exact w1
  have no : ((∀ k, k < P → a1 ≠ nI k) ∨ ¬ (0 ≤ a2 ∧ a2 ≤ 1)) → FX12_hears (fun r2 M2 => (-1 : Int32) = r2 ∧ Inv M2) 166 a1 a2 M := by
    intro ha
    unfold FX12_hears
    rintro M4 rfl
    refine s12_isPillar tw (by omega) (fun k hk e => ⟨fun h => (by cases h), fun _ => s12_isIn ?_⟩) (fun _ => ⟨fun _ => ⟨rfl, Inv_told hI 0⟩, fun h => (by cases h)⟩)
    rw [decide_eq_false (fun q => ha.elim (fun h => h k hk e) (fun h => h q))]
    exact ⟨fun h => (by cases h), fun _ => ⟨rfl, Inv_told hI 0⟩⟩
  unfold FX11_hears
  refine s9_isPillar hP (by omega) (fun p hp e => ⟨fun h => (by cases h), fun _ => ?_⟩) (fun hn => ⟨fun _ => no (Or.inl hn), fun h => (by cases h)⟩)
  subst e
  refine ⟨fun h => no (Or.inr (fun q => absurd q.1 (Int32.not_le.mpr h))), fun h0 => ⟨fun h1 => ?_, fun h1 => no (Or.inr (fun q => h1 q.2))⟩⟩
  let h : Nat → Bool := fun k => @decide (k ≠ p ∧ Hr (M 3) p k) (Classical.propDecidable _)
  let s : Nat → Nat × Option Nat := fo (hearF h p) (0, none)
  have hlt := hearF_lt (h := h) (p := p)
  have hS : ∀ k, s (k + 1) = hearF h p k (s k) := fun k => rfl
  have ref : FX12_hears (fun r2 M2 => (if a2 = 0 then nI (s P).1 else oI (s P).2) = r2 ∧ Inv M2) 166 (nI p) a2 M := by
    unfold FX12_hears
    rintro M4 rfl
    refine s12_isPillar tw (by omega) (fun k hk e => ⟨fun h => (by cases h), fun _ => s12_isIn ?_⟩) (fun hn => absurd rfl (hn p hp))
    rw [decide_eq_true ⟨Int32.not_lt.mp h0, h1⟩]
    refine ⟨fun _ => ?_, fun h => (by cases h)⟩
    unfold NX12_hears_33
    refine xlp_fo (hearF h p) (0, none) P (fun k s => (nI s.1, oI s.2, nI k)) _ rfl (fun B => ?_) (fun k B hk hB => ?_)
    · show lbX12_hears_33 _ 166 (nI p) a2 _ (fun l3 l4 l5 => B (l3, l4, l5)) (nI (s P).1) (oI (s P).2) (nI P)
      unfold lbX12_hears_33
      rw [tw]
      refine ⟨fun _ => ⟨fun h => ⟨by rw [if_neg h], Inv_told hI 0⟩, fun h => ⟨by rw [if_pos h], Inv_told hI 0⟩⟩, fun hc => absurd (nI_le (by omega) (by omega)) hc⟩
    · show lbX12_hears_33 _ 166 (nI p) a2 _ (fun l3 l4 l5 => B (l3, l4, l5)) (nI (s k).1) (oI (s k).2) (nI k)
      have hB : B (nI (hearF h p k (s k)).1, oI (hearF h p k (s k)).2, nI (k + 1)) := hB
      unfold lbX12_hears_33
      rw [tw, nI_eq (by omega) (by omega)]
      refine ⟨fun hc => absurd hc (nI_ge (by omega) (by omega)), fun _ => ⟨fun e => ?_, fun e => s12_hear w4 hp hk (fun q => e q.symm) (fun q => ⟨fun _ => ?_, fun h => (by cases h)⟩) (fun q => ⟨fun h => (by cases h), fun _ => ?_⟩)⟩⟩
      · have hk0 : h k = false := by simp [h, e]
        simp only [hearF, hk0] at hB
        rw [nI_1]; exact hB
      · have q : Hr (M 3) p k := fun j h1 h2 => by
          have := q j h1 h2
          simp only [told_ne (M := M) (c := 167) (by omega)] at this
          rw [(cw.2.2 j (by omega)).1, (cw.2.2 p (by omega)).1, (cw.2.2 k (by omega)).1]; exact this
        have hk1 : h k = true := by simp [h, e, q]
        simp only [hearF, hk1, if_true] at hB
        cases hb : (s k).2 with
        | none =>
          rw [hb] at hB
          refine ⟨fun _ => ?_, fun h => absurd rfl h⟩
          rw [nI_1, nI_1]; exact hB
        | some j =>
          have hj : j < k := hlt k j hb
          rw [hb] at hB
          refine ⟨fun h => absurd h (by simp only [oI]; intro e; have := nI_pos (n := j) (by omega); rw [e] at this; exact this (by decide)), fun _ => ?_⟩
          have d1 : dN j p ≤ 99 := dN_le (by omega) (by omega)
          have d2 : dN k p ≤ 99 := dN_le (by omega) (by omega)
          refine s12_far (by omega) (by omega) (s12_far (by omega) (by omega) ?_)
          rw [nI_leI (by omega) (by omega), nI_1, nI_1]
          refine ⟨fun h => ?_, fun h => ?_⟩
          · simp only [if_neg (Nat.not_lt.mpr h)] at hB; exact hB
          · simp only [if_pos (Nat.not_le.mp h)] at hB; exact hB
      · have q : ¬ Hr (M 3) p k := fun q2 => q (fun j h1 h2 => by
          have := q2 j h1 h2
          simp only [told_ne (M := M) (c := 167) (by omega)]
          rw [(cw.2.2 j (by omega)).1, (cw.2.2 p (by omega)).1, (cw.2.2 k (by omega)).1] at this; exact this)
        have hk0 : h k = false := by simp [h, q]
        simp only [hearF, hk0] at hB
        rw [nI_1]; exact hB
  unfold NX11_hears_36
  refine xlp_fo (hearF h p) (0, none) P (fun k s => (nI s.1, oI s.2, nI k)) _ rfl (fun B => ?_) (fun k B hk hB => ?_)
  · show lbX11_hears_36 _ (nI p) a2 2 _ (fun l3 l4 l5 => B (l3, l4, l5)) (nI (s P).1) (oI (s P).2) (nI P)
    unfold lbX11_hears_36
    rw [hP]
    refine ⟨fun _ => ⟨fun h => ?_, fun h => ?_⟩, fun hc => absurd (nI_le (by omega) (by omega)) hc⟩
    · rw [if_neg h] at ref; exact ref
    · rw [if_pos h] at ref; exact ref
  · show lbX11_hears_36 _ (nI p) a2 2 _ (fun l3 l4 l5 => B (l3, l4, l5)) (nI (s k).1) (oI (s k).2) (nI k)
    have hB : B (nI (hearF h p k (s k)).1, oI (hearF h p k (s k)).2, nI (k + 1)) := hB
    unfold lbX11_hears_36
    rw [hP, nI_eq (by omega) (by omega)]
    refine ⟨fun hc => absurd hc (nI_ge (by omega) (by omega)), fun _ => ⟨fun e => ?_, fun e => s9_hear hP w4 hp hk (fun q => e q.symm) (fun q => ⟨fun h => (by cases h), fun _ => ?_⟩) (fun q => ⟨fun _ => ?_, fun h => (by cases h)⟩)⟩⟩
    · have hk0 : h k = false := by simp [h, e]
      simp only [hearF, hk0] at hB
      rw [nI_1]; exact hB
    · have hk1 : h k = true := by simp [h, e]; exact q
      simp only [hearF, hk1, if_true] at hB
      cases hb : (s k).2 with
      | none =>
        rw [hb] at hB
        refine ⟨fun _ => ?_, fun h => absurd rfl h⟩
        rw [nI_1, nI_1]; exact hB
      | some j =>
        have hj : j < k := hlt k j hb
        rw [hb] at hB
        refine ⟨fun h => absurd h (by simp only [oI]; intro e; have := nI_pos (n := j) (by omega); rw [e] at this; exact this (by decide)), fun _ => ?_⟩
        have d1 : dN j p ≤ 99 := dN_le (by omega) (by omega)
        have d2 : dN k p ≤ 99 := dN_le (by omega) (by omega)
        refine s_abs (by omega) (by omega) (s_abs (by omega) (by omega) ?_)
        rw [nI_leI (by omega) (by omega), nI_1, nI_1]
        refine ⟨fun h => ?_, fun h => ?_⟩
        · simp only [if_neg (Nat.not_lt.mpr h)] at hB; exact hB
        · simp only [if_pos (Nat.not_le.mp h)] at hB; exact hB
    · have hk0 : h k = false := by simp [h]; exact fun _ => q
      simp only [hearF, hk0] at hB
      rw [nI_1]; exact hB
