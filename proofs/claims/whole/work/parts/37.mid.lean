/-! middle -/
def dN (a b : Nat) : Nat := if a ≤ b then b - a else a - b
theorem dN_le {a b : Nat} (ha : a ≤ 99) (hb : b ≤ 99) : dN a b ≤ 99 := by unfold dN; split <;> omega
theorem dN_comm (a b : Nat) : dN a b = dN b a := by unfold dN; split <;> split <;> omega
theorem s_abs {Q : Int32 → Prop} {a b : Nat} {M : Mem} (ha : a < 2 ^ 30) (hb : b < 2 ^ 30) (h : Q (nI (dN a b))) : FJ9_abs_0f7a4 Q (nI a - nI b) M := by
  unfold FJ9_abs_0f7a4
  have e := pk_sub_toInt ha hb
  unfold dN at h
  refine ⟨fun h0 => ?_, fun h0 => ?_⟩
  · have h1 : (0 : Int32).toInt ≤ (nI a - nI b).toInt := Int32.le_iff_toInt_le.mp h0
    rw [e] at h1
    have h1 : (0 : Int) ≤ a - b := h1
    have h2 : b ≤ a := by omega
    rw [pk_sub h2]
    split at h
    · have : a = b := by omega
      subst this; exact h
    · exact h
  · have h1 : ¬ (0 : Int32).toInt ≤ (nI a - nI b).toInt := fun q => h0 (Int32.le_iff_toInt_le.mpr q)
    rw [e] at h1
    have h1 : ¬ (0 : Int) ≤ a - b := h1
    have h2 : a ≤ b := by omega
    rw [if_pos h2, ← pk_sub h2] at h
    rw [Int32.neg_sub]; exact h
theorem s12_far {Q : Int32 → Prop} {a b : Nat} {M : Mem} (ha : a < 2 ^ 30) (hb : b < 2 ^ 30) (h : Q (nI (dN a b))) : FX12_far Q 166 (nI a) (nI b) M := by
  unfold FX12_far
  unfold dN at h
  rw [nI_leI (by omega) (by omega)]
  refine ⟨fun h0 => ?_, fun h0 => ?_⟩
  · rw [pk_sub h0]; rwa [if_pos h0] at h
  · rw [pk_sub (by omega)]; rwa [if_neg h0] at h
/-- how far all who sit have to a pillar -/
def wN (t : Nat → Nat) (s : Nat → Bool) (p : Nat) : Nat → Nat
  | 0 => 0
  | k + 1 => wN t s p k + (if s k then dN (t p) (t k) else 0)
theorem wN_le {t : Nat → Nat} {s : Nat → Bool} {p P : Nat} (ht : ∀ k, k < P → t k ≤ 99) (hp : p < P) : ∀ {k}, k ≤ P → wN t s p k ≤ 99 * k
  | 0, _ => Nat.le_refl 0
  | k + 1, h => by
    have ih := wN_le (s := s) ht hp (k := k) (by omega)
    have := dN_le (ht p hp) (ht k (by omega))
    simp only [wN]
    split <;> omega
theorem s9_wayTo {Q : Int32 → Prop} {w P p : Nat} {M : Mem} {t : Nat → Nat} {s : Nat → Bool} (hP : M w 10 = nI P) (h10 : P ≤ 10) (hp : p < P) (ht : ∀ k, k < P → M (w + 1) k = nI (t k) ∧ t k ≤ 99) (hs : ∀ k, k < P → s k = decide (M (w + 2) k ≠ -1)) (h : Q (nI (wN t s p P))) : FX9_wayTo Q w (nI p) M := by
  unfold FX9_wayTo NX9_wayTo_4
  refine xlp_for (fun r a => ∃ k, k + r = P ∧ a.2 = nI k ∧ a.1 = nI (wN t s p k)) ?_ ?_ P (0, 0) ⟨0, by omega, rfl, rfl⟩
  · rintro ⟨a, i⟩ B ⟨k, hk, rfl, rfl⟩
    show lbX9_wayTo_4 Q w (nI p) M (fun l2 l3 => B (l2, l3)) _ (nI k)
    unfold lbX9_wayTo_4
    rw [hP]
    have : k = P := by omega
    subst this
    exact ⟨fun _ => h, fun hc => absurd (nI_le (by omega) (by omega)) hc⟩
  · rintro r ⟨a, i⟩ B ⟨k, hk, rfl, rfl⟩ hB
    show lbX9_wayTo_4 Q w (nI p) M (fun l2 l3 => B (l2, l3)) _ (nI k)
    unfold lbX9_wayTo_4
    rw [hP, ixn (by omega), ixn (k := p) (by omega), (ht k (by omega)).1, (ht p hp).1]
    have hsk := hs k (by omega)
    refine ⟨fun hc => absurd hc (nI_ge (by omega) (by omega)), fun _ => ⟨vp_in_nI (by omega) (by decide), fun h0 => hB _ ⟨k + 1, by omega, nI_1 k, ?_⟩, fun h0 => s9_isPillar hP (by omega) (fun _ _ _ => ⟨fun h => (by cases h), fun _ => ⟨vp_in_nI (by omega) (by decide), vp_in_nI (by omega) (by decide), ?_⟩⟩) (fun hn => absurd rfl (hn p hp))⟩⟩
    · simp [wN, hsk, h0]
    · have h1 := (ht k (by omega)).2
      have h2 := (ht p hp).2
      refine s_abs (by omega) (by omega) (hB _ ⟨k + 1, by omega, nI_1 k, ?_⟩)
      rw [nI_add]
      simp [wN, hsk, h0, dN_comm (t k)]
theorem s12_waysTo {Q : Int32 → Prop} {P p : Nat} {M : Mem} {t : Nat → Nat} {s : Nat → Bool} (hP : M 166 6 = nI P) (h10 : P ≤ 10) (hp : p < P) (ht : ∀ k, k < P → M 167 (63 + k) = nI (t k) ∧ t k ≤ 99) (hs : ∀ k, k < P → s k = decide (M 167 (73 + k) - 1 ≠ -1)) (h : Q (nI (wN t s p P))) : FX12_waysTo Q 166 (nI p) M := by
  unfold FX12_waysTo NX12_waysTo_4
  refine xlp_for (fun r a => ∃ k, k + r = P ∧ a.2 = nI k ∧ a.1 = nI (wN t s p k)) ?_ ?_ P (0, 0) ⟨0, by omega, rfl, rfl⟩
  · rintro ⟨a, i⟩ B ⟨k, hk, rfl, rfl⟩
    show lbX12_waysTo_4 Q 166 (nI p) M (fun l2 l3 => B (l2, l3)) _ (nI k)
    unfold lbX12_waysTo_4
    rw [hP]
    have : k = P := by omega
    subst this
    exact ⟨fun _ => h, fun hc => absurd (nI_le (by omega) (by omega)) hc⟩
  · rintro r ⟨a, i⟩ B ⟨k, hk, rfl, rfl⟩ hB
    show lbX12_waysTo_4 Q 166 (nI p) M (fun l2 l3 => B (l2, l3)) _ (nI k)
    unfold lbX12_waysTo_4
    rw [hP, ix63 (k := k) (by omega), ix63 (k := p) (by omega), show M (166 + 1) (63 + k) = _ from (ht k (by omega)).1, show M (166 + 1) (63 + p) = _ from (ht p hp).1]
    have hsk := hs k (by omega)
    have h1 := (ht k (by omega)).2
    have h2 := (ht p hp).2
    refine ⟨fun hc => absurd hc (nI_ge (by omega) (by omega)), fun _ => s12_sitterOf (by omega) ⟨fun h0 => hB _ ⟨k + 1, by omega, nI_1 k, ?_⟩, fun h0 => ⟨vp63 (by omega), vp63 (by omega), s12_far (by omega) (by omega) (hB _ ⟨k + 1, by omega, nI_1 k, ?_⟩)⟩⟩⟩
    · simp [wN, hsk, h0]
    · rw [nI_add]
      simp [wN, hsk, h0]
/-- the first of the least ahead of k -/
def bestN (f : Nat → Nat) : Nat → Nat
  | 0 => 0
  | k + 1 => if f k < f (bestN f k) then k else bestN f k
theorem bestN_lt (f : Nat → Nat) : ∀ k, 0 < k → bestN f k < k
  | 0, h => absurd h (by decide)
  | k + 1, _ => by
    simp only [bestN]
    split
    · omega
    · by_cases h : 0 < k
      · have := bestN_lt f k h; omega
      · have : k = 0 := by omega
        subst this; simp [bestN]
theorem q_middle : lq_middle Inv := by
  intro M a1 hI
  obtain ⟨P, N, g, ⟨⟨w1, w2, w3, w4, w5, w6⟩, -, wS, wT, -⟩, -, -⟩ := hI.1.1
  have cw : CW 2 M M := hI.2.1.1
  have hP : M 2 10 = nI P := by rw [← w1]; exact cw.1.1
  let t : Nat → Nat := fun k => ix (M 167 (63 + k))
  let s : Nat → Bool := fun k => decide (M 167 (73 + k) - 1 ≠ -1)
  have ht : ∀ k, k < P → M 167 (63 + k) = nI (t k) ∧ t k ≤ 99 := by
    intro k hk
    obtain ⟨a, h1, h2, h3⟩ := wT k hk
    have : t k = a := by show ix (M 167 (63 + k)) = a; rw [h3]; exact ixn (by omega)
    rw [this]; exact ⟨h3, h2⟩
  have hb : ∀ p, p < P → wN t s p P ≤ 990 := fun p hp => by
    have := wN_le (s := s) (t := t) (fun k hk => (ht k hk).2) hp (Nat.le_refl P)
    omega
  have c9 : ∀ (p : Nat) (Q : Int32 → Prop), p < P → Q (nI (wN t s p P)) → FX9_wayTo Q 2 (nI p) M := fun p Q hp hq =>
    s9_wayTo (w := 2) (s := s) hP w4 hp (fun k hk => ⟨by rw [← (ht k hk).1]; exact (cw.2.2 k (by omega)).1, (ht k hk).2⟩) (fun k hk => by show decide (M 167 (73 + k) - 1 ≠ -1) = decide (M 4 k ≠ -1); rw [show M 4 k = M 167 (73 + k) - 1 from (cw.2.2 k (by omega)).2.1]) hq
  have c12 : ∀ (p : Nat) (Q : Int32 → Prop), p < P → Q (nI (wN t s p P)) → FX12_waysTo Q 166 (nI p) (xu M 166 0 0) := fun p Q hp hq =>
    s12_waysTo (s := s) (by rw [told_ne (by decide)]; exact w1) w4 hp (fun k hk => by rw [told_ne (by omega)]; exact ht k hk) (fun k hk => by rw [told_ne (by omega)]) hq
  let f : Nat → Nat := fun p => wN t s p P
  have ref : ∀ (a : Int32), (a = 0 ∨ a = 1) → 0 < P → FX12_middle (fun r2 M2 => (if a = 0 then nI (bestN f P) else nI (f (bestN f P))) = r2 ∧ Inv M2) 166 a M := by
    intro a ha h0
    unfold FX12_middle
    rintro M4 rfl
    rw [told_ne (by decide), w1]
    refine ⟨fun hc => absurd hc (nI_ne0 h0 (by omega)), fun _ => s12_isIn ?_⟩
    rw [decide_eq_true (by rcases ha with rfl | rfl <;> decide)]
    refine ⟨fun _ => ?_, fun h => (by cases h)⟩
    unfold NX12_middle_28
    refine xlp_for (fun r x => ∃ k, k + r = P ∧ 0 < k ∧ x.2 = nI k ∧ x.1 = nI (bestN f k)) ?_ ?_ (P - 1) (0, 1) ⟨1, by omega, by omega, rfl, by simp [bestN]; rfl⟩
    · rintro ⟨x, i⟩ B ⟨k, hk, k0, rfl, rfl⟩
      show lbX12_middle_28 _ 166 a _ (fun l2 l3 => B (l2, l3)) _ (nI k)
      unfold lbX12_middle_28
      have : k = P := by omega
      subst this
      have hb1 := bestN_lt f k k0
      rw [told_ne (by decide), w1]
      exact ⟨fun _ => ⟨fun h1 => c12 _ _ hb1 ⟨by rw [if_neg h1], Inv_told hI 0⟩, fun h1 => ⟨by rw [if_pos h1], Inv_told hI 0⟩⟩, fun hc => absurd (nI_le (by omega) (by omega)) hc⟩
    · rintro r ⟨x, i⟩ B ⟨k, hk, k0, rfl, rfl⟩ hB
      show lbX12_middle_28 _ 166 a _ (fun l2 l3 => B (l2, l3)) _ (nI k)
      unfold lbX12_middle_28
      have hb1 := bestN_lt f k k0
      have e1 := hb k (by omega)
      have e2 := hb (bestN f k) (by omega)
      rw [told_ne (by decide), w1]
      refine ⟨fun hc => absurd hc (nI_ge (by omega) (by omega)), fun _ => c12 _ _ (by omega) (c12 _ _ (by omega) ?_)⟩
      rw [nI_leI (by omega) (by omega)]
      refine ⟨fun h1 => hB _ ⟨k + 1, by omega, by omega, nI_1 k, ?_⟩, fun h1 => hB _ ⟨k + 1, by omega, by omega, nI_1 k, ?_⟩⟩
      · show nI (bestN f k) = nI (bestN f (k + 1))
        simp only [bestN]
        rw [if_neg (show ¬ f k < f (bestN f k) from by show ¬ wN t s k P < wN t s (bestN f k) P; omega)]
      · show nI k = nI (bestN f (k + 1))
        simp only [bestN]
        rw [if_pos (show f k < f (bestN f k) from by show wN t s k P < wN t s (bestN f k) P; omega)]
  have no : ∀ a, (P = 0 ∨ (¬ a = 0 ∧ ¬ a = 1)) → FX12_middle (fun r2 M2 => (-1 : Int32) = r2 ∧ Inv M2) 166 a M := by
    intro a ha
    unfold FX12_middle
    rintro M4 rfl
    rw [told_ne (by decide), w1]
    refine ⟨fun _ => ⟨rfl, Inv_told hI 0⟩, fun h0 => s12_isIn ?_⟩
    have h1 : ¬ P = 0 := fun q => h0 (by rw [q]; rfl)
    rw [decide_eq_false (fun q => ?_)]
    · exact ⟨fun h => (by cases h), fun _ => ⟨rfl, Inv_told hI 0⟩⟩
    · obtain ⟨j, hj, rfl⟩ := nI_le_of (k := 1) (Int32.not_lt.mpr q.1) (Int32.not_lt.mpr q.2) (by decide)
      rcases ha with ha | ha
      · exact h1 ha
      · rcases (show j = 0 ∨ j = 1 by omega) with rfl | rfl
        · exact ha.1 rfl
        · exact ha.2 rfl
  have cls : (a1 = 0 ∨ a1 = 1) → NX11_middle_11 (fun r => FX12_middle (fun r2 M2 => r = r2 ∧ Inv M2) 166 a1 M) 0 a1 M := by
    intro ha
    unfold NX11_middle_11 NX11_middle_18
    refine xlp_for (fun r x => ∃ k, k + r = P ∧ x.2.2 = nI k ∧ ((k = 0 ∧ x.1 = -1 ∧ x.2.1 = -1) ∨ (0 < k ∧ x.1 = nI (f (bestN f k)) ∧ x.2.1 = nI (bestN f k)))) ?_ ?_ P (-1, -1, 0) ⟨0, by omega, rfl, Or.inl ⟨rfl, rfl, rfl⟩⟩
    · rintro ⟨x, y, i⟩ B ⟨k, hk, hi, hx⟩
      have hi : i = nI k := hi
      subst hi
      have : k = P := by omega
      subst this
      show lbX11_middle_18 _ 0 a1 M (fun l2 l3 l4 => B (l2, l3, l4)) x y (nI k)
      unfold lbX11_middle_18
      rw [show M (0 + 1 + 1) 10 = nI k from hP]
      refine ⟨fun _ => ?_, fun hc => absurd (nI_le (by omega) (by omega)) hc⟩
      rcases hx with ⟨h0, hx, hy⟩ | ⟨h0, hx, hy⟩
      · have hx : x = -1 := hx
        have hy : y = -1 := hy
        subst hx hy
        exact ⟨fun _ => no a1 (Or.inl h0), fun _ => no a1 (Or.inl h0)⟩
      · have hx : x = _ := hx
        have hy : y = _ := hy
        subst hx hy
        have := ref a1 ha h0
        exact ⟨fun h1 => by rw [if_neg h1] at this; exact this, fun h1 => by rw [if_pos h1] at this; exact this⟩
    · rintro r ⟨x, y, i⟩ B ⟨k, hk, hi, hx⟩ hB
      have hi : i = nI k := hi
      subst hi
      show lbX11_middle_18 _ 0 a1 M (fun l2 l3 l4 => B (l2, l3, l4)) x y (nI k)
      unfold lbX11_middle_18 NX11_middle_58
      rw [show M (0 + 1 + 1) 10 = nI P from hP]
      refine ⟨fun hc => absurd hc (nI_ge (by omega) (by omega)), fun _ => c9 k _ (by omega) ⟨fun h1 => hB _ ⟨k + 1, by omega, nI_1 k, Or.inr ⟨by omega, ?_⟩⟩, fun h1 => ?_⟩⟩
      · rcases hx with ⟨h0, hx, hy⟩ | ⟨h0, hx, hy⟩
        · subst h0
          exact ⟨by simp [bestN]; rfl, by simp [bestN]⟩
        · have hx : x = _ := hx
          rw [hx] at h1
          have e2 := hb (bestN f k) (by have := bestN_lt f k h0; omega)
          exact absurd h1 (fun q => by have := nI_pos (n := f (bestN f k)) (by show wN t s (bestN f k) P < _; omega); rw [q] at this; exact this (by decide))
      · rcases hx with ⟨h0, hx, hy⟩ | ⟨h0, hx, hy⟩
        · exact absurd hx h1
        · have hx : x = _ := hx
          have hy : y = _ := hy
          have hb1 := bestN_lt f k h0
          have e1 := hb k (by omega)
          have e2 := hb (bestN f k) (by omega)
          rw [hx, hy, nI_leI (by show wN t s (bestN f k) P < _; omega) (by omega)]
          refine ⟨fun h2 => hB _ ⟨k + 1, by omega, nI_1 k, Or.inr ⟨by omega, ?_⟩⟩, fun h2 => hB _ ⟨k + 1, by omega, nI_1 k, Or.inr ⟨by omega, ?_⟩⟩⟩
          · have : bestN f (k + 1) = bestN f k := by simp only [bestN]; exact if_neg (Nat.not_lt.mpr h2)
            rw [this]; exact ⟨rfl, rfl⟩
          · have : bestN f (k + 1) = k := by simp only [bestN]; exact if_pos (Nat.not_le.mp h2)
            rw [this]; exact ⟨rfl, rfl⟩
  unfold FX11_middle
  exact ⟨fun h => cls (Or.inl h), fun h => ⟨fun h2 => cls (Or.inr h2), fun h2 => no a1 (Or.inr ⟨h, h2⟩)⟩⟩
