/-! what was read is taken: the class -/
theorem cpy0 {f g : Nat → Int32} {n k : Nat} (h : k < n) : va_cpy f g 0 0 n k = f k := by
  unfold va_cpy
  rw [if_pos (by omega), show 0 + (k - 0) = k by omega]
theorem s2_take {Q : Mem → Prop} {M : Mem} (h : ∀ M2 : Mem, M2 12 7 = M 140 7 → (∀ i, i < 400 → M2 13 i = M 141 i) → (∀ i, i < 16 → M2 14 i = M 142 i ∧ M2 15 i = M 143 i ∧ M2 16 i = M 144 i ∧ M2 17 i = M 145 i) → (∀ c i, ¬ (12 ≤ c ∧ c ≤ 17) → M2 c i = M c i) → Q M2) : FX2_copyFrom Q 12 140 M := by
  unfold FX2_copyFrom
  rintro M1 rfl M2 rfl M3 rfl M4 rfl M5 rfl M6 rfl M7 rfl
  refine h _ ?_ (fun i hi => ?_) (fun i hi => ?_) (fun c i hc => ?_)
  · simp [xuC, xu_if]
  · simp [xuC, xu_if, cpy0 hi]
  · simp [xuC, xu_if, cpy0 hi]
  · have h1 : c ≠ 12 := by omega
    have h2 : c ≠ 13 := by omega
    have h3 : c ≠ 14 := by omega
    have h4 : c ≠ 15 := by omega
    have h5 : c ≠ 16 := by omega
    have h6 : c ≠ 17 := by omega
    simp [xuC, xu_if, h1, h2, h3, h4, h5, h6]
theorem s6_take {Q : Mem → Prop} {M : Mem} (h : ∀ M2 : Mem, M2 19 2 = M 147 2 → (∀ i, i < 16 → M2 20 i = M 148 i ∧ M2 21 i = M 149 i) → (∀ c i, ¬ (19 ≤ c ∧ c ≤ 21) → M2 c i = M c i) → Q M2) : FX6_copyFrom Q 19 147 M := by
  unfold FX6_copyFrom
  rintro M1 rfl M2 rfl M3 rfl
  refine h _ ?_ (fun i hi => ?_) (fun c i hc => ?_)
  · simp [xuC, xu_if]
  · simp [xuC, xu_if, cpy0 hi]
  · have h1 : c ≠ 19 := by omega
    have h2 : c ≠ 20 := by omega
    have h3 : c ≠ 21 := by omega
    simp [xuC, xu_if, h1, h2, h3]
theorem s4_take {Q : Mem → Prop} {M : Mem} (h : ∀ M2 : Mem, M2 22 4 = M 150 4 → (∀ i, i < 16 → M2 23 i = M 151 i ∧ M2 24 i = M 152 i ∧ M2 25 i = M 153 i ∧ M2 26 i = M 154 i) → (∀ c i, ¬ (22 ≤ c ∧ c ≤ 26) → M2 c i = M c i) → Q M2) : FX4_copyFrom Q 22 150 M := by
  unfold FX4_copyFrom
  rintro M1 rfl M2 rfl M3 rfl M4 rfl M5 rfl
  refine h _ ?_ (fun i hi => ?_) (fun c i hc => ?_)
  · simp [xuC, xu_if]
  · simp [xuC, xu_if, cpy0 hi]
  · have h1 : c ≠ 22 := by omega
    have h2 : c ≠ 23 := by omega
    have h3 : c ≠ 24 := by omega
    have h4 : c ≠ 25 := by omega
    have h5 : c ≠ 26 := by omega
    simp [xuC, xu_if, h1, h2, h3, h4, h5]
theorem s7_take {Q : Mem → Prop} {M : Mem} (h : ∀ M2 : Mem, M2 27 2 = M 155 2 → (∀ i, i < 16 → M2 28 i = M 156 i ∧ M2 29 i = M 157 i) → (∀ c i, ¬ (27 ≤ c ∧ c ≤ 29) → M2 c i = M c i) → Q M2) : FX7_copyFrom Q 27 155 M := by
  unfold FX7_copyFrom
  rintro M1 rfl M2 rfl M3 rfl
  refine h _ ?_ (fun i hi => ?_) (fun c i hc => ?_)
  · simp [xuC, xu_if]
  · simp [xuC, xu_if, cpy0 hi]
  · have h1 : c ≠ 27 := by omega
    have h2 : c ≠ 28 := by omega
    have h3 : c ≠ 29 := by omega
    simp [xuC, xu_if, h1, h2, h3]
/-! and the reference -/
theorem s12_takeS {Q : Mem → Prop} {M : Mem} {n : Nat} (hn : n ≤ 16) (h : ∀ M2 : Mem, M2 166 33 = nI n → (∀ s, s < 2 * n → M2 182 s = M 182 (32 + s)) → (∀ c i, c ≠ 182 → ¬ (c = 166 ∧ i = 33) → M2 c i = M c i) → Q M2) : NX12_takesOther_7 Q 166 (nI n) 0 M := by
  unfold NX12_takesOther_7
  have e2 : (2 : Int32) * nI n = nI (2 * n) := pk_mul 2 _
  refine xlp_for (fun r (a : Int32 × Mem) => ∃ t, t + r = 2 * n ∧ a.1 = nI t ∧ (∀ s, s < t → a.2 182 s = M 182 (32 + s)) ∧ (∀ s, 32 ≤ s → a.2 182 s = M 182 s) ∧ (∀ c i, c ≠ 182 → a.2 c i = M c i)) ?_ ?_ (2 * n) _ ⟨0, by omega, rfl, fun s hs => absurd hs (by omega), fun _ _ => rfl, fun _ _ _ => rfl⟩
  · rintro ⟨a, N⟩ B ⟨t, ht, ha, h1, h2, h3⟩
    have ha : a = nI t := ha
    subst ha
    have : t = 2 * n := by omega
    subst this
    show lbX12_takesOther_7 Q 166 (nI n) (fun l3 M => B (l3, M)) (nI (2 * n)) N
    unfold lbX12_takesOther_7
    rw [e2]
    refine ⟨fun _ => ?_, fun q => absurd (nI_le (Nat.le_refl _) (by omega)) q⟩
    rintro M1 rfl
    exact h _ (xu_same _ _ _ _) (fun s hs => (xu_ne _ _ (by omega)).trans (h1 s hs)) (fun c i hc hd => (xu_ne _ _ hd).trans (h3 c i hc))
  · rintro r ⟨a, N⟩ B ⟨t, ht, ha, h1, h2, h3⟩ hB
    have ha : a = nI t := ha
    subst ha
    show lbX12_takesOther_7 Q 166 (nI n) (fun l3 M => B (l3, M)) (nI t) N
    unfold lbX12_takesOther_7
    have ea : (32 : Int32) + nI t = nI (32 + t) := nI_add 32 _
    rw [e2, ea]
    refine ⟨fun q => absurd ((nI_leI (by omega) (by omega)).mp q) (by omega), fun _ => ⟨vp_in_nI (by omega) (by omega), vp_in_nI (by omega) (by omega), ?_⟩⟩
    rw [ixn (show t < 2 ^ 31 by omega), ixn (show 32 + t < 2 ^ 31 by omega)]
    rintro M1 rfl
    rw [nI_1]
    refine hB _ ⟨t + 1, by omega, rfl, fun s hs => ?_, fun s hs => ?_, fun c i hc => ?_⟩
    · show xu N 182 t (N 182 (32 + t)) 182 s = _
      by_cases e : s = t
      · subst e; rw [xu_same]; exact h2 _ (by omega)
      · rw [xu_at _ _ _ e]; exact h1 s (by omega)
    · show xu N 182 t (N 182 (32 + t)) 182 s = _
      rw [xu_at _ _ _ (by omega)]; exact h2 s hs
    · exact (xu_ne _ _ (fun q => hc q.1)).trans (h3 c i hc)
theorem s12_takeT {Q : Mem → Prop} {M : Mem} {n : Nat} (hn : n ≤ 16) (h : ∀ M2 : Mem, M2 166 37 = nI n → (∀ s, s < 2 * n → M2 184 s = M 184 (32 + s)) → (∀ c i, c ≠ 184 → ¬ (c = 166 ∧ i = 37) → M2 c i = M c i) → Q M2) : NX12_takesOther_93 Q 166 (nI n) 0 M := by
  unfold NX12_takesOther_93
  have e2 : (2 : Int32) * nI n = nI (2 * n) := pk_mul 2 _
  refine xlp_for (fun r (a : Int32 × Mem) => ∃ t, t + r = 2 * n ∧ a.1 = nI t ∧ (∀ s, s < t → a.2 184 s = M 184 (32 + s)) ∧ (∀ s, 32 ≤ s → a.2 184 s = M 184 s) ∧ (∀ c i, c ≠ 184 → a.2 c i = M c i)) ?_ ?_ (2 * n) _ ⟨0, by omega, rfl, fun s hs => absurd hs (by omega), fun _ _ => rfl, fun _ _ _ => rfl⟩
  · rintro ⟨a, N⟩ B ⟨t, ht, ha, h1, h2, h3⟩
    have ha : a = nI t := ha
    subst ha
    have : t = 2 * n := by omega
    subst this
    show lbX12_takesOther_93 Q 166 (nI n) (fun l3 M => B (l3, M)) (nI (2 * n)) N
    unfold lbX12_takesOther_93
    rw [e2]
    refine ⟨fun _ => ?_, fun q => absurd (nI_le (Nat.le_refl _) (by omega)) q⟩
    rintro M1 rfl
    exact h _ (xu_same _ _ _ _) (fun s hs => (xu_ne _ _ (by omega)).trans (h1 s hs)) (fun c i hc hd => (xu_ne _ _ hd).trans (h3 c i hc))
  · rintro r ⟨a, N⟩ B ⟨t, ht, ha, h1, h2, h3⟩ hB
    have ha : a = nI t := ha
    subst ha
    show lbX12_takesOther_93 Q 166 (nI n) (fun l3 M => B (l3, M)) (nI t) N
    unfold lbX12_takesOther_93
    have ea : (32 : Int32) + nI t = nI (32 + t) := nI_add 32 _
    rw [e2, ea]
    refine ⟨fun q => absurd ((nI_leI (by omega) (by omega)).mp q) (by omega), fun _ => ⟨vp_in_nI (by omega) (by omega), vp_in_nI (by omega) (by omega), ?_⟩⟩
    rw [ixn (show t < 2 ^ 31 by omega), ixn (show 32 + t < 2 ^ 31 by omega)]
    rintro M1 rfl
    rw [nI_1]
    refine hB _ ⟨t + 1, by omega, rfl, fun s hs => ?_, fun s hs => ?_, fun c i hc => ?_⟩
    · show xu N 184 t (N 184 (32 + t)) 184 s = _
      by_cases e : s = t
      · subst e; rw [xu_same]; exact h2 _ (by omega)
      · rw [xu_at _ _ _ e]; exact h1 s (by omega)
    · show xu N 184 t (N 184 (32 + t)) 184 s = _
      rw [xu_at _ _ _ (by omega)]; exact h2 s hs
    · exact (xu_ne _ _ (fun q => hc q.1)).trans (h3 c i hc)
theorem s12_takeP {Q : Mem → Prop} {M : Mem} {n : Nat} (hn : n ≤ 16) (h : ∀ M2 : Mem, M2 166 35 = nI n → M2 166 3 = 0 → (∀ s, s < 4 * n → M2 183 s = M 183 (64 + s)) → (∀ c i, c ≠ 183 → ¬ (c = 166 ∧ (i = 35 ∨ i = 3)) → M2 c i = M c i) → Q M2) : NX12_takesOther_50 Q 166 (nI n) 0 M := by
  unfold NX12_takesOther_50
  have e2 : (4 : Int32) * nI n = nI (4 * n) := pk_mul 4 _
  refine xlp_for (fun r (a : Int32 × Mem) => ∃ t, t + r = 4 * n ∧ a.1 = nI t ∧ (∀ s, s < t → a.2 183 s = M 183 (64 + s)) ∧ (∀ s, 64 ≤ s → a.2 183 s = M 183 s) ∧ (∀ c i, c ≠ 183 → a.2 c i = M c i)) ?_ ?_ (4 * n) _ ⟨0, by omega, rfl, fun s hs => absurd hs (by omega), fun _ _ => rfl, fun _ _ _ => rfl⟩
  · rintro ⟨a, N⟩ B ⟨t, ht, ha, h1, h2, h3⟩
    have ha : a = nI t := ha
    subst ha
    have : t = 4 * n := by omega
    subst this
    show lbX12_takesOther_50 Q 166 (nI n) (fun l3 M => B (l3, M)) (nI (4 * n)) N
    unfold lbX12_takesOther_50
    rw [e2]
    refine ⟨fun _ => ?_, fun q => absurd (nI_le (Nat.le_refl _) (by omega)) q⟩
    rintro M1 rfl M2 rfl
    refine h _ ((xu_at _ _ _ (by decide)).trans (xu_same _ _ _ _)) (xu_same _ _ _ _) (fun s hs => ((xu_ne _ _ (by omega)).trans (xu_ne _ _ (by omega))).trans (h1 s hs)) (fun c i hc hd => ((xu_ne _ _ (by omega)).trans (xu_ne _ _ (by omega))).trans (h3 c i hc))
  · rintro r ⟨a, N⟩ B ⟨t, ht, ha, h1, h2, h3⟩ hB
    have ha : a = nI t := ha
    subst ha
    show lbX12_takesOther_50 Q 166 (nI n) (fun l3 M => B (l3, M)) (nI t) N
    unfold lbX12_takesOther_50
    have ea : (64 : Int32) + nI t = nI (64 + t) := nI_add 64 _
    rw [e2, ea]
    refine ⟨fun q => absurd ((nI_leI (by omega) (by omega)).mp q) (by omega), fun _ => ⟨vp_in_nI (by omega) (by omega), vp_in_nI (by omega) (by omega), ?_⟩⟩
    rw [ixn (show t < 2 ^ 31 by omega), ixn (show 64 + t < 2 ^ 31 by omega)]
    rintro M1 rfl
    rw [nI_1]
    refine hB _ ⟨t + 1, by omega, rfl, fun s hs => ?_, fun s hs => ?_, fun c i hc => ?_⟩
    · show xu N 183 t (N 183 (64 + t)) 183 s = _
      by_cases e : s = t
      · subst e; rw [xu_same]; exact h2 _ (by omega)
      · rw [xu_at _ _ _ e]; exact h1 s (by omega)
    · show xu N 183 t (N 183 (64 + t)) 183 s = _
      rw [xu_at _ _ _ (by omega)]; exact h2 s hs
    · exact (xu_ne _ _ (fun q => hc q.1)).trans (h3 c i hc)
theorem s12_takeC {Q : Mem → Prop} {M : Mem} {l1 : Int32} {n : Nat} (hn : n ≤ 400) (h25 : M 166 25 = nI n) (h24 : M 166 24 = 0) (h : ∀ M2 : Mem, M2 174 0 = l1 → (∀ s, s < n → M2 179 s = M 179 (800 + s) ∧ M2 180 s = M 180 (800 + s)) → (∀ c i, c ≠ 179 → c ≠ 180 → ¬ (c = 174 ∧ i = 0) → M2 c i = M c i) → Q M2) : NX12_takesLaw_107 Q 166 l1 0 M := by
  unfold NX12_takesLaw_107
  refine xlp_for (fun r (a : Int32 × Mem) => ∃ t, t + r = n ∧ a.1 = nI t ∧ (∀ s, s < t → a.2 179 s = M 179 (800 + s) ∧ a.2 180 s = M 180 (800 + s)) ∧ (∀ s, 800 ≤ s → a.2 179 s = M 179 s ∧ a.2 180 s = M 180 s) ∧ (∀ c i, c ≠ 179 → c ≠ 180 → a.2 c i = M c i)) ?_ ?_ n _ ⟨0, by omega, rfl, fun s hs => absurd hs (by omega), fun _ _ => ⟨rfl, rfl⟩, fun _ _ _ _ => rfl⟩
  · rintro ⟨a, N⟩ B ⟨t, ht, ha, h1, h2, h3⟩
    have ha : a = nI t := ha
    subst ha
    have : t = n := by omega
    subst this
    show lbX12_takesLaw_107 Q 166 l1 (fun l3 M => B (l3, M)) (nI t) N
    unfold lbX12_takesLaw_107
    rw [show N 166 25 = nI t from (h3 166 25 (by decide) (by decide)).trans h25, show N 166 24 = 0 from (h3 166 24 (by decide) (by decide)).trans h24]
    refine ⟨fun _ => ⟨vp_in_nI (n := 0) (by omega) (by omega), ?_⟩, fun q => absurd (nI_le (Nat.le_refl _) (by omega)) q⟩
    rw [show ix (0 : Int32) = 0 from rfl]
    rintro M1 rfl
    exact h _ (xu_same _ _ _ _) (fun s hs => by rw [xu_ne _ _ (by omega), xu_ne _ _ (by omega)]; exact h1 s hs) (fun c i hc hd he => (xu_ne _ _ he).trans (h3 c i hc hd))
  · rintro r ⟨a, N⟩ B ⟨t, ht, ha, h1, h2, h3⟩ hB
    have ha : a = nI t := ha
    subst ha
    show lbX12_takesLaw_107 Q 166 l1 (fun l3 M => B (l3, M)) (nI t) N
    unfold lbX12_takesLaw_107
    have ea : (800 : Int32) + nI t = nI (800 + t) := nI_add 800 _
    have e24 : N 166 24 = 0 := (h3 166 24 (by decide) (by decide)).trans h24
    have e0 : (400 : Int32) * 0 + nI t = nI t := by
      have : (400 : Int32) * 0 = nI 0 := rfl
      rw [this, nI_add, Nat.zero_add]
    rw [show N 166 25 = nI n from (h3 166 25 (by decide) (by decide)).trans h25, e24, ea, e0]
    refine ⟨fun q => absurd ((nI_leI (by omega) (by omega)).mp q) (by omega), fun _ => ⟨vp_in_nI (by omega) (by omega), vp_in_nI (by omega) (by omega), ?_⟩⟩
    rw [ixn (show t < 2 ^ 31 by omega), ixn (show 800 + t < 2 ^ 31 by omega)]
    rintro M1 rfl
    rw [xu_cell _ _ _ (show (166 : Nat) ≠ 166 + 13 by decide), e24, e0, ixn (show t < 2 ^ 31 by omega)]
    refine ⟨vp_in_nI (by omega) (by omega), vp_in_nI (by omega) (by omega), ?_⟩
    rintro M1 rfl
    rw [nI_1]
    refine hB _ ⟨t + 1, by omega, rfl, fun s hs => ?_, fun s hs => ?_, fun c i hc hd => ?_⟩
    · simp only [xu_if]
      by_cases e : s = t
      · subst e
        have := h2 (800 + s) (by omega)
        simp
        exact this
      · have := h1 s (by omega)
        simp [e]
        exact this
    · simp only [xu_if]
      have e : s ≠ t := by omega
      have := h2 s hs
      simp [e]
      exact this
    · simp only [xu_if]
      simp [hc, hd]
      exact h3 c i hc hd
theorem s12_takeL {Q : Mem → Prop} {M : Mem} {m n : Nat} (hm : m ≤ 16) (hn : n ≤ 400) (h25 : M 166 25 = nI n) (h24 : M 166 24 = 0) (h : ∀ M2 : Mem, M2 174 0 = nI m → (∀ c l, 175 ≤ c → c ≤ 178 → l < m → M2 c l = M c (32 + l)) → (∀ s, s < n → M2 179 s = M 179 (800 + s) ∧ M2 180 s = M 180 (800 + s)) → (∀ c i, ¬ (175 ≤ c ∧ c ≤ 180) → ¬ (c = 174 ∧ i = 0) → M2 c i = M c i) → Q M2) : FX12_takesLaw Q 166 (nI m) M := by
  unfold FX12_takesLaw NX12_takesLaw_2
  refine xlp_for (fun r (a : Int32 × Mem) => ∃ t, t + r = m ∧ a.1 = nI t ∧ (∀ c l, 175 ≤ c → c ≤ 178 → l < t → a.2 c l = M c (32 + l)) ∧ (∀ c l, 175 ≤ c → c ≤ 178 → 32 ≤ l → a.2 c l = M c l) ∧ (∀ c i, ¬ (175 ≤ c ∧ c ≤ 178) → a.2 c i = M c i)) ?_ ?_ m _ ⟨0, by omega, rfl, fun c s _ _ hs => absurd hs (by omega), fun _ _ _ _ _ => rfl, fun _ _ _ => rfl⟩
  · rintro ⟨a, N⟩ B ⟨t, ht, ha, h1, h2, h3⟩
    have ha : a = nI t := ha
    subst ha
    have : t = m := by omega
    subst this
    show lbX12_takesLaw_2 Q 166 (nI t) (fun l3 M => B (l3, M)) (nI t) N
    unfold lbX12_takesLaw_2
    refine ⟨fun _ => ?_, fun q => absurd (nI_le (Nat.le_refl _) (by omega)) q⟩
    refine s12_takeC hn ((h3 166 25 (by omega)).trans h25) ((h3 166 24 (by omega)).trans h24) (fun M2 a1 a2 a3 => h M2 a1 (fun c l q1 q2 q3 => (a3 c l (by omega) (by omega) (by omega)).trans (h1 c l q1 q2 q3)) (fun s hs => ?_) (fun c i hc hd => (a3 c i (by omega) (by omega) hd).trans (h3 c i (by omega))))
    have := a2 s hs
    exact ⟨this.1.trans (h3 179 _ (by omega)), this.2.trans (h3 180 _ (by omega))⟩
  · rintro r ⟨a, N⟩ B ⟨t, ht, ha, h1, h2, h3⟩ hB
    have ha : a = nI t := ha
    subst ha
    show lbX12_takesLaw_2 Q 166 (nI m) (fun l3 M => B (l3, M)) (nI t) N
    unfold lbX12_takesLaw_2
    have ea : (32 : Int32) + nI t = nI (32 + t) := nI_add 32 _
    have e24 : N 166 24 = 0 := (h3 166 24 (by omega)).trans h24
    have e0 : (16 : Int32) * 0 + nI t = nI t := by
      have : (16 : Int32) * 0 = nI 0 := rfl
      rw [this, nI_add, Nat.zero_add]
    have v1 : vp_in (nI (32 + t)) 48 := vp_in_nI (by omega) (by omega)
    have v2 : vp_in (nI t) 48 := vp_in_nI (by omega) (by omega)
    have i1 : ix (nI t) = t := ixn (by omega)
    have i2 : ix (nI (32 + t)) = 32 + t := ixn (by omega)
    rw [ea, e24, e0, i1, i2]
    refine ⟨fun q => absurd ((nI_leI (by omega) (by omega)).mp q) (by omega), fun _ => ⟨v1, v2, ?_⟩⟩
    intro M4 e4
    have p4 : M4 166 24 = 0 := by rw [e4, xu_cell _ _ _ (by decide)]; exact e24
    rw [p4, e0, i1]
    refine ⟨v1, v2, ?_⟩
    intro M5 e5
    have p5 : M5 166 24 = 0 := by rw [e5, xu_cell _ _ _ (by decide)]; exact p4
    rw [p5, e0, i1]
    refine ⟨v1, v2, ?_⟩
    intro M6 e6
    have p6 : M6 166 24 = 0 := by rw [e6, xu_cell _ _ _ (by decide)]; exact p5
    rw [p6, e0, i1]
    refine ⟨v1, v2, ?_⟩
    intro M7 e7
    rw [nI_1]
    have hx : ∀ c l, M7 c l = if (175 ≤ c ∧ c ≤ 178) ∧ l = t then N c (32 + t) else N c l := by
      intro c l
      rw [e7, e6, e5, e4]
      simp only [xu_if]
      by_cases hc : 175 ≤ c ∧ c ≤ 178
      · have : c = 175 ∨ c = 176 ∨ c = 177 ∨ c = 178 := by omega
        by_cases hl : l = t
        · subst hl
          rcases this with rfl | rfl | rfl | rfl <;> simp
        · rcases this with rfl | rfl | rfl | rfl <;> simp [hl]
      · rw [if_neg (by omega), if_neg (by omega), if_neg (by omega), if_neg (by omega), if_neg (by omega)]
    refine hB _ ⟨t + 1, by omega, rfl, fun c l q1 q2 q3 => ?_, fun c l q1 q2 q3 => ?_, fun c i hc => ?_⟩
    · show M7 c l = _
      rw [hx]
      by_cases e : l = t
      · subst e
        rw [if_pos ⟨⟨q1, q2⟩, rfl⟩]
        exact h2 c _ q1 q2 (by omega)
      · rw [if_neg (by omega)]
        exact h1 c l q1 q2 (by omega)
    · show M7 c l = _
      rw [hx, if_neg (by omega)]
      exact h2 c l q1 q2 q3
    · show M7 c i = _
      rw [hx, if_neg (by omega)]
      exact h3 c i hc
