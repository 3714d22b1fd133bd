/-! who climbs -/
/-- the highest place ahead of the n-th where f isn't 0 -/
def nbl (f : Nat → Int32) : Nat → Option Nat
  | 0 => none
  | q + 1 => if f q = 0 then nbl f q else some q
theorem nbl_some {f : Nat → Int32} : ∀ {n q : Nat}, nbl f n = some q → q < n ∧ f q ≠ 0 ∧ ∀ j, q < j → j < n → f j = 0
  | 0, q, h => by cases h
  | n + 1, q, h => by
    simp only [nbl] at h
    split at h
    · next h0 =>
      obtain ⟨a, b, c⟩ := nbl_some h
      exact ⟨by omega, b, fun j h1 h2 => by
        rcases Nat.lt_or_ge j n with h3 | h3
        · exact c j h1 h3
        · have : j = n := by omega
          subst this; exact h0⟩
    · next h0 =>
      cases h
      exact ⟨by omega, h0, fun j h1 h2 => by omega⟩
theorem nbl_none {f : Nat → Int32} : ∀ {n : Nat}, nbl f n = none → ∀ j, j < n → f j = 0
  | 0, _, j, hj => by omega
  | n + 1, h, j, hj => by
    simp only [nbl] at h
    split at h
    · next h0 =>
      rcases Nat.lt_or_ge j n with h3 | h3
      · exact nbl_none h j h3
      · have : j = n := by omega
        subst this; exact h0
    · cases h
theorem nbl_of_zero {f : Nat → Int32} : ∀ {n : Nat}, (∀ j, j < n → f j = 0) → nbl f n = none
  | 0, _ => rfl
  | n + 1, h => by
    simp only [nbl]
    rw [if_pos (h n (by omega))]
    exact nbl_of_zero (fun j hj => h j (by omega))
def clStep (p : Nat) (V : Mem) : Mem :=
  if V 167 (73 + p) = 0 then
    match nbl (fun q => V 167 (73 + q)) p with
    | some q => gNote 2 (V 167 (73 + q) - 1) (nI p) (xu (xu V 167 (73 + q) 0) 167 (73 + p) (V 167 (73 + q) - 1 + 1))
    | none => if V 167 6 = 0 then V else gNote 2 (V 167 93) (nI p) (xu (gLeave 0 V) 167 (73 + p) (V 167 93 + 1))
  else V
def gClimb : Nat → Mem → Mem
  | 0, V => V
  | p + 1, V => gClimb p (clStep p V)
theorem gClimb_id {V : Mem} (h6 : V 167 6 = 0) : ∀ {p : Nat}, (∀ j, j < p → V 167 (73 + j) = 0) → gClimb p V = V
  | 0, _ => rfl
  | p + 1, h => by
    have e : clStep p V = V := by
      unfold clStep
      rw [if_pos (h p (by omega)), nbl_of_zero (fun j hj => h j (by omega))]
      simp only [h6, if_true]
    simp only [gClimb, e]
    exact gClimb_id h6 (fun j hj => h j (by omega))
/-- how the world stands: who sits where; all bounds -/
def WW (V : Mem) (P N : Nat) : Prop := ∃ g, WFa V P N g ∧ WFb V P N g
theorem cnt_one {f f2 : Nat → Bool} {j : Nat} : ∀ {n : Nat}, j < n → (∀ k, k < n → k ≠ j → f2 k = f k) → cnt f2 n + (if f j then 1 else 0) = cnt f n + (if f2 j then 1 else 0)
  | 0, h, _ => by omega
  | n + 1, h, hk => by
    simp only [cnt]
    by_cases e : j = n
    · subst e
      rw [cnt_congr (f := f2) (g := f) (fun k h2 => hk k (by omega) (by omega))]
      omega
    · have ih := cnt_one (n := n) (by omega) (fun k h1 h2 => hk k (by omega) h2)
      rw [hk n (by omega) (by omega)]
      omega
theorem WFa.n2 {V : Mem} {P N g : Nat} (h : WFa V P N g) : ∃ n, n ≤ 150 ∧ V 167 2 = nI n := h.2.1
theorem gNote_at (a b c : Int32) (V : Mem) {d i : Nat} (h1 : d ≠ 171) (h2 : ¬ (d = 167 ∧ i = 2)) : gNote a b c V d i = V d i := by
  unfold gNote
  split
  · rw [xu_ne _ _ h2, xu_ne _ _ (by omega), xu_ne _ _ (by omega), xu_ne _ _ (by omega), xu_ne _ _ (by omega)]
  · rfl
theorem WF_note {a b c : Int32} {V : Mem} {P N g : Nat} (ha : WFa V P N g) (hb : WFb V P N g) : WFa (gNote a b c V) P N g ∧ WFb (gNote a b c V) P N g := by
  obtain ⟨n, n1, n2⟩ := ha.n2
  have e2 : ∃ n, n ≤ 150 ∧ gNote a b c V 167 2 = nI n := by
    unfold gNote
    split
    · next q =>
      rw [xu_same, n2, nI_1]
      exact ⟨n + 1, by have : ¬ n = 150 := fun e => q.2 (by rw [n2, e]; rfl)
                       omega, rfl⟩
    · exact ⟨n, n1, n2⟩
  let U : Mem := xu V 167 2 (gNote a b c V 167 2)
  have hU : ∀ d i, d ≠ 171 → gNote a b c V d i = U d i := by
    intro d i hd
    show _ = xu V 167 2 (gNote a b c V 167 2) d i
    rw [xu_if]
    split
    · next q => rw [q.1, q.2]
    · next q => exact gNote_at a b c V hd q
  obtain ⟨a1, a2, a3⟩ := ha
  have wa : WFa U P N g := by
    have r : ∀ j, j ≠ 2 → U 167 j = V 167 j := fun j hj => xu_ne _ _ (by omega)
    refine ⟨⟨a1.1, a1.2.1, by rw [r 6 (by decide)]; exact a1.2.2.1, a1.2.2.2⟩, by obtain ⟨m, m1, m2⟩ := e2; exact ⟨m, m1, (xu_same _ _ _ _).trans m2⟩, ?_⟩
    obtain ⟨c1, c2, c3, c4, c5, c6, c7⟩ := a3
    exact ⟨fun p hp => by rw [r _ (by omega)]; exact c1 p hp, fun p hp => by rw [r _ (by omega)]; exact c2 p hp, fun p hp => by rw [r _ (by omega)]; exact c3 p hp, fun p hp => by rw [r _ (by omega)]; exact c4 p hp, fun p hp => by rw [r _ (by omega)]; exact c5 p hp, fun p hp hp2 => by rw [r _ (by omega)]; exact c6 p hp hp2, fun hp => by rw [r _ (by omega)]; exact c7 hp⟩
  have wb : WFb U P N g := by
    have r : ∀ j, j ≠ 2 → U 167 j = V 167 j := fun j hj => xu_ne _ _ (by omega)
    obtain ⟨b1, b2, b3, b4, b5, b6, b7⟩ := hb
    have r1 : ∀ x, 2 < x → ∀ y, U 167 (x + y) = V 167 (x + y) := fun x hx y => r _ (by omega)
    refine ⟨?_, ?_, ?_, ?_, ?_, ?_, ?_⟩ <;> simp only [r1 73 (by decide), r1 93 (by decide), r1 49 (by decide)] <;> assumption
  exact ⟨WFa_congr2 (hU 166 6 (by decide)) (hU 166 7 (by decide)) (fun i _ => hU 167 i (by decide)) wa, WFb_congr2 a1.2.2.2.1 a1.2.2.2.2.1 a1.2.2.2.2.2 (fun i _ => hU 167 i (by decide)) wb⟩
/-! who is where: the moves -/
def WB (s gr dd : Nat → Int32) (P N g : Nat) : Prop :=
  (∀ t, t < N → dd t = 0 → (∃ p, p < P ∧ s p = nI (t + 1)) ∨ (∃ k, k < g ∧ gr k = nI t)) ∧
  (∀ p q, p < P → q < P → s p = s q → s p ≠ 0 → p = q) ∧
  (∀ p k, p < P → k < g → s p ≠ gr k + 1) ∧
  (∀ j k, j < g → k < g → gr j = gr k → j = k) ∧
  (∀ p t, p < P → t < N → s p = nI (t + 1) → dd t = 0) ∧
  (∀ k t, k < g → t < N → gr k = nI t → dd t = 0) ∧
  g + cnt (fun p => decide (s p ≠ 0)) P + cnt (fun t => decide (dd t = 1)) N = N
theorem WB_iff {V : Mem} {P N g : Nat} : WFb V P N g ↔ WB (fun p => V 167 (73 + p)) (fun k => V 167 (93 + k)) (fun t => V 167 (49 + t)) P N g := Iff.rfl
theorem WB_congr {s s2 gr gr2 dd dd2 : Nat → Int32} {P N g : Nat} (h1 : ∀ p, p < P → s2 p = s p) (h2 : ∀ k, k < g → gr2 k = gr k) (h3 : ∀ t, t < N → dd2 t = dd t) (h : WB s gr dd P N g) : WB s2 gr2 dd2 P N g := by
  obtain ⟨b1, b2, b3, b4, b5, b6, b7⟩ := h
  refine ⟨?_, ?_, ?_, ?_, ?_, ?_, ?_⟩
  · intro t ht hd
    rw [h3 t ht] at hd
    rcases b1 t ht hd with ⟨p, hp, e⟩ | ⟨k, hk, e⟩
    · exact Or.inl ⟨p, hp, by rw [h1 p hp]; exact e⟩
    · exact Or.inr ⟨k, hk, by rw [h2 k hk]; exact e⟩
  · intro p q hp hq; rw [h1 p hp, h1 q hq]; exact b2 p q hp hq
  · intro p k hp hk; rw [h1 p hp, h2 k hk]; exact b3 p k hp hk
  · intro j k hj hk; rw [h2 j hj, h2 k hk]; exact b4 j k hj hk
  · intro p t hp ht; rw [h1 p hp, h3 t ht]; exact b5 p t hp ht
  · intro k t hk ht; rw [h2 k hk, h3 t ht]; exact b6 k t hk ht
  · rw [cnt_congr (n := P) (g := fun p => decide (s p ≠ 0)) (fun p hp => by rw [h1 p hp]), cnt_congr (n := N) (g := fun t => decide (dd t = 1)) (fun p hp => by rw [h3 p hp])]
    exact b7
theorem WB_move {s s2 gr dd : Nat → Int32} {P N g p q : Nat} (hN : N < 100) (hp : p < P) (hq : q < P) (sp : s p = 0) (sq : s q ≠ 0) (e1 : s2 p = s q) (e2 : s2 q = 0) (e3 : ∀ k, k ≠ p → k ≠ q → s2 k = s k) (h : WB s gr dd P N g) : WB s2 gr dd P N g := by
  obtain ⟨b1, b2, b3, b4, b5, b6, b7⟩ := h
  have hpq : p ≠ q := by rintro rfl; exact sq sp
  refine ⟨?_, ?_, ?_, b4, ?_, b6, ?_⟩
  · intro t ht hd
    rcases b1 t ht hd with ⟨j, hj, e⟩ | hk
    · refine Or.inl ?_
      by_cases h1 : j = q
      · subst h1; exact ⟨p, hp, e1.trans e⟩
      · by_cases h2 : j = p
        · subst h2; exact ⟨j, hj, absurd (sp ▸ e) (fun z => nI_ne0 (n := t + 1) (by omega) (by omega) z.symm)⟩
        · exact ⟨j, hj, (e3 j h2 h1).trans e⟩
    · exact Or.inr hk
  · intro j k hj hk; grind
  · intro j k hj hk; grind
  · intro j t hj ht; grind
  · have c1 := cnt_one (f := fun k => decide (s k ≠ 0)) (f2 := fun k => decide ((if k = p then s q else s k) ≠ 0)) (j := p) hp (fun k _ hk => by simp [hk])
    have c2 := cnt_one (f := fun k => decide ((if k = p then s q else s k) ≠ 0)) (f2 := fun k => decide (s2 k ≠ 0)) (j := q) hq (fun k _ hk => by
      by_cases h : k = p
      · subst h; simp [e1]
      · simp [h, e3 k h hk])
    simp [sp, sq, e2] at c1 c2
    simp at b7 ⊢
    omega
theorem WB_rise {s s2 gr gr2 dd : Nat → Int32} {P N g p : Nat} (hg : 0 < g) (hN : N < 100) (hgN : ∀ k, k < g → ∃ a, a < N ∧ gr k = nI a) (hp : p < P) (sp : s p = 0) (e1 : s2 p = gr 0 + 1) (e2 : ∀ k, k < P → k ≠ p → s2 k = s k) (e3 : ∀ k, k < g - 1 → gr2 k = gr (k + 1)) (h : WB s gr dd P N g) : WB s2 gr2 dd P N (g - 1) := by
  obtain ⟨b1, b2, b3, b4, b5, b6, b7⟩ := h
  obtain ⟨a, ha, ea⟩ := hgN 0 hg
  have e1' : s2 p = nI (a + 1) := by rw [e1, ea, nI_1]
  have hne : nI (a + 1) ≠ 0 := nI_ne0 (by omega) (by omega)
  refine ⟨?_, ?_, ?_, ?_, ?_, ?_, ?_⟩
  · intro t ht hd
    rcases b1 t ht hd with ⟨j, hj, e⟩ | ⟨k, hk, e⟩
    · refine Or.inl ⟨j, hj, ?_⟩
      by_cases h2 : j = p
      · subst h2; exact absurd (sp ▸ e) (fun z => nI_ne0 (n := t + 1) (by omega) (by omega) z.symm)
      · rw [e2 j hj h2]; exact e
    · cases k with
      | zero =>
        have : a = t := (nI_eq (by omega) (by omega)).mp (ea.symm.trans e)
        subst this
        exact Or.inl ⟨p, hp, e1'⟩
      | succ k => exact Or.inr ⟨k, by omega, by rw [e3 k (by omega)]; exact e⟩
  · intro j k hj hk he h0
    by_cases h1 : j = p <;> by_cases h2 : k = p
    · omega
    · subst h1
      rw [e1, e2 k hk h2] at he
      exact absurd he.symm (b3 k 0 hk hg)
    · subst h2
      rw [e1, e2 j hj h1] at he
      exact absurd he (b3 j 0 hj hg)
    · rw [e2 j hj h1, e2 k hk h2] at he
      rw [e2 j hj h1] at h0
      exact b2 j k hj hk he h0
  · intro j k hj hk
    rw [e3 k hk]
    by_cases h1 : j = p
    · subst h1
      rw [e1]
      intro he
      have : gr 0 = gr (k + 1) := by grind
      exact absurd (b4 0 (k + 1) hg (by omega) this) (by omega)
    · rw [e2 j hj h1]; exact b3 j (k + 1) hj (by omega)
  · intro j k hj hk he
    rw [e3 j hj, e3 k hk] at he
    have := b4 (j + 1) (k + 1) (by omega) (by omega) he
    omega
  · intro j t hj ht he
    by_cases h1 : j = p
    · subst h1
      rw [e1'] at he
      have : a + 1 = t + 1 := (nI_eq (by omega) (by omega)).mp he
      exact b6 0 t hg ht (by rw [ea]; congr 1; omega)
    · rw [e2 j hj h1] at he; exact b5 j t hj ht he
  · intro k t hk ht he
    rw [e3 k hk] at he
    exact b6 (k + 1) t (by omega) ht he
  · have c1 := cnt_one (f := fun k => decide (s k ≠ 0)) (f2 := fun k => decide (s2 k ≠ 0)) (j := p) hp (fun k hk0 hk => by simp [e2 k hk0 hk])
    simp [sp, e1', hne] at c1
    simp at b7 ⊢
    omega
theorem WB_down {s s2 gr gr2 dd : Nat → Int32} {P N g q t : Nat} (hN : N < 100) (hgN : ∀ k, k < g → ∃ a, a < N ∧ gr k = nI a) (hsN : ∀ k, k < P → ∃ a, a ≤ N ∧ s k = nI a) (hq : q < P) (ht : t < N) (sq : s q = nI (t + 1)) (e1 : s2 q = 0) (e2 : ∀ k, k < P → k ≠ q → s2 k = s k) (e3 : ∀ k, k < g → gr2 k = gr k) (e4 : gr2 g = nI t) (h : WB s gr dd P N g) : WB s2 gr2 dd P N (g + 1) := by
  obtain ⟨b1, b2, b3, b4, b5, b6, b7⟩ := h
  have hne : nI (t + 1) ≠ 0 := nI_ne0 (by omega) (by omega)
  refine ⟨?_, ?_, ?_, ?_, ?_, ?_, ?_⟩
  · intro t2 ht2 hd
    rcases b1 t2 ht2 hd with ⟨j, hj, e⟩ | ⟨k, hk, e⟩
    · by_cases h2 : j = q
      · subst h2
        have : t + 1 = t2 + 1 := (nI_eq (by omega) (by omega)).mp (sq.symm.trans e)
        exact Or.inr ⟨g, by omega, by rw [e4]; congr 1; omega⟩
      · exact Or.inl ⟨j, hj, by rw [e2 j hj h2]; exact e⟩
    · exact Or.inr ⟨k, by omega, by rw [e3 k hk]; exact e⟩
  · intro j k hj hk he h0
    by_cases h1 : j = q
    · subst h1; exact absurd e1 h0
    · by_cases h2 : k = q
      · subst h2; rw [he] at h0; exact absurd e1 h0
      · rw [e2 j hj h1, e2 k hk h2] at he
        rw [e2 j hj h1] at h0
        exact b2 j k hj hk he h0
  · intro j k hj hk he
    by_cases h1 : j = q
    · subst h1
      rw [e1] at he
      rcases Nat.lt_or_ge k g with h2 | h2
      · obtain ⟨a, ha, ea⟩ := hgN k h2
        rw [e3 k h2, ea, nI_1] at he
        exact nI_ne0 (n := a + 1) (by omega) (by omega) he.symm
      · have : k = g := by omega
        subst this
        rw [e4, nI_1] at he
        exact hne he.symm
    · rw [e2 j hj h1] at he
      rcases Nat.lt_or_ge k g with h2 | h2
      · rw [e3 k h2] at he; exact b3 j k hj h2 he
      · have : k = g := by omega
        subst this
        rw [e4, nI_1] at he
        exact h1 (b2 j q hj hq (he.trans sq.symm) (by rw [he]; exact hne))
  · intro j k hj hk he
    rcases Nat.lt_or_ge j g with h1 | h1 <;> rcases Nat.lt_or_ge k g with h2 | h2
    · rw [e3 j h1, e3 k h2] at he; exact b4 j k h1 h2 he
    · have : k = g := by omega
      subst this
      rw [e3 j h1, e4] at he
      exact absurd (by rw [sq, he, nI_1]) (b3 q j hq h1)
    · have : j = g := by omega
      subst this
      rw [e3 k h2, e4] at he
      exact absurd (by rw [sq, ← he, nI_1]) (b3 q k hq h2)
    · omega
  · intro j t2 hj ht2 he
    by_cases h1 : j = q
    · subst h1; rw [e1] at he; exact absurd he.symm (nI_ne0 (by omega) (by omega))
    · rw [e2 j hj h1] at he; exact b5 j t2 hj ht2 he
  · intro k t2 hk ht2 he
    rcases Nat.lt_or_ge k g with h2 | h2
    · rw [e3 k h2] at he; exact b6 k t2 h2 ht2 he
    · have : k = g := by omega
      subst this
      rw [e4] at he
      have : t = t2 := (nI_eq (by omega) (by omega)).mp he
      subst this
      exact b5 q t hq ht sq
  · have c1 := cnt_one (f := fun k => decide (s k ≠ 0)) (f2 := fun k => decide (s2 k ≠ 0)) (j := q) hq (fun k hk0 hk => by simp [e2 k hk0 hk])
    simp [sq, e1, hne] at c1
    simp at b7 ⊢
    omega
/-- who sits dies -/
theorem WB_dieP {s s2 gr dd dd2 : Nat → Int32} {P N g q t : Nat} (hN : N < 100) (hq : q < P) (ht : t < N) (sq : s q = nI (t + 1)) (e1 : s2 q = 0) (e2 : ∀ k, k < P → k ≠ q → s2 k = s k) (e3 : dd2 t = 1) (e4 : ∀ k, k < N → k ≠ t → dd2 k = dd k) (hgN : ∀ k, k < g → ∃ a, a < N ∧ gr k = nI a) (h : WB s gr dd P N g) : WB s2 gr dd2 P N g := by
  obtain ⟨b1, b2, b3, b4, b5, b6, b7⟩ := h
  have hne : nI (t + 1) ≠ 0 := nI_ne0 (by omega) (by omega)
  have hd0 : dd t = 0 := b5 q t hq ht sq
  refine ⟨?_, ?_, ?_, b4, ?_, ?_, ?_⟩
  · intro t2 ht2 hd
    have h3 : t2 ≠ t := by rintro rfl; rw [e3] at hd; exact absurd hd (by decide)
    rw [e4 t2 ht2 h3] at hd
    rcases b1 t2 ht2 hd with ⟨j, hj, e⟩ | hk
    · have h2 : j ≠ q := by
        rintro rfl
        have : t + 1 = t2 + 1 := (nI_eq (by omega) (by omega)).mp (sq.symm.trans e)
        omega
      exact Or.inl ⟨j, hj, by rw [e2 j hj h2]; exact e⟩
    · exact Or.inr hk
  · intro j k hj hk he h0
    by_cases h1 : j = q
    · subst h1; exact absurd e1 h0
    · by_cases h2 : k = q
      · subst h2; rw [he] at h0; exact absurd e1 h0
      · rw [e2 j hj h1, e2 k hk h2] at he
        rw [e2 j hj h1] at h0
        exact b2 j k hj hk he h0
  · intro j k hj hk he
    by_cases h1 : j = q
    · subst h1
      rw [e1] at he
      obtain ⟨a, ha, ea⟩ := hgN k hk
      rw [ea, nI_1] at he
      exact nI_ne0 (n := a + 1) (by omega) (by omega) he.symm
    · rw [e2 j hj h1] at he; exact b3 j k hj hk he
  · intro j t2 hj ht2 he
    by_cases h1 : j = q
    · subst h1; rw [e1] at he; exact absurd he.symm (nI_ne0 (by omega) (by omega))
    · rw [e2 j hj h1] at he
      have h3 : t2 ≠ t := by rintro rfl; exact h1 (b2 j q hj hq (he.trans sq.symm) (by rw [he]; exact hne))
      rw [e4 t2 ht2 h3]; exact b5 j t2 hj ht2 he
  · intro k t2 hk ht2 he
    have h3 : t2 ≠ t := by rintro rfl; exact b3 q k hq hk (by rw [sq, he, nI_1])
    rw [e4 t2 ht2 h3]; exact b6 k t2 hk ht2 he
  · have c1 := cnt_one (f := fun k => decide (s k ≠ 0)) (f2 := fun k => decide (s2 k ≠ 0)) (j := q) hq (fun k hk0 hk => by simp [e2 k hk0 hk])
    have c2 := cnt_one (f := fun k => decide (dd k = 1)) (f2 := fun k => decide (dd2 k = 1)) (j := t) ht (fun k hk0 hk => by simp [e4 k hk0 hk])
    simp [sq, e1, hne] at c1
    simp [hd0, e3] at c2
    simp at b7 ⊢
    omega
/-- who is on the ground dies -/
theorem WB_dieG {s gr gr2 dd dd2 : Nat → Int32} {P N g m t : Nat} (hN : N < 100) (hm : m < g) (ht : t < N) (gm : gr m = nI t) (e1 : ∀ k, k < m → gr2 k = gr k) (e2 : ∀ k, m ≤ k → k < g - 1 → gr2 k = gr (k + 1)) (e3 : dd2 t = 1) (e4 : ∀ k, k < N → k ≠ t → dd2 k = dd k) (h : WB s gr dd P N g) : WB s gr2 dd2 P N (g - 1) := by
  obtain ⟨b1, b2, b3, b4, b5, b6, b7⟩ := h
  have hd0 : dd t = 0 := b6 m t hm ht gm
  have gr2e : ∀ k, k < g - 1 → ∃ j, j < g ∧ j ≠ m ∧ gr2 k = gr j ∧ ((k < m ∧ j = k) ∨ (m ≤ k ∧ j = k + 1)) := by
    intro k hk
    rcases Nat.lt_or_ge k m with h1 | h1
    · exact ⟨k, by omega, by omega, e1 k h1, Or.inl ⟨h1, rfl⟩⟩
    · exact ⟨k + 1, by omega, by omega, e2 k h1 hk, Or.inr ⟨h1, rfl⟩⟩
  refine ⟨?_, b2, ?_, ?_, ?_, ?_, ?_⟩
  · intro t2 ht2 hd
    have h3 : t2 ≠ t := by rintro rfl; rw [e3] at hd; exact absurd hd (by decide)
    rw [e4 t2 ht2 h3] at hd
    rcases b1 t2 ht2 hd with hs | ⟨k, hk, e⟩
    · exact Or.inl hs
    · have h4 : k ≠ m := by
        rintro rfl
        exact h3 ((nI_eq (by omega) (by omega)).mp (gm.symm.trans e)).symm
      rcases Nat.lt_or_ge k m with h1 | h1
      · exact Or.inr ⟨k, by omega, by rw [e1 k h1]; exact e⟩
      · exact Or.inr ⟨k - 1, by omega, by rw [e2 (k - 1) (by omega) (by omega), show k - 1 + 1 = k by omega]; exact e⟩
  · intro j k hj hk
    obtain ⟨i, hi, -, e, -⟩ := gr2e k hk
    rw [e]; exact b3 j i hj hi
  · intro j k hj hk he
    obtain ⟨i, hi, -, e, q1⟩ := gr2e j hj
    obtain ⟨i2, hi2, -, e', q2⟩ := gr2e k hk
    rw [e, e'] at he
    have := b4 i i2 hi hi2 he
    omega
  · intro j t2 hj ht2 he
    have h3 : t2 ≠ t := by rintro rfl; exact b3 j m hj hm (by rw [he, gm, nI_1])
    rw [e4 t2 ht2 h3]; exact b5 j t2 hj ht2 he
  · intro k t2 hk ht2 he
    obtain ⟨i, hi, him, e, -⟩ := gr2e k hk
    rw [e] at he
    have h3 : t2 ≠ t := by rintro rfl; exact him (b4 i m hi hm (he.trans gm.symm))
    rw [e4 t2 ht2 h3]; exact b6 i t2 hi ht2 he
  · have c2 := cnt_one (f := fun k => decide (dd k = 1)) (f2 := fun k => decide (dd2 k = 1)) (j := t) ht (fun k hk0 hk => by simp [e4 k hk0 hk])
    simp [hd0, e3] at c2
    simp at b7 ⊢
    omega
theorem WB_pillar {s s2 gr dd : Nat → Int32} {P N g : Nat} (hN : N < 100) (e1 : s2 P = 0) (e2 : ∀ k, k < P → s2 k = s k) (hgN : ∀ k, k < g → ∃ a, a < N ∧ gr k = nI a) (h : WB s gr dd P N g) : WB s2 gr dd (P + 1) N g := by
  obtain ⟨b1, b2, b3, b4, b5, b6, b7⟩ := h
  refine ⟨?_, ?_, ?_, b4, ?_, b6, ?_⟩
  · intro t ht hd
    rcases b1 t ht hd with ⟨j, hj, e⟩ | hk
    · exact Or.inl ⟨j, by omega, by rw [e2 j hj]; exact e⟩
    · exact Or.inr hk
  · intro j k hj hk he h0
    by_cases h1 : j = P
    · subst h1; exact absurd e1 h0
    · by_cases h2 : k = P
      · subst h2; rw [he] at h0; exact absurd e1 h0
      · rw [e2 j (by omega), e2 k (by omega)] at he
        rw [e2 j (by omega)] at h0
        exact b2 j k (by omega) (by omega) he h0
  · intro j k hj hk he
    by_cases h1 : j = P
    · subst h1
      rw [e1] at he
      obtain ⟨a, ha, ea⟩ := hgN k hk
      rw [ea, nI_1] at he
      exact nI_ne0 (n := a + 1) (by omega) (by omega) he.symm
    · rw [e2 j (by omega)] at he; exact b3 j k (by omega) hk he
  · intro j t hj ht he
    by_cases h1 : j = P
    · subst h1; rw [e1] at he; exact absurd he.symm (nI_ne0 (by omega) (by omega))
    · rw [e2 j (by omega)] at he; exact b5 j t (by omega) ht he
  · simp only [cnt]
    rw [cnt_congr (n := P) (g := fun p => decide (s p ≠ 0)) (fun p hp => by rw [e2 p hp])]
    simp [e1] at b7 ⊢
    omega
theorem WB_saint {s gr gr2 dd dd2 : Nat → Int32} {P N g : Nat} (hN : N < 100) (hgN : ∀ k, k < g → ∃ a, a < N ∧ gr k = nI a) (hsN : ∀ k, k < P → ∃ a, a ≤ N ∧ s k = nI a) (e1 : gr2 g = nI N) (e2 : ∀ k, k < g → gr2 k = gr k) (e3 : dd2 N = 0) (e4 : ∀ k, k < N → dd2 k = dd k) (h : WB s gr dd P N g) : WB s gr2 dd2 P (N + 1) (g + 1) := by
  obtain ⟨b1, b2, b3, b4, b5, b6, b7⟩ := h
  refine ⟨?_, b2, ?_, ?_, ?_, ?_, ?_⟩
  · intro t ht hd
    by_cases h1 : t = N
    · subst h1; exact Or.inr ⟨g, by omega, e1⟩
    · rw [e4 t (by omega)] at hd
      rcases b1 t (by omega) hd with hs | ⟨k, hk, e⟩
      · exact Or.inl hs
      · exact Or.inr ⟨k, by omega, by rw [e2 k hk]; exact e⟩
  · intro j k hj hk he
    rcases Nat.lt_or_ge k g with h2 | h2
    · rw [e2 k h2] at he; exact b3 j k hj h2 he
    · have : k = g := by omega
      subst this
      obtain ⟨a, ha, ea⟩ := hsN j hj
      rw [e1, ea, nI_1] at he
      have := (nI_eq (by omega) (by omega)).mp he
      omega
  · intro j k hj hk he
    rcases Nat.lt_or_ge j g with h1 | h1 <;> rcases Nat.lt_or_ge k g with h2 | h2
    · rw [e2 j h1, e2 k h2] at he; exact b4 j k h1 h2 he
    · have : k = g := by omega
      subst this
      obtain ⟨a, ha, ea⟩ := hgN j h1
      rw [e2 j h1, e1, ea] at he
      have := (nI_eq (by omega) (by omega)).mp he
      omega
    · have : j = g := by omega
      subst this
      obtain ⟨a, ha, ea⟩ := hgN k h2
      rw [e2 k h2, e1, ea] at he
      have := (nI_eq (by omega) (by omega)).mp he
      omega
    · omega
  · intro j t hj ht he
    by_cases h1 : t = N
    · subst h1; exact e3
    · rw [e4 t (by omega)]; exact b5 j t hj (by omega) he
  · intro k t hk ht he
    by_cases h1 : t = N
    · subst h1; exact e3
    · rw [e4 t (by omega)]
      rcases Nat.lt_or_ge k g with h2 | h2
      · rw [e2 k h2] at he; exact b6 k t h2 (by omega) he
      · have : k = g := by omega
        subst this
        rw [e1] at he
        have := (nI_eq (by omega) (by omega)).mp he
        omega
  · simp only [cnt]
    rw [cnt_congr (n := N) (g := fun p => decide (dd p = 1)) (fun p hp => by rw [e4 p hp])]
    simp [e3] at b7 ⊢
    omega
/-- of a view only who sits, who is on the ground and how many changed -/
theorem WFa_sit {V V2 : Mem} {P N g g2 : Nat} (ha : WFa V P N g) (h6 : V2 166 6 = V 166 6) (h7 : V2 166 7 = V 166 7) (hr : ∀ i, i ≠ 6 → ¬ (73 ≤ i ∧ i < 83) → ¬ (93 ≤ i ∧ i < 107) → V2 167 i = V 167 i) (hg : V2 167 6 = nI g2) (hg14 : g2 ≤ 14) (hs : ∀ p, p < P → ∃ a, a ≤ N ∧ V2 167 (73 + p) = nI a) (hk : ∀ k, k < g2 → ∃ a, a < N ∧ V2 167 (93 + k) = nI a) : WFa V2 P N g2 := by
  obtain ⟨⟨a1, a2, a3, a4, a5, a6⟩, b, c1, c2, c3, c4, c5, c6, c7⟩ := ha
  refine ⟨⟨h6.trans a1, h7.trans a2, hg, a4, a5, hg14⟩, by rw [hr 2 (by decide) (by decide) (by decide)]; exact b, hs, fun p hp => ?_, hk, fun t ht => ?_, fun t ht => ?_, fun t ht ht2 => ?_, fun hp => ?_⟩
  · rw [hr _ (by omega) (by omega) (by omega)]; exact c2 p hp
  · rw [hr _ (by omega) (by omega) (by omega)]; exact c4 t ht
  · rw [hr _ (by omega) (by omega) (by omega)]; exact c5 t ht
  · rw [hr _ (by omega) (by omega) (by omega)]; exact c6 t ht ht2
  · rw [hr _ (by omega) (by omega) (by omega)]; exact c7 hp
theorem sub_add1 (x : Int32) : x - 1 + 1 = x := by grind
theorem WW_move {V : Mem} {P N g p q : Nat} (ha : WFa V P N g) (hb : WFb V P N g) (hp : p < P) (hq : q < P) (sp : V 167 (73 + p) = 0) (sq : V 167 (73 + q) ≠ 0) : WFa (xu (xu V 167 (73 + q) 0) 167 (73 + p) (V 167 (73 + q) - 1 + 1)) P N g ∧ WFb (xu (xu V 167 (73 + q) 0) 167 (73 + p) (V 167 (73 + q) - 1 + 1)) P N g := by
  rw [sub_add1]
  have hpq : p ≠ q := by rintro rfl; exact sq sp
  have h10 := ha.1.2.2.2.1
  have h14 := ha.1.2.2.2.2.1
  have g14 := ha.1.2.2.2.2.2
  refine ⟨WFa_sit ha rfl rfl (fun i h1 h2 h3 => ?_) ?_ g14 (fun j hj => ?_) (fun k hk => ?_), WB_iff.mpr (WB_move (by omega) hp hq sp sq ?_ ?_ (fun k h1 h2 => ?_) (WB_congr (s := fun p => V 167 (73 + p)) (gr := fun k => V 167 (93 + k)) (dd := fun t => V 167 (49 + t)) (fun _ _ => rfl) (fun k hk => ?_) (fun t ht => ?_) (WB_iff.mp hb)))⟩
  · rw [xu_ne _ _ (by omega), xu_ne _ _ (by omega)]
  · rw [xu_ne _ _ (by omega), xu_ne _ _ (by omega)]; exact ha.1.2.2.1
  · rw [xu_if, xu_if]
    split
    · exact ha.2.2.1 q hq
    · split
      · exact ⟨0, by omega, rfl⟩
      · exact ha.2.2.1 j hj
  · rw [xu_ne _ _ (by omega), xu_ne _ _ (by omega)]; exact ha.2.2.2.2.1 k hk
  · exact xu_same _ _ _ _
  · show xu _ _ _ _ _ _ = _
    rw [xu_ne _ _ (by omega)]; exact xu_same _ _ _ _
  · show xu _ _ _ _ _ _ = _
    rw [xu_ne _ _ (by omega), xu_ne _ _ (by omega)]
  · show xu _ _ _ _ _ _ = _
    rw [xu_ne _ _ (by omega), xu_ne _ _ (by omega)]
  · show xu _ _ _ _ _ _ = _
    rw [xu_ne _ _ (by omega), xu_ne _ _ (by omega)]
theorem WW_rise {V : Mem} {P N g p : Nat} (ha : WFa V P N g) (hb : WFb V P N g) (hp : p < P) (sp : V 167 (73 + p) = 0) (hg : 0 < g) : WFa (xu (gLeave 0 V) 167 (73 + p) (V 167 93 + 1)) P N (g - 1) ∧ WFb (xu (gLeave 0 V) 167 (73 + p) (V 167 93 + 1)) P N (g - 1) := by
  have h10 := ha.1.2.2.2.1
  have h14 := ha.1.2.2.2.2.1
  have g14 := ha.1.2.2.2.2.2
  have L := gLeave_at (V := V) ha.1.2.2.1 g14 hg
  have hgN := ha.2.2.2.2.1
  refine ⟨WFa_sit ha ?_ ?_ (fun i h1 h2 h3 => ?_) ?_ (by omega) (fun j hj => ?_) (fun k hk => ?_), WB_iff.mpr (WB_rise hg (by omega) hgN hp sp ?_ (fun k h0 h1 => ?_) (fun k hk => ?_) (WB_congr (s := fun p => V 167 (73 + p)) (gr := fun k => V 167 (93 + k)) (dd := fun t => V 167 (49 + t)) (fun _ _ => rfl) (fun k hk => rfl) (fun t ht => ?_) (WB_iff.mp hb)))⟩
  · rw [xu_ne _ _ (by omega), L, if_neg (by omega), if_neg (by omega)]
  · rw [xu_ne _ _ (by omega), L, if_neg (by omega), if_neg (by omega)]
  · rw [xu_ne _ _ (by omega), L, if_neg (by omega), if_neg (by omega)]
  · rw [xu_ne _ _ (by omega), L, if_pos (by omega)]
  · rw [xu_if]
    split
    · obtain ⟨a, h1, h2⟩ := hgN 0 hg
      exact ⟨a + 1, by omega, by rw [show V 167 93 = nI a from h2, nI_1]⟩
    · rw [L, if_neg (by omega), if_neg (by omega)]; exact ha.2.2.1 j hj
  · rw [xu_ne _ _ (by omega), L, if_neg (by omega), if_pos (by omega)]
    exact hgN (k + 1) (by omega)
  · exact xu_same _ _ _ _
  · show xu _ _ _ _ _ _ = _
    rw [xu_if]
    split
    · omega
    · rw [L, if_neg (by omega)]
      split
      · omega
      · rfl
  · show xu _ _ _ _ _ _ = _
    rw [xu_ne _ _ (by omega), L, if_neg (by omega), if_pos (by omega)]
    rfl
  · show xu _ _ _ _ _ _ = _
    rw [xu_ne _ _ (by omega), L, if_neg (by omega), if_neg (by omega)]
theorem WW_clStep {V : Mem} {P N p : Nat} (hp : p < P) (h : WW V P N) : WW (clStep p V) P N := by
  obtain ⟨g, ha, hb⟩ := h
  unfold clStep
  split
  · next sp =>
    cases e : nbl (fun q => V 167 (73 + q)) p with
    | some q =>
      obtain ⟨q1, q2, -⟩ := nbl_some e
      have := WW_move ha hb hp (by omega : q < P) sp q2
      exact ⟨g, WF_note this.1 this.2⟩
    | none =>
      simp only
      split
      · exact ⟨g, ha, hb⟩
      · next h6 =>
        have hg : 0 < g := by
          rcases Nat.eq_zero_or_pos g with h0 | h0
          · exact absurd (by rw [ha.1.2.2.1, h0]; rfl) h6
          · exact h0
        have := WW_rise ha hb hp sp hg
        exact ⟨g - 1, WF_note this.1 this.2⟩
  · exact ⟨g, ha, hb⟩
theorem WW_climb {P N : Nat} : ∀ {p : Nat} {V : Mem}, p ≤ P → WW V P N → WW (gClimb p V) P N
  | 0, _, _, h => h
  | p + 1, V, hp, h => WW_climb (p := p) (by omega) (WW_clStep (p := p) (by omega) h)
theorem sub1_m1 {x : Int32} : x - 1 = -1 ↔ x = 0 := by grind
theorem s12_nextBelow {Q : Int32 → Prop} {V M : Mem} {p : Nat} (hR : RV V M) (hp : p ≤ 10) (hs : ∀ q, nbl (fun q => V 167 (73 + q)) p = some q → Q (nI q)) (hn : nbl (fun q => V 167 (73 + q)) p = none → Q (-1)) : FX12_nextBelow Q 166 (nI p) M := by
  unfold FX12_nextBelow NX12_nextBelow_4
  refine xlp_for (fun r a => r ≤ p ∧ a = nI r - 1 ∧ nbl (fun q => V 167 (73 + q)) r = nbl (fun q => V 167 (73 + q)) p) ?_ ?_ p _ ⟨Nat.le_refl _, rfl, rfl⟩
  · rintro a B ⟨-, rfl, e⟩
    unfold lbX12_nextBelow_4
    exact ⟨fun _ => hn e.symm, fun hc => absurd (by decide) hc⟩
  · rintro r a B ⟨h1, rfl, e⟩ hB
    unfold lbX12_nextBelow_4
    rw [nI_s1]
    refine ⟨fun hc => absurd hc (nI_pos (by omega)), fun _ => s12_sitterOf (by omega) ?_⟩
    rw [hR 167 _ (by decide) (by decide) (by decide), sub1_m1, i32_m1]
    simp only [nbl] at e
    refine ⟨fun h0 => hB _ ⟨by omega, rfl, ?_⟩, fun h0 => hs r ?_⟩
    · rw [if_pos h0] at e; exact e
    · rw [if_neg h0] at e; exact e.symm
theorem RV.r {V M : Mem} (h : RV V M) (i : Nat) : M 167 i = V 167 i := h 167 i (by decide) (by decide) (by decide)
theorem RV.n {V M : Mem} (h : RV V M) (i : Nat) : M 166 i = V 166 i := h 166 i (by decide) (by decide) (by decide)
theorem s12_allClimb {Q : Mem → Prop} {V M : Mem} {P N : Nat} (hR : RV V M) (hW : WW V P N) (h : ∀ M', RV (gClimb P V) M' → LO M M' → Q M') : FX12_allClimb Q 166 M := by
  have hP : V 166 6 = nI P := by obtain ⟨g, ha, -⟩ := hW; exact ha.1.1
  have h10 : P ≤ 10 := by obtain ⟨g, ha, -⟩ := hW; exact ha.1.2.2.2.1
  unfold FX12_allClimb NX12_allClimb_7
  rw [hR.n, hP]
  refine xlp_for (fun r a => r ≤ P ∧ a.1 = nI r - 1 ∧ ∃ W, RV W a.2 ∧ LO M a.2 ∧ WW W P N ∧ ∀ M', RV (gClimb r W) M' → LO M M' → Q M') ?_ ?_ P (_, M) ⟨Nat.le_refl _, rfl, V, hR, LO.refl M, hW, h⟩
  · rintro ⟨i, M1⟩ B ⟨-, hi, W, r1, r2, r3, r4⟩
    have hi : i = nI 0 - 1 := hi
    subst hi
    exact ⟨fun _ => r4 M1 r1 r2, fun hc => absurd (show (nI 0 - 1 : Int32) < 0 by decide) hc⟩
  · rintro r ⟨i, M1⟩ B ⟨hr, hi, W, r1, r2, r3, r4⟩ hB
    have hi : i = nI r := hi.trans (nI_s1 r)
    subst hi
    have r1 : RV W M1 := r1
    have r2 : LO M M1 := r2
    show lbX12_allClimb_7 Q 166 (fun l1 M => B (l1, M)) (nI r) M1
    have hW2 := WW_clStep (p := r) (by omega) r3
    have key : ∀ M', RV (clStep r W) M' → LO M M' → B (nI r + -1, M') := fun M' q1 q2 => hB _ ⟨by omega, i32_m1 _, clStep r W, q1, q2, hW2, r4⟩
    obtain ⟨g, ha, hb⟩ := r3
    unfold clStep at key
    unfold lbX12_allClimb_7
    refine ⟨fun hc => absurd hc (nI_pos (by omega)), fun _ => s12_sitterOf (by omega) ?_⟩
    rw [r1.r, sub1_m1]
    refine ⟨fun h0 => ?_, fun h0 => key M1 (by rw [if_neg h0]; exact r1) r2⟩
    rw [if_pos h0] at key
    have n91 : ∀ (t : Int32) (U : Mem) (M2 : Mem), RV U M2 → LO M M2 → (∃ n, n ≤ 150 ∧ U 167 2 = nI n) → (∀ M', RV (gNote 2 t (nI r) (xu U 167 (73 + r) (t + 1))) M' → LO M M' → B (nI r + -1, M')) → NX12_allClimb_91 Q (fun l1 M => B (l1, M)) 166 (nI r) t M2 := by
      intro t U M2 q1 q2 q3 q4
      unfold NX12_allClimb_91
      refine ⟨vp73 (by omega), ?_⟩
      rintro M3 rfl
      rw [ix73 (by omega)]
      exact s12_notes (q1.up _ _ _) (by rw [xu_ne _ _ (by omega)]; exact q3) (fun M' q5 q6 => q4 M' q5 ((q2.up (by decide) _ _).trans q6))
    refine s12_nextBelow r1 (by omega) (fun q e => ?_) (fun e => ?_)
    · rw [e] at key
      obtain ⟨q1, q2, -⟩ := nbl_some e
      refine ⟨fun _ => ?_, fun hc => absurd hc (m1_ne (by omega))⟩
      unfold NX12_allClimb_47 NX12_allClimb_67
      refine ⟨fun hc => s12_sitterOf (by omega) ⟨fun _ => ⟨vp73 (by omega), ?_⟩, fun q => absurd q hc⟩, fun hc => absurd hc (m1_ne (by omega))⟩
      rintro M3 rfl
      rw [ix73 (by omega), r1.r]
      exact n91 _ _ _ (r1.up 167 (73 + q) 0) (r2.up (by decide) _ _) (by rw [xu_ne _ _ (by omega)]; exact ha.n2) key
    · rw [e] at key
      refine ⟨fun hc => absurd rfl hc, fun _ => ?_⟩
      rw [show M1 (166 + 1) 6 = W 167 6 from r1.r 6]
      refine ⟨fun h6 => ?_, fun h6 => key M1 (by simp only [h6, if_true]; exact r1) r2⟩
      simp only [h6, if_false] at key
      have hg : 0 < g := by
        rcases Nat.eq_zero_or_pos g with h0 | h0
        · exact absurd (by rw [ha.1.2.2.1, h0]; rfl) h6
        · exact h0
      unfold NX12_allClimb_47 NX12_allClimb_67
      refine ⟨fun hc => absurd rfl hc, fun _ => ⟨fun hc => absurd rfl hc, fun _ => ?_⟩⟩
      rw [show M1 (166 + 1) 93 = W 167 93 from r1.r 93]
      refine s12_leaves (g := g) (k := 0) r1 ha.1.2.2.1 ha.1.2.2.2.2.2 hg (fun M2 q1 q2 => n91 _ _ _ q1 (r2.trans q2) ?_ key)
      rw [gLeave_at ha.1.2.2.1 ha.1.2.2.2.2.2 hg, if_neg (by omega), if_neg (by omega)]
      exact ha.n2
theorem s9_nextBelow {Q : Int32 → Mem → Prop} {w : Nat} {V M : Mem} {P N g p : Nat} (hC : CB w V M) (ha : WFa V P N g) (hp : p ≤ P) (h1 : ∀ q, nbl (fun q => V 167 (73 + q)) p = some q → Q (V 167 (73 + q) - 1) (xu M (w + 2) q (-1))) (h2 : nbl (fun q => V 167 (73 + q)) p = none → V 167 6 = 0 → Q (-1) M) (h3 : nbl (fun q => V 167 (73 + q)) p = none → V 167 6 ≠ 0 → ∀ M', CB w (gLeave 0 V) M' → FR w M M' → Q (V 167 93) M') : FX9_nextBelow Q w (nI p) M := by
  have h10 := ha.1.2.2.2.1
  unfold FX9_nextBelow NX9_nextBelow_4
  refine xlp_for (fun r a => r ≤ p ∧ a = nI r - 1 ∧ nbl (fun q => V 167 (73 + q)) r = nbl (fun q => V 167 (73 + q)) p) ?_ ?_ p _ ⟨Nat.le_refl _, rfl, rfl⟩
  · rintro a B ⟨-, rfl, e⟩
    unfold lbX9_nextBelow_4
    rw [show M w 9 = V 167 6 from hC.1.1.2.2.2.2.2.2.2.2.1]
    refine ⟨fun _ => ⟨fun h6 => ?_, fun h6 => h2 e.symm h6⟩, fun hc => absurd (by decide) hc⟩
    have hg : 0 < g := by
      rcases Nat.eq_zero_or_pos g with h0 | h0
      · exact absurd (by rw [ha.1.2.2.1, h0]; rfl) h6
      · exact h0
    rw [show M (w + 8) 0 = V 167 93 from (hC.1.2.1 0 (by decide)).2.2.2.2]
    exact s9_leave (k := 0) hC ha.1.2.2.1 ha.1.2.2.2.2.2 hg (h3 e.symm h6)
  · rintro r a B ⟨hr, rfl, e⟩ hB
    unfold lbX9_nextBelow_4
    rw [nI_s1, ixn (by omega), show M (w + 2) r = V 167 (73 + r) - 1 from (hC.1.2.2 r (by omega)).2.1, sub1_m1, i32_m1]
    simp only [nbl] at e
    refine ⟨fun hc => absurd hc (nI_pos (by omega)), fun _ => ⟨vp_in_nI (by omega) (by decide), fun h0 => hB _ ⟨by omega, rfl, ?_⟩, fun h0 => ⟨vp_in_nI (by omega) (by decide), ?_⟩⟩⟩
    · rw [if_pos h0] at e; exact e
    · rintro M2 rfl
      rw [if_neg h0] at e
      exact h1 r e.symm
theorem s9_climb {Q : Mem → Prop} {w : Nat} {V M : Mem} {P N : Nat} (hC : CB w V M) (hW : WW V P N) (h : ∀ M', CB w (gClimb P V) M' → FR w M M' → Q M') : FX9_climb Q w M := by
  have hP : V 166 6 = nI P := by obtain ⟨g, ha, -⟩ := hW; exact ha.1.1
  have h10 : P ≤ 10 := by obtain ⟨g, ha, -⟩ := hW; exact ha.1.2.2.2.1
  unfold FX9_climb NX9_climb_7
  rw [show M w 10 = V 166 6 from hC.1.1.1, hP]
  refine xlp_for (fun r a => r ≤ P ∧ a.1 = nI r - 1 ∧ ∃ W, CB w W a.2 ∧ FR w M a.2 ∧ WW W P N ∧ ∀ M', CB w (gClimb r W) M' → FR w M M' → Q M') ?_ ?_ P (_, M) ⟨Nat.le_refl _, rfl, V, hC, FR.refl w M, hW, h⟩
  · rintro ⟨i, M1⟩ B ⟨-, hi, W, r1, r2, r3, r4⟩
    have hi : i = nI 0 - 1 := hi
    subst hi
    exact ⟨fun _ => r4 M1 r1 r2, fun hc => absurd (show (nI 0 - 1 : Int32) < 0 by decide) hc⟩
  · rintro r ⟨i, M1⟩ B ⟨hr, hi, W, r1, r2, r3, r4⟩ hB
    have hi : i = nI r := hi.trans (nI_s1 r)
    subst hi
    have r1 : CB w W M1 := r1
    have r2 : FR w M M1 := r2
    show lbX9_climb_7 Q w (fun l1 M => B (l1, M)) (nI r) M1
    have hW2 := WW_clStep (p := r) (by omega) r3
    have key : ∀ M', CB w (clStep r W) M' → FR w M M' → B (nI r + -1, M') := fun M' q1 q2 => hB _ ⟨by omega, i32_m1 _, clStep r W, q1, q2, hW2, r4⟩
    obtain ⟨g, ha, hb⟩ := r3
    unfold clStep at key
    unfold lbX9_climb_7
    rw [ixn (by omega), show M1 (w + 2) r = W 167 (73 + r) - 1 from (r1.1.2.2 r (by omega)).2.1, sub1_m1]
    refine ⟨fun hc => absurd hc (nI_pos (by omega)), fun _ => ⟨vp_in_nI (by omega) (by decide), fun h0 => key M1 (by rw [if_neg h0]; exact r1) r2, fun h0 => ?_⟩⟩
    rw [if_pos h0] at key
    refine s9_nextBelow r1 ha (by omega) (fun q e => ?_) (fun e h6 => ?_) (fun e h6 M2 q1 q2 => ?_)
    · rw [e] at key
      obtain ⟨q1, q2, -⟩ := nbl_some e
      refine ⟨fun _ => ⟨vp_in_nI (by omega) (by decide), ?_⟩, fun hc => absurd (sub1_m1.mp hc) q2⟩
      rintro M3 rfl
      refine s9_note (CB_up (d := 2) (i := r) (CB_up (d := 2) (i := q) r1 (by simp [wdom]; omega) (show (0 : Int32) - 1 = -1 by decide)) (by simp [wdom]; omega) (show W 167 (73 + q) - 1 + 1 - 1 = W 167 (73 + q) - 1 by grind)) ?_ (fun M' q3 q4 => key M' q3 ?_)
      · show ∃ n, n ≤ 150 ∧ xu (xu W 167 (73 + q) 0) 167 (73 + r) _ 167 2 = nI n
        rw [xu_ne _ _ (by omega), xu_ne _ _ (by omega)]; exact ha.n2
      · exact (FR.up (FR.up r2 (d := 2) (by decide) _ _) (d := 2) (by decide) _ _).trans q4
    · rw [e] at key
      refine ⟨fun hc => absurd rfl hc, fun _ => r4 M1 ?_ r2⟩
      have : gClimb (r + 1) W = W := gClimb_id h6 (fun j hj => by
        rcases Nat.lt_or_ge j r with h1 | h1
        · exact nbl_none e j h1
        · have : j = r := by omega
          subst this; exact h0)
      rw [this]; exact r1
    · rw [e] at key
      simp only [h6, if_false] at key
      have hg : 0 < g := by
        rcases Nat.eq_zero_or_pos g with h0 | h0
        · exact absurd (by rw [ha.1.2.2.1, h0]; rfl) h6
        · exact h0
      obtain ⟨a, ha1, ha2⟩ := ha.2.2.2.2.1 0 hg
      have h14 := ha.1.2.2.2.2.1
      refine ⟨fun _ => ⟨vp_in_nI (by omega) (by decide), ?_⟩, fun hc => absurd (ha2.symm.trans hc) (m1_ne (by omega))⟩
      rintro M3 rfl
      refine s9_note (CB_up (d := 2) (i := r) q1 (by simp [wdom]; omega) (show W 167 93 + 1 - 1 = W 167 93 by grind)) ?_ (fun M' q3 q4 => key M' q3 ?_)
      · show ∃ n, n ≤ 150 ∧ xu (gLeave 0 W) 167 (73 + r) _ 167 2 = nI n
        rw [xu_ne _ _ (by omega), gLeave_at ha.1.2.2.1 ha.1.2.2.2.2.2 hg, if_neg (by omega), if_neg (by omega)]; exact ha.n2
      · exact (FR.up (r2.trans q2) (d := 2) (by decide) _ _).trans q4
/-- behind the climb nobody waits below an empty pillar -/
theorem gNote_r (a b c : Int32) (V : Mem) {i : Nat} (h : i ≠ 2) : gNote a b c V 167 i = V 167 i := gNote_at a b c V (by decide) (by omega)
theorem Z_clStep {V : Mem} {P N p : Nat} (hp : p < P) (hW : WW V P N) (h : ∀ q, p + 1 ≤ q → q < P → V 167 (73 + q) = 0 → V 167 6 = 0 ∧ ∀ j, j < p + 1 → V 167 (73 + j) = 0) : ∀ q, p ≤ q → q < P → clStep p V 167 (73 + q) = 0 → clStep p V 167 6 = 0 ∧ ∀ j, j < p → clStep p V 167 (73 + j) = 0 := by
  obtain ⟨g, ha, hb⟩ := hW
  intro q h1 h2
  unfold clStep
  split
  · next sp =>
    cases e : nbl (fun q => V 167 (73 + q)) p with
    | some q0 =>
      obtain ⟨q1, q2, -⟩ := nbl_some e
      dsimp only
      rw [gNote_r _ _ _ _ (by omega), sub_add1]
      intro h0
      by_cases e1 : q = p
      · subst e1; rw [xu_same] at h0; exact absurd h0 q2
      · rw [xu_ne _ _ (by omega), xu_ne _ _ (by omega)] at h0
        exact absurd ((h q (by omega) h2 h0).2 q0 (by omega)) q2
    | none =>
      dsimp only
      split
      · next h6 =>
        intro h0
        exact ⟨h6, fun j hj => nbl_none e j hj⟩
      · next h6 =>
        have hg : 0 < g := by
          rcases Nat.eq_zero_or_pos g with h0 | h0
          · exact absurd (by rw [ha.1.2.2.1, h0]; rfl) h6
          · exact h0
        have h14 := ha.1.2.2.2.2.1
        rw [gNote_r _ _ _ _ (by omega)]
        intro h0
        by_cases e1 : q = p
        · subst e1
          rw [xu_same] at h0
          obtain ⟨a, ha1, ha2⟩ := ha.2.2.2.2.1 0 hg
          rw [show V 167 93 = nI a from ha2, nI_1] at h0
          exact absurd h0 (nI_ne0 (by omega) (by omega))
        · rw [xu_ne _ _ (by omega), gLeave_at ha.1.2.2.1 ha.1.2.2.2.2.2 hg, if_neg (by omega), if_neg (by have := ha.1.2.2.2.1; omega)] at h0
          exact absurd (h q (by omega) h2 h0).1 h6
  · next sp =>
    intro h0
    by_cases e1 : q = p
    · subst e1; exact absurd h0 sp
    · exact absurd ((h q (by omega) h2 h0).2 p (by omega)) sp
theorem Z_climb {P N : Nat} : ∀ {p : Nat} {V : Mem}, p ≤ P → WW V P N → (∀ q, p ≤ q → q < P → V 167 (73 + q) = 0 → V 167 6 = 0 ∧ ∀ j, j < p → V 167 (73 + j) = 0) → ∀ q, q < P → gClimb p V 167 (73 + q) = 0 → gClimb p V 167 6 = 0
  | 0, V, _, _, h => fun q hq e => (h q (by omega) hq e).1
  | p + 1, V, hp, hW, h => Z_climb (p := p) (by omega) (WW_clStep (p := p) (by omega) hW) (Z_clStep (by omega) hW h)
theorem WFz_climb {V : Mem} {P N : Nat} (hW : WW V P N) : WFz (gClimb P V) P := Z_climb (Nat.le_refl P) hW (fun q h1 h2 => by omega)
