/-! scandal -/
theorem m1_ne {j : Nat} (h : j < 2 ^ 31) : ¬ nI j = -1 := fun e => by
  have := nI_pos h
  rw [e] at this; exact this (by decide)
theorem nI_sub1 (a : Nat) : (a = 0 ∧ nI a - 1 = -1) ∨ ∃ j, a = j + 1 ∧ nI a - 1 = nI j := by
  cases a with
  | zero => exact Or.inl ⟨rfl, by decide⟩
  | succ j => exact Or.inr ⟨j, rfl, nI_s1 j⟩
theorem s_sitting9 {Q : Int32 → Prop} {w P : Nat} {M : Mem} (hP : M w 10 = nI P) (h10 : P ≤ 10) (s : Nat → Bool) (hs : ∀ k, k < P → s k = decide (M (w + 2) k ≠ -1)) (h : Q (nI (cnt s P))) : FX9_sitting Q w M := by
  unfold FX9_sitting NX9_sitting_4
  refine xlp_for (fun r a => ∃ k, k + r = P ∧ a = (nI (cnt s k), nI k)) ?_ ?_ P (0, 0) ⟨0, by omega, rfl⟩
  · rintro a B ⟨k, hk, rfl⟩
    show lbX9_sitting_4 Q w M (fun l2 l3 => B (l2, l3)) (nI (cnt s k)) (nI k)
    unfold lbX9_sitting_4
    have : k = P := by omega
    subst this
    rw [hP]
    exact ⟨fun _ => h, fun hc => absurd (nI_le (by omega) (by omega)) hc⟩
  · rintro r a B ⟨k, hk, rfl⟩ hB
    show lbX9_sitting_4 Q w M (fun l2 l3 => B (l2, l3)) (nI (cnt s k)) (nI k)
    unfold lbX9_sitting_4
    have hsk := hs k (by omega)
    have hB := hB (nI (cnt s (k + 1)), nI (k + 1)) ⟨k + 1, by omega, rfl⟩
    rw [hP, ixn (by omega), nI_1, nI_1]
    refine ⟨fun hc => absurd hc (nI_ge (by omega) (by omega)), fun _ => ⟨vp_in_nI (by omega) (by decide), fun h0 => ?_, fun h0 => ?_⟩⟩
    · simp [cnt, hsk, h0] at hB; exact hB
    · simp [cnt, hsk, h0] at hB; exact hB
theorem s_sitting12 {Q : Int32 → Prop} {P : Nat} {M : Mem} (hP : M 166 6 = nI P) (h10 : P ≤ 10) (s : Nat → Bool) (hs : ∀ k, k < P → s k = decide (M 167 (73 + k) - 1 ≠ -1)) (h : Q (nI (cnt s P))) : FX12_sittingMany Q 166 M := by
  unfold FX12_sittingMany NX12_sittingMany_4
  refine xlp_for (fun r a => ∃ k, k + r = P ∧ a = (nI (cnt s k), nI k)) ?_ ?_ P (0, 0) ⟨0, by omega, rfl⟩
  · rintro a B ⟨k, hk, rfl⟩
    show lbX12_sittingMany_4 Q 166 M (fun l2 l3 => B (l2, l3)) (nI (cnt s k)) (nI k)
    unfold lbX12_sittingMany_4
    have : k = P := by omega
    subst this
    rw [hP]
    exact ⟨fun _ => h, fun hc => absurd (nI_le (by omega) (by omega)) hc⟩
  · rintro r a B ⟨k, hk, rfl⟩ hB
    show lbX12_sittingMany_4 Q 166 M (fun l2 l3 => B (l2, l3)) (nI (cnt s k)) (nI k)
    unfold lbX12_sittingMany_4
    have hsk := hs k (by omega)
    have hB := hB (nI (cnt s (k + 1)), nI (k + 1)) ⟨k + 1, by omega, rfl⟩
    rw [hP, nI_1, nI_1]
    refine ⟨fun hc => absurd hc (nI_ge (by omega) (by omega)), fun _ => s12_sitterOf (by omega) ⟨fun h0 => ?_, fun h0 => ?_⟩⟩
    · simp [cnt, hsk, h0] at hB; exact hB
    · simp [cnt, hsk, h0] at hB; exact hB
/-- the doctrines of the a-th up to ahead of the b-th who sits: how many sat, least and most -/
def sprF (s : Nat → Bool) (d : Nat → Int32) (a b : Nat) (k : Nat) (x : Nat × Option (Int32 × Int32)) : Nat × Option (Int32 × Int32) :=
  if s k = true then (x.1 + 1, if a ≤ x.1 ∧ x.1 < b then some (match x.2 with | none => (d k, d k) | some (l, m) => (mn l (d k), mx m (d k))) else x.2) else x
def oLo (z : Int32) : Option (Int32 × Int32) → Int32
  | none => z
  | some (l, _) => l
def oHi (z : Int32) : Option (Int32 × Int32) → Int32
  | none => z
  | some (_, m) => m
theorem sprF_inv {s : Nat → Bool} {d : Nat → Int32} {a b : Nat} {P : Nat} (hd : ∀ k, k < P → s k = true → -99 ≤ d k ∧ d k ≤ 99) : ∀ n, n ≤ P → (fo (sprF s d a b) (0, none) n).1 = cnt s n ∧ ((fo (sprF s d a b) (0, none) n).2 = none → cnt s n ≤ a ∨ b ≤ a) ∧ (∀ l m, (fo (sprF s d a b) (0, none) n).2 = some (l, m) → -99 ≤ l ∧ l ≤ m ∧ m ≤ 99) := by
  refine fo_inv (n := P) (fun k (x : Nat × Option (Int32 × Int32)) => x.1 = cnt s k ∧ (x.2 = none → cnt s k ≤ a ∨ b ≤ a) ∧ ∀ l m, x.2 = some (l, m) → -99 ≤ l ∧ l ≤ m ∧ m ≤ 99) ⟨rfl, fun _ => Or.inl (Nat.zero_le _), fun l m h => (by cases h)⟩ ?_
  rintro k ⟨i, o⟩ hk ⟨h1, h2, h3⟩
  have h1 : i = cnt s k := h1
  subst h1
  unfold sprF
  by_cases hs : s k = true
  · have hdk := hd k hk hs
    simp only [hs, if_true, cnt]
    refine ⟨trivial, ?_, ?_⟩
    · split
      · intro h; cases h
      · intro h; have := h2 h; omega
    · intro l m
      split
      · cases o with
        | none =>
          intro h
          simp at h
          obtain ⟨rfl, rfl⟩ := h
          exact ⟨hdk.1, Int32.le_refl _, hdk.2⟩
        | some x =>
          obtain ⟨l0, m0⟩ := x
          have := h3 l0 m0 rfl
          intro h
          simp at h
          obtain ⟨rfl, rfl⟩ := h
          unfold mn mx
          grind
      · exact h3 l m
  · simp only [hs, cnt]
    simp
    exact ⟨h2, h3⟩
theorem s9_spread {Q : Int32 → Prop} {w P N a b : Nat} {M : Mem} (hP : M w 10 = nI P) (h10 : P ≤ 10) (hN : M w 11 = nI N) (h14 : N ≤ 14) (su : Nat → Nat) (hsu : ∀ k, k < P → M (w + 2) k = nI (su k) - 1 ∧ su k ≤ N) (hd : ∀ k, k < P → su k ≠ 0 → -99 ≤ M (w + 6) (su k - 1) ∧ M (w + 6) (su k - 1) ≤ 99) (ha : a ≤ 20) (hb : b ≤ 20) (hab : a < b) (hbc : b ≤ cnt (fun k => decide (su k ≠ 0)) P)
    (h : Q (oHi 0 (fo (sprF (fun k => decide (su k ≠ 0)) (fun k => M (w + 6) (su k - 1)) a b) (0, none) P).2 - oLo 0 (fo (sprF (fun k => decide (su k ≠ 0)) (fun k => M (w + 6) (su k - 1)) a b) (0, none) P).2)) : FX9_spread Q w (nI a) (nI b) M := by
  have inv := sprF_inv (s := fun k => decide (su k ≠ 0)) (d := fun k => M (w + 6) (su k - 1)) (a := a) (b := b) (P := P) (fun k hk hs => hd k hk (by simpa using hs))
  unfold FX9_spread NX9_spread_13
  refine xlp_fo (sprF (fun k => decide (su k ≠ 0)) (fun k => M (w + 6) (su k - 1)) a b) (0, none) P (fun k x => (oLo 99 x.2, oHi (-99) x.2, nI x.1, nI k)) _ rfl (fun B => ?_) (fun k B hk hB => ?_)
  · have hi := inv P (Nat.le_refl P)
    generalize fo (sprF (fun k => decide (su k ≠ 0)) (fun k => M (w + 6) (su k - 1)) a b) (0, none) P = x at *
    obtain ⟨i, o⟩ := x
    show lbX9_spread_13 Q w (nI a) (nI b) M (fun l3 l4 l5 l6 => B (l3, l4, l5, l6)) (oLo 99 o) (oHi (-99) o) (nI i) (nI P)
    unfold lbX9_spread_13
    rw [hP]
    refine ⟨fun _ => ?_, fun hc => absurd (nI_le (by omega) (by omega)) hc⟩
    cases o with
    | none => have := hi.2.1 rfl; omega
    | some x => exact h
  · have hi := inv k (by omega)
    clear h
    generalize fo (sprF (fun k => decide (su k ≠ 0)) (fun k => M (w + 6) (su k - 1)) a b) (0, none) k = x at *
    obtain ⟨i, o⟩ := x
    show lbX9_spread_13 Q w (nI a) (nI b) M (fun l3 l4 l5 l6 => B (l3, l4, l5, l6)) (oLo 99 o) (oHi (-99) o) (nI i) (nI k)
    unfold lbX9_spread_13
    have hi1 : i = cnt (fun k => decide (su k ≠ 0)) k := hi.1
    have hik : i ≤ k := by
      rw [hi1]; clear hi1 hi hB hk
      induction k with
      | zero => exact Nat.le_refl 0
      | succ k ih => simp only [cnt]; split <;> omega
    rw [hP, ixn (by omega), (hsu k hk).1]
    refine ⟨fun hc => absurd hc (nI_ge (by omega) (by omega)), fun _ => ⟨vp_in_nI (by omega) (by decide), ?_⟩⟩
    have hle := (hsu k hk).2
    have hdk := hd k hk
    have hnx : nI i + 1 = nI (i + 1) := nI_1 i
    have hnk : nI k + 1 = nI (k + 1) := nI_1 k
    rw [hnk, hnx, nI_ltI (by omega) (by omega), nI_leI (by omega) (by omega)]
    rcases nI_sub1 (su k) with ⟨e, e2⟩ | ⟨j, e, e2⟩
    · rw [e2]
      refine s9_isSaint hN (by omega) (fun j hj q => absurd q.symm (m1_ne (by omega))) (fun _ => ⟨fun h => (by cases h), fun _ => ?_⟩)
      simp only [sprF, e] at hB
      exact hB
    · rw [e2]
      refine s9_isSaint hN (by omega) (fun _ _ _ => ⟨fun _ => ?_, fun h => (by cases h)⟩) (fun hn => absurd rfl (hn j (by omega)))
      rw [e, Nat.add_sub_cancel] at hdk
      have hdk := hdk (by omega)
      simp only [sprF, e, Nat.add_sub_cancel] at hB
      simp only [Nat.add_one_ne_zero, ne_eq, not_false_eq_true, decide_true, if_true] at hB
      refine ⟨fun h1 => ?_, fun h1 => ⟨fun h2 => ?_, fun h2 => ⟨vp_in_nI (by omega) (by decide), ?_⟩⟩⟩
      · rw [if_neg (by omega)] at hB; exact hB
      · rw [if_neg (by omega)] at hB; exact hB
      · rw [if_pos (by omega)] at hB
        rw [ixn (by omega)]
        refine s_min ⟨vp_in_nI (by omega) (by decide), s_max ?_⟩
        cases o with
        | none =>
          have e3 : mn (oLo 99 none) (M (w + 6) j) = M (w + 6) j := by simp only [oLo, mn]; grind
          have e4 : mx (oHi (-99) none) (M (w + 6) j) = M (w + 6) j := by simp only [oHi, mx]; grind
          rw [e3, e4]; exact hB
        | some x => exact hB
theorem s12_spread {Q : Int32 → Prop} {P N a b : Nat} {M : Mem} (hP : M 166 6 = nI P) (h10 : P ≤ 10) (h14 : N ≤ 14) (su : Nat → Nat) (hsu : ∀ k, k < P → M 167 (73 + k) = nI (su k) ∧ su k ≤ N) (hd : ∀ k, k < P → su k ≠ 0 → -99 ≤ M 167 (21 + (su k - 1)) ∧ M 167 (21 + (su k - 1)) ≤ 99) (ha : a ≤ 20) (hb : b ≤ 20) (hab : a < b) (hbc : b ≤ cnt (fun k => decide (su k ≠ 0)) P)
    (h : Q (oHi 0 (fo (sprF (fun k => decide (su k ≠ 0)) (fun k => M 167 (21 + (su k - 1))) a b) (0, none) P).2 - oLo 0 (fo (sprF (fun k => decide (su k ≠ 0)) (fun k => M 167 (21 + (su k - 1))) a b) (0, none) P).2)) : FX12_spreadOf Q 166 (nI a) (nI b) M := by
  have inv := sprF_inv (s := fun k => decide (su k ≠ 0)) (d := fun k => M 167 (21 + (su k - 1))) (a := a) (b := b) (P := P) (fun k hk hs => hd k hk (by simpa using hs))
  unfold FX12_spreadOf NX12_spreadOf_15
  refine xlp_fo (sprF (fun k => decide (su k ≠ 0)) (fun k => M 167 (21 + (su k - 1))) a b) (0, none) P (fun k x => (oHi (-100000000) x.2, oLo 100000000 x.2, nI x.1, nI k)) _ rfl (fun B => ?_) (fun k B hk hB => ?_)
  · have hi := inv P (Nat.le_refl P)
    generalize fo (sprF (fun k => decide (su k ≠ 0)) (fun k => M 167 (21 + (su k - 1))) a b) (0, none) P = x at *
    obtain ⟨i, o⟩ := x
    show lbX12_spreadOf_15 Q 166 (nI a) (nI b) M (fun l3 l4 l5 l6 => B (l3, l4, l5, l6)) (oHi (-100000000) o) (oLo 100000000 o) (nI i) (nI P)
    unfold lbX12_spreadOf_15
    rw [hP]
    refine ⟨fun _ => ?_, fun hc => absurd (nI_le (by omega) (by omega)) hc⟩
    cases o with
    | none => have := hi.2.1 rfl; omega
    | some x => exact h
  · have hi := inv k (by omega)
    clear h
    generalize fo (sprF (fun k => decide (su k ≠ 0)) (fun k => M 167 (21 + (su k - 1))) a b) (0, none) k = x at *
    obtain ⟨i, o⟩ := x
    show lbX12_spreadOf_15 Q 166 (nI a) (nI b) M (fun l3 l4 l5 l6 => B (l3, l4, l5, l6)) (oHi (-100000000) o) (oLo 100000000 o) (nI i) (nI k)
    unfold lbX12_spreadOf_15 NX12_spreadOf_83
    have hi1 : i = cnt (fun k => decide (su k ≠ 0)) k := hi.1
    have hik : i ≤ k := by
      rw [hi1]; clear hi1 hi hB hk
      induction k with
      | zero => exact Nat.le_refl 0
      | succ k ih => simp only [cnt]; split <;> omega
    have hle := (hsu k hk).2
    have hdk := hd k hk
    have hnx : nI i + 1 = nI (i + 1) := nI_1 i
    have hnk : nI k + 1 = nI (k + 1) := nI_1 k
    rw [hP, hnk, hnx]
    refine ⟨fun hc => absurd hc (nI_ge (by omega) (by omega)), fun _ => s12_sitterOf (by omega) ?_⟩
    rw [(hsu k hk).1, nI_ltI (by omega) (by omega), nI_leI (by omega) (by omega)]
    rcases nI_sub1 (su k) with ⟨e, e2⟩ | ⟨j, e, e2⟩
    · rw [e2]
      refine ⟨fun h => absurd rfl h, fun _ => ?_⟩
      simp only [sprF, e] at hB
      exact hB
    · rw [e2]
      refine ⟨fun _ => s12_sitterOf (by omega) ?_, fun h => absurd h (m1_ne (by omega))⟩
      rw [(hsu k hk).1, e2, ix21 (by omega)]
      rw [e, Nat.add_sub_cancel] at hdk
      have hdk := hdk (by omega)
      simp only [sprF, e, Nat.add_sub_cancel] at hB
      simp only [Nat.add_one_ne_zero, ne_eq, not_false_eq_true, decide_true, if_true] at hB
      refine ⟨vp21 (by omega), ?_⟩
      rintro y rfl
      refine ⟨fun h1 => ?_, fun h1 => ⟨fun h2 => ?_, fun h2 => ?_⟩⟩
      · rw [if_neg (by omega)] at hB; exact hB
      · rw [if_neg (by omega)] at hB; exact hB
      · rw [if_pos (by omega)] at hB
        refine s12_greater (s12_lesser ?_)
        cases o with
        | none =>
          have e3 : mn (oLo 100000000 none) (M 167 (21 + j)) = M 167 (21 + j) := by simp only [oLo, mn]; grind
          have e4 : mx (oHi (-100000000) none) (M 167 (21 + j)) = M 167 (21 + j) := by simp only [oHi, mx]; grind
          show B (mx (oHi (-100000000) none) (M 167 (21 + j)), mn (oLo 100000000 none) (M 167 (21 + j)), _, _)
          rw [e3, e4]; exact hB
        | some x => exact hB
/-- the first of the least, from the first on -/
def leastF (v : Nat → Int32) (k : Nat) (o : Option (Int32 × Nat)) : Option (Int32 × Nat) :=
  match o with
  | none => some (v k, k)
  | some (b, j) => if b ≤ v k then some (b, j) else some (v k, k)
theorem leastF_inv {v : Nat → Int32} {P : Nat} (hv : ∀ k, k < P → 0 ≤ v k ∧ v k ≤ 400) : ∀ n, n ≤ P → (0 < n → ∃ b j, fo (leastF v) none n = some (b, j)) ∧ ∀ b j, fo (leastF v) none n = some (b, j) → 0 ≤ b ∧ b ≤ 400 := by
  refine fo_inv (n := P) (fun k (o : Option (Int32 × Nat)) => (0 < k → ∃ b j, o = some (b, j)) ∧ ∀ b j, o = some (b, j) → 0 ≤ b ∧ b ≤ 400) ⟨fun h => absurd h (by decide), fun b j h => (by cases h)⟩ ?_
  intro k o hk ⟨h1, h2⟩
  unfold leastF
  cases o with
  | none => exact ⟨fun _ => ⟨_, _, rfl⟩, fun b j h => by cases h; exact hv k hk⟩
  | some x =>
    obtain ⟨b, j⟩ := x
    have h3 := h2 b j rfl
    simp only
    split
    · exact ⟨fun _ => ⟨_, _, rfl⟩, fun b2 j2 h => by cases h; exact h3⟩
    · exact ⟨fun _ => ⟨_, _, rfl⟩, fun b2 j2 h => by cases h; exact hv k hk⟩
theorem sub_rng {l m : Int32} (h1 : -99 ≤ l) (h2 : l ≤ m) (h3 : m ≤ 99) : 0 ≤ m - l ∧ m - l ≤ 198 := by grind
theorem add_rng {l m : Int32} (h1 : 0 ≤ l ∧ l ≤ 198) (h2 : 0 ≤ m ∧ m ≤ 198) : 0 ≤ l + m ∧ l + m ≤ 400 := by grind
theorem mn_l {x y : Int32} (h : x ≤ y) : mn x y = x := by unfold mn; grind
theorem mn_r {x y : Int32} (h : ¬ x ≤ y) : mn x y = y := by unfold mn; grind
def oB (z : Int32) : Option (Int32 × Nat) → Int32
  | none => z
  | some (b, _) => b
def oJ (z : Int32) : Option (Int32 × Nat) → Int32
  | none => z
  | some (_, j) => nI (1 + j)
theorem q_scandal : lq_scandal Inv := by
  intro M a1 hI
  obtain ⟨P, N, g, ⟨⟨w1, w2, w3, w4, w5, w6⟩, -, wS, -, -, wD, -⟩, -, -⟩ := hI.1.1
  have cw : CW 2 M M := hI.2.1.1
  have hP : M 2 10 = nI P := by rw [← w1]; exact cw.1.1
  have hN : M 2 11 = nI N := by rw [← w2]; exact cw.1.2.1
  have tw : xu M 166 0 0 166 6 = nI P := by rw [told_ne (by decide)]; exact w1
  let su : Nat → Nat := fun k => ix (M 167 (73 + k))
  have hsu : ∀ k, k < P → M 167 (73 + k) = nI (su k) ∧ su k ≤ N := by
    intro k hk
    obtain ⟨a, h1, h2⟩ := wS k hk
    have : su k = a := by show ix (M 167 (73 + k)) = a; rw [h2]; exact ixn (by omega)
    rw [this]; exact ⟨h2, h1⟩
  have hd : ∀ t, t < N → -99 ≤ M 167 (21 + t) ∧ M 167 (21 + t) ≤ 99 := fun t ht => by
    have := wD t ht
    exact ⟨Int32.le_iff_toInt_le.mpr this.1, Int32.le_iff_toInt_le.mpr this.2⟩
  let s : Nat → Bool := fun k => decide (su k ≠ 0)
  let d : Nat → Int32 := fun k => M 167 (21 + (su k - 1))
  let n := cnt s P
  have cle : ∀ k, cnt s k ≤ k := fun k => by
    induction k with
    | zero => exact Nat.le_refl 0
    | succ k ih => simp only [cnt]; split <;> omega
  have hn : n ≤ 10 := Nat.le_trans (cle P) w4
  let sp : Nat → Nat → Int32 := fun a b => oHi 0 (fo (sprF s d a b) (0, none) P).2 - oLo 0 (fo (sprF s d a b) (0, none) P).2
  have hsp : ∀ a b, a < b → b ≤ n → 0 ≤ sp a b ∧ sp a b ≤ 198 := by
    intro a b h1 h2
    have hi := (sprF_inv (s := s) (d := d) (a := a) (b := b) (P := P) (fun k hk hs => hd _ (by have := (hsu k hk).2; have : su k ≠ 0 := of_decide_eq_true hs; omega))) P (Nat.le_refl P)
    have e : sp a b = oHi 0 (fo (sprF s d a b) (0, none) P).2 - oLo 0 (fo (sprF s d a b) (0, none) P).2 := rfl
    rw [e]
    cases ho : (fo (sprF s d a b) (0, none) P).2 with
    | none => have := hi.2.1 ho; have : n = cnt s P := rfl; omega
    | some x =>
      obtain ⟨l, m⟩ := x
      have := hi.2.2 l m ho
      exact sub_rng this.1 this.2.1 this.2.2
  have c9 : ∀ (a b : Nat) (Q : Int32 → Prop), a < b → b ≤ n → Q (sp a b) → FX9_spread Q 2 (nI a) (nI b) M := by
    intro a b Q h1 h2 hq
    have e8 : ∀ k, k < P → M 8 (su k - 1) = M 167 (21 + (su k - 1)) := fun k hk => (cw.2.1 _ (by have := (hsu k hk).2; omega)).2.2.1
    have e9 : fo (sprF s d a b) (0, none) P = fo (sprF s (fun k => M 8 (su k - 1)) a b) (0, none) P := fo_congr (fun k x hk => by unfold sprF; rw [show d k = M 8 (su k - 1) from (e8 k hk).symm])
    refine s9_spread hP w4 hN w5 su (fun k hk => ⟨by rw [← (hsu k hk).1]; exact (cw.2.2 k (by omega)).2.1, (hsu k hk).2⟩) (fun k hk h0 => ?_) (by omega) (by omega) h1 h2 ?_
    · show -99 ≤ M 8 (su k - 1) ∧ M 8 (su k - 1) ≤ 99
      rw [e8 k hk]; exact hd _ (by have := (hsu k hk).2; omega)
    · have hq : Q (oHi 0 (fo (sprF s d a b) (0, none) P).2 - oLo 0 (fo (sprF s d a b) (0, none) P).2) := hq
      rw [e9] at hq; exact hq
  have c12 : ∀ (a b : Nat) (Q : Int32 → Prop), a < b → b ≤ n → Q (sp a b) → FX12_spreadOf Q 166 (nI a) (nI b) (xu M 166 0 0) := by
    intro a b Q h1 h2 hq
    have e9 : fo (sprF s d a b) (0, none) P = fo (sprF s (fun k => xu M 166 0 0 167 (21 + (su k - 1))) a b) (0, none) P := by
      have : (fun k => xu M 166 0 0 167 (21 + (su k - 1))) = d := by funext k; exact told_ne (by omega)
      rw [this]
    refine s12_spread (N := N) tw w4 w5 su (fun k hk => by rw [told_ne (by omega)]; exact hsu k hk) (fun k hk h0 => ?_) (by omega) (by omega) h1 h2 ?_
    · rw [told_ne (by omega)]; exact hd _ (by have := (hsu k hk).2; omega)
    · have hq : Q (oHi 0 (fo (sprF s d a b) (0, none) P).2 - oLo 0 (fo (sprF s d a b) (0, none) P).2) := hq
      rw [e9] at hq; exact hq
  have hs9 : ∀ k, k < P → s k = decide (M 4 k ≠ -1) := by
    intro k hk
    have e : M 4 k = nI (su k) - 1 := by rw [← (hsu k hk).1]; exact (cw.2.2 k (by omega)).2.1
    rw [e]
    show decide (su k ≠ 0) = _
    rcases nI_sub1 (su k) with ⟨e1, e2⟩ | ⟨j, e1, e2⟩
    · rw [e2, e1]; decide
    · have : ¬ nI j = -1 := m1_ne (by have := (hsu k hk).2; omega)
      rw [e2, e1]; simp [this]
  have hs12 : ∀ k, k < P → s k = decide (xu M 166 0 0 167 (73 + k) - 1 ≠ -1) := by
    intro k hk
    rw [hs9 k hk, told_ne (by omega), show M 4 k = M 167 (73 + k) - 1 from (cw.2.2 k (by omega)).2.1]
  let v : Nat → Int32 := fun k => sp 0 (1 + k) + sp (1 + k) n
  have hv : ∀ k, k < n - 1 → 0 ≤ v k ∧ v k ≤ 400 := by
    intro k hk
    have h1 := hsp 0 (1 + k) (by omega) (by omega)
    have h2 := hsp (1 + k) n (by omega) (by omega)
    exact add_rng h1 h2
  have linv := leastF_inv (v := v) (P := n - 1) hv
  have no : (n < 2 ∨ ¬ (0 ≤ a1 ∧ a1 ≤ 1)) → FX12_scandal (fun r2 M2 => (-1 : Int32) = r2 ∧ Inv M2) 166 a1 M := by
    intro ha
    unfold FX12_scandal
    rintro M4 rfl
    refine s_sitting12 tw w4 s hs12 ⟨fun _ => ⟨rfl, Inv_told hI 0⟩, fun h0 => s12_isIn ?_⟩
    rw [decide_eq_false (fun q => ha.elim (fun h => h0 (nI_lt (b := 2) h (by decide))) (fun h => h q))]
    exact ⟨fun h => (by cases h), fun _ => ⟨rfl, Inv_told hI 0⟩⟩
  have ref : (0 ≤ a1 ∧ a1 ≤ 1) → 2 ≤ n → ∀ b j, fo (leastF v) none (n - 1) = some (b, j) → FX12_scandal (fun r2 M2 => (if a1 = 0 then nI (1 + j) else b) = r2 ∧ Inv M2) 166 a1 M := by
    intro ha h2 b j hbj
    unfold FX12_scandal
    rintro M4 rfl
    refine s_sitting12 tw w4 s hs12 ⟨fun h => absurd h (nI_nlt (b := 2) h2 (by omega)), fun h0 => s12_isIn ?_⟩
    rw [decide_eq_true ha]
    refine ⟨fun _ => ?_, fun h => (by cases h)⟩
    unfold NX12_scandal_37
    refine xlp_fo (leastF v) none (n - 1) (fun k o => (oJ 0 o, oB 100000000 o, nI (1 + k))) _ rfl (fun B => ?_) (fun k B hk hB => ?_)
    · rw [hbj]
      show lbX12_scandal_37 _ 166 a1 (nI n) _ (fun l3 l4 l5 => B (l3, l4, l5)) (nI (1 + j)) b (nI (1 + (n - 1)))
      unfold lbX12_scandal_37
      refine ⟨fun _ => ⟨fun h => ⟨by rw [if_neg h], Inv_told hI 0⟩, fun h => ⟨by rw [if_pos h], Inv_told hI 0⟩⟩, fun hc => absurd (nI_le (by omega) (by omega)) hc⟩
    · have li := linv k (by omega)
      have hvk := hv k hk
      generalize fo (leastF v) none k = o at hB li ⊢
      have step : ∀ (x y : Int32), (x, y) = (oJ 0 o, oB 100000000 o) → lbX12_scandal_37 (fun r2 M2 => (if a1 = 0 then nI (1 + j) else b) = r2 ∧ Inv M2) 166 a1 (nI n) (xu M 166 0 0) (fun l3 l4 l5 => B (l3, l4, l5)) x y (nI (1 + k)) := by
        intro x y hxy
        unfold lbX12_scandal_37 NX12_scandal_73
        rw [show nI (1 + k) + 1 = nI (1 + (k + 1)) from nI_1 _]
        refine ⟨fun hc => absurd hc (nI_ge (by omega) (by omega)), fun _ => c12 0 (1 + k) _ (by omega) (by omega) (c12 (1 + k) n _ (by omega) (by omega) ⟨fun h => s12_lesser ?_, fun h => s12_lesser ?_⟩)⟩
        · have h : y ≤ v k := h
          show B (x, mn y (v k), nI (1 + (k + 1)))
          cases o with
          | none =>
            have hy : y = 100000000 := congrArg Prod.snd hxy
            rw [hy] at h
            exact absurd (Int32.le_trans h hvk.2) (by decide)
          | some z =>
            cases hxy
            have e : mn (oB 100000000 (some z)) (v k) = oB 100000000 (some z) := mn_l h
            have e2 : leastF v k (some z) = some z := by obtain ⟨z1, z2⟩ := z; exact if_pos h
            rw [e2] at hB
            rw [e]; exact hB
        · have h : ¬ y ≤ v k := h
          show B (nI (1 + k), mn y (v k), nI (1 + (k + 1)))
          have e : mn y (v k) = v k := mn_r h
          rw [e]
          cases o with
          | none => exact hB
          | some z =>
            cases hxy
            have e2 : leastF v k (some z) = some (v k, k) := by obtain ⟨z1, z2⟩ := z; exact if_neg h
            rw [e2] at hB; exact hB
      cases o with
      | none => exact step _ _ rfl
      | some z => exact step _ _ rfl
  have cls : (0 ≤ a1 ∧ a1 ≤ 1) → NX11_scandal_11 (fun r => FX12_scandal (fun r2 M2 => r = r2 ∧ Inv M2) 166 a1 M) 0 a1 M := by
    intro ha
    unfold NX11_scandal_11
    refine s_sitting9 (w := 2) hP w4 s hs9 ?_
    unfold NX11_scandal_30
    refine xlp_fo (leastF v) none (n - 1) (fun k o => (oB (-1) o, oJ (-1) o, nI (1 + k))) _ rfl (fun B => ?_) (fun k B hk hB => ?_)
    · by_cases h2 : 2 ≤ n
      · obtain ⟨b, j, hbj⟩ := (linv (n - 1) (Nat.le_refl _)).1 (by omega)
        rw [hbj]
        show lbX11_scandal_30 _ 0 a1 (nI n) _ (fun l3 l4 l5 => B (l3, l4, l5)) b (nI (1 + j)) (nI (1 + (n - 1)))
        unfold lbX11_scandal_30
        have := ref ha h2 b j hbj
        refine ⟨fun _ => ⟨fun h => by rw [if_neg h] at this; exact this, fun h => by rw [if_pos h] at this; exact this⟩, fun hc => absurd (nI_le (by omega) (by omega)) hc⟩
      · have e : n - 1 = 0 := by omega
        rw [e]
        show lbX11_scandal_30 _ 0 a1 (nI n) _ (fun l3 l4 l5 => B (l3, l4, l5)) (-1) (-1) (nI 1)
        unfold lbX11_scandal_30
        refine ⟨fun _ => ⟨fun h => no (Or.inl (by omega)), fun h => no (Or.inl (by omega))⟩, fun hc => absurd (nI_le (b := 1) (by omega) (by omega)) hc⟩
    · have li := linv k (by omega)
      have hvk := hv k hk
      generalize fo (leastF v) none k = o at hB li ⊢
      have step : ∀ (x y : Int32), (x, y) = (oB (-1) o, oJ (-1) o) → lbX11_scandal_30 (fun r => FX12_scandal (fun r2 M2 => r = r2 ∧ Inv M2) 166 a1 M) 0 a1 (nI n) M (fun l3 l4 l5 => B (l3, l4, l5)) x y (nI (1 + k)) := by
        intro x y hxy
        unfold lbX11_scandal_30 NX11_scandal_78
        rw [show nI (1 + k) + 1 = nI (1 + (k + 1)) from nI_1 _]
        refine ⟨fun hc => absurd hc (nI_ge (by omega) (by omega)), fun _ => c9 0 (1 + k) _ (by omega) (by omega) (c9 (1 + k) n _ (by omega) (by omega) ⟨fun h => ?_, fun h => ⟨fun h1 => ?_, fun h1 => ?_⟩⟩)⟩
        · show B (v k, nI (1 + k), nI (1 + (k + 1)))
          cases o with
          | none => exact hB
          | some z =>
            cases hxy
            have := li.2 z.1 z.2 rfl
            rw [show z.1 = -1 from h] at this
            exact absurd this.1 (by decide)
        · have h1 : x ≤ v k := h1
          cases o with
          | none => cases hxy; exact absurd rfl h
          | some z =>
            cases hxy
            have e2 : leastF v k (some z) = some z := by obtain ⟨z1, z2⟩ := z; exact if_pos h1
            rw [e2] at hB
            exact hB
        · have h1 : ¬ x ≤ v k := h1
          show B (v k, nI (1 + k), nI (1 + (k + 1)))
          cases o with
          | none => exact hB
          | some z =>
            cases hxy
            have e2 : leastF v k (some z) = some (v k, k) := by obtain ⟨z1, z2⟩ := z; exact if_neg h1
            rw [e2] at hB; exact hB
      cases o with
      | none => exact step _ _ rfl
      | some z => exact step _ _ rfl
  unfold FX11_scandal
  refine ⟨fun h => cls (by rw [h]; decide), fun h => ⟨fun h2 => cls (by rw [h2]; decide), fun h2 => no (Or.inr (fun q => ?_))⟩⟩
  obtain ⟨j, hj, rfl⟩ := nI_le_of (k := 1) (Int32.not_lt.mpr q.1) (Int32.not_lt.mpr q.2) (by decide)
  rcases (show j = 0 ∨ j = 1 by omega) with rfl | rfl
  · exact h rfl
  · exact h2 rfl
