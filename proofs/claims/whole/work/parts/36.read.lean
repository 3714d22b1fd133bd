theorem i32_m1 (x : Int32) : x + (-1) = x - 1 := (Int32.sub_eq_add_neg x 1).symm
theorem nI_s1 (n : Nat) : nI (n + 1) - 1 = nI n := nI_pred n
theorem lastIdx {x : Int32} {n : Nat} (hn : n < 2 ^ 30) : (0 ≤ x ∧ x ≤ nI n - 1) ↔ (¬ x < 0 ∧ ¬ nI n ≤ x) := by
  have e : (nI n - 1).toInt = (n : Int) - 1 := pk_sub_toInt (b := 1) hn (by decide)
  have e2 : (nI n).toInt = (n : Int) := nI_toInt (by omega)
  rw [Int32.not_lt, Int32.not_le, Int32.le_iff_toInt_le (x := x) (y := nI n - 1), e, Int32.lt_iff_toInt_lt, e2]
  constructor <;> (rintro ⟨h1, h2⟩; exact ⟨h1, by omega⟩)
/-- the last place ahead of k where f is x: what g holds there -/
def lastm (f g : Nat → Int32) (x : Int32) : Nat → Int32
  | 0 => -1
  | k + 1 => if f k = x then g k else lastm f g x k
theorem lastm_congr {f f2 g g2 : Nat → Int32} {x : Int32} : ∀ {n : Nat}, (∀ k, k < n → f k = f2 k ∧ g k = g2 k) → lastm f g x n = lastm f2 g2 x n
  | 0, _ => rfl
  | n + 1, h => by
    have ih := lastm_congr (x := x) (n := n) (fun k hk => h k (by omega))
    simp only [lastm, ih, (h n (by omega)).1, (h n (by omega)).2]
theorem s6_weatherOn {Q : Int32 → Prop} {d n : Nat} {x : Int32} {M : Mem} (hn : M d 2 = nI n) (h16 : n ≤ 16) (h : Q (lastm (M (d + 1)) (M (d + 2)) x n)) : FX6_weatherOn Q d x M := by
  unfold FX6_weatherOn NX6_weatherOn_7
  rw [hn]
  refine xlp_for (fun r a => r ≤ 16 ∧ a = nI r - 1 ∧ Q (lastm (M (d + 1)) (M (d + 2)) x r)) ?_ ?_ n (nI n - 1) ⟨h16, rfl, h⟩
  · rintro a B ⟨-, rfl, hq⟩
    unfold lbX6_weatherOn_7
    exact ⟨fun _ => hq, fun hc => absurd (by decide) hc⟩
  · rintro r a B ⟨hr, rfl, hq⟩ hB
    rw [nI_s1]
    unfold lbX6_weatherOn_7
    rw [ixn (by omega)]
    refine ⟨fun hc => absurd hc (nI_pos (by omega)), fun _ => ⟨vp_in_nI (by omega) (by decide), fun h1 => hB _ ⟨by omega, i32_m1 _, ?_⟩, fun h1 => ⟨vp_in_nI (by omega) (by decide), ?_⟩⟩⟩
    · rw [lastm, if_neg h1] at hq; exact hq
    · rw [lastm, if_pos h1] at hq; exact hq
theorem ix2k {k : Nat} (h : k < 1000) : ix (2 * nI k) = 2 * k := by
  rw [show (2 : Int32) * nI k = nI (2 * k) from pk_mul 2 k]; exact ixn (by omega)
theorem ix2k1 {k : Nat} (h : k < 1000) : ix (2 * nI k + 1) = 2 * k + 1 := by
  rw [show (2 : Int32) * nI k + 1 = nI (2 * k + 1) from by rw [show (2 : Int32) * nI k = nI (2 * k) from pk_mul 2 k, nI_1]]; exact ixn (by omega)
theorem vp2k {k N : Nat} (h : 2 * k < N) (hN : N < 2 ^ 31) : vp_in (2 * nI k) N := by
  rw [show (2 : Int32) * nI k = nI (2 * k) from pk_mul 2 k]; exact vp_in_nI h hN
theorem vp2k1 {k N : Nat} (h : 2 * k + 1 < N) (hN : N < 2 ^ 31) : vp_in (2 * nI k + 1) N := by
  rw [show (2 : Int32) * nI k + 1 = nI (2 * k + 1) from by rw [show (2 : Int32) * nI k = nI (2 * k) from pk_mul 2 k, nI_1]]; exact vp_in_nI h hN
theorem s12_skyOf {Q : Int32 → Prop} {n : Nat} {x : Int32} {M : Mem} (hn : M 166 33 = nI n) (h16 : n ≤ 16) (h : Q (lastm (fun k => M 182 (2 * k)) (fun k => M 182 (2 * k + 1)) x n)) : FX12_skyOf Q 166 x M := by
  unfold FX12_skyOf NX12_skyOf_4
  refine xlp_for (fun r a => ∃ k, k + r = n ∧ a = (lastm (fun k => M 182 (2 * k)) (fun k => M 182 (2 * k + 1)) x k, nI k)) ?_ ?_ n (-1, 0) ⟨0, by omega, rfl⟩
  · rintro a B ⟨k, hk, rfl⟩
    show lbX12_skyOf_4 Q 166 x M (fun l1 l2 => B (l1, l2)) _ _
    unfold lbX12_skyOf_4
    rw [hn]
    have e : k = n := by omega
    subst e
    exact ⟨fun _ => h, fun hc => absurd (nI_le (Nat.le_refl _) (by omega)) hc⟩
  · rintro r a B ⟨k, hk, rfl⟩ hB
    show lbX12_skyOf_4 Q 166 x M (fun l1 l2 => B (l1, l2)) _ _
    unfold lbX12_skyOf_4
    rw [hn, ix2k (by omega), ix2k1 (by omega)]
    refine ⟨fun hc => absurd hc (nI_ge (by omega) (by omega)), fun _ => ⟨vp2k (by omega) (by decide), fun h1 => hB _ ⟨k + 1, by omega, ?_⟩, fun h1 => ⟨vp2k1 (by omega) (by decide), ?_⟩⟩⟩
    · rw [nI_1]
      show _ = (if M 182 (2 * k) = x then _ else _, _)
      rw [if_neg h1]
    · rintro y rfl
      refine hB _ ⟨k + 1, by omega, ?_⟩
      rw [nI_1]
      show _ = (if M 182 (2 * k) = x then _ else _, _)
      rw [if_pos h1]
theorem q_sky : lq_sky Inv := by
  intro M a1 hI
  obtain ⟨n, h16, hn⟩ := hI.1.2.2.1
  have cs : CS 19 M M := hI.2.1.2.2.1
  unfold FX11_sky
  refine s6_weatherOn (d := 19) (n := n) (by rw [← hn]; exact cs.1) h16 ?_
  unfold FX12_sky
  rintro M1 rfl
  refine s12_skyOf (by rw [told_ne (by decide)]; exact hn) h16 ⟨?_, Inv_told hI 0⟩
  refine lastm_congr (fun k hk => ?_)
  rw [told_ne (by omega), told_ne (by omega)]
  exact cs.2 k (by omega) (by rw [hn]; exact nI_lt hk (by omega))
theorem q_book : lq_book Inv := by
  intro M a1 a2 hI
  obtain ⟨P, N, g, ⟨-, ⟨n, h150, hn⟩, -⟩, -, -⟩ := hI.1.1
  have cw : CW 2 M M := hI.2.1.1
  have hl : M 2 18 = nI n := by rw [← hn]; exact cw.1.2.2.2.2.1
  have hb : ∀ i, i < 600 → M 11 i = M 171 i := hI.2.1.2.2.2.2.2.2
  have e18 : M (0 + 1 + 1) 18 = nI n := hl
  have no : (¬ (¬ a1 < 0 ∧ ¬ nI n ≤ a1) ∨ ¬ (0 ≤ a2 ∧ a2 ≤ 3)) → FX12_book (fun r2 M2 => -100 = r2 ∧ Inv M2) 166 a1 a2 M := by
    intro hc
    unfold FX12_book
    rintro M1 rfl
    refine s12_isIn ?_
    rw [told_ne (by decide), show M (166 + 1) 2 = nI n from hn]
    by_cases h1 : 0 ≤ a1 ∧ a1 ≤ nI n - 1
    · rw [decide_eq_true h1]
      refine ⟨fun h => (by cases h), fun _ => s12_isIn ?_⟩
      have h2 : ¬ (0 ≤ a2 ∧ a2 ≤ 3) := by
        rcases hc with hc | hc
        · exact absurd ((lastIdx (by omega)).mp h1) hc
        · exact hc
      rw [decide_eq_false h2]
      exact ⟨fun _ => ⟨rfl, Inv_told hI 0⟩, fun h => (by cases h)⟩
    · rw [decide_eq_false h1]
      exact ⟨fun _ => ⟨rfl, Inv_told hI 0⟩, fun h => (by cases h)⟩
  unfold FX11_book
  rw [e18]
  refine ⟨fun h => no (Or.inl (fun q => q.1 h)), fun h0 => ⟨fun h => no (Or.inl (fun q => q.2 h)), fun h1 => ⟨fun h => no (Or.inr (fun q => absurd h (Int32.not_lt.mpr q.1))), fun h2 => ⟨fun h3 => ?_, fun h => no (Or.inr (fun q => h q.2))⟩⟩⟩⟩
  obtain ⟨k, hk, rfl⟩ := nI_idx h0 h1 (by omega)
  obtain ⟨j, hj, rfl⟩ := nI_le_of (k := 3) h2 (Int32.not_lt.mpr h3) (by decide)
  have e1 : nI k * 4 + nI j = nI (4 * k + j) := by
    rw [show nI k * 4 = nI (k * 4) from pk_mul k 4, nI_add, Nat.mul_comm]
  have e2 : 4 * nI k + nI j = nI (4 * k + j) := by
    rw [show (4 : Int32) * nI k = nI (4 * k) from pk_mul 4 k, nI_add]
  unfold FX9_cell
  rw [e1, show SHn (0 + 1 + 1 + 9) = 600 by decide]
  refine ⟨fun h => absurd h (nI_pos (by omega)), fun _ => ⟨fun h => absurd h (nI_ge (b := 600) (by omega) (by decide)), fun _ => ⟨vp_in_nI (by omega) (by decide), ?_⟩⟩⟩
  rw [ixn (by omega)]
  unfold FX12_book
  rintro M1 rfl
  refine s12_isIn ?_
  rw [told_ne (by decide), show M (166 + 1) 2 = nI n from hn, decide_eq_true ((lastIdx (by omega)).mpr ⟨nI_pos (by omega), nI_ge hk (by omega)⟩)]
  refine ⟨fun h => (by cases h), fun _ => s12_isIn ?_⟩
  rw [decide_eq_true ⟨Int32.not_lt.mp h2, h3⟩]
  refine ⟨fun h => (by cases h), fun _ => ?_⟩
  rw [e2]
  refine ⟨vp_in_nI (by omega) (by decide), ?_, Inv_told hI 0⟩
  rw [ixn (by omega), told_ne (by omega)]
  exact hb (4 * k + j) (by omega)
/-- how many are seen, from the k-th on, r of them, n seen yet, m the tallest yet -/
def seenL (f : Nat → Int32) : Nat → Nat → Int32 → Int32 → Int32
  | 0, _, n, _ => n
  | r + 1, k, n, m => if f k ≤ m then seenL f r (k + 1) n m else seenL f r (k + 1) (n + 1) (f k)
theorem seenL_congr {f g : Nat → Int32} : ∀ {r k : Nat} {n m : Int32}, (∀ j, j < k + r → f j = g j) → seenL f r k n m = seenL g r k n m
  | 0, _, _, _, _ => rfl
  | r + 1, k, n, m, h => by
    simp only [seenL, h k (by omega)]
    rw [seenL_congr (r := r) (fun j hj => h j (by omega)), seenL_congr (r := r) (n := n + 1) (fun j hj => h j (by omega))]
theorem s9_seenFrom {Q : Int32 → Prop} {w P : Nat} {z : Int32} {M : Mem} (hP : M w 10 = nI P) (h10 : P ≤ 10) (hz : z = 0 ∨ z = 1) (h : Q (seenL (fun k => M (w + 1) (if z = 0 then k else P - 1 - k)) P 0 0 0)) : FX9_seenFrom Q w z M := by
  unfold FX9_seenFrom NX9_seenFrom_7
  refine xlp_for (fun r a => ∃ k, k + r = P ∧ a.2.2 = nI k ∧ Q (seenL (fun k => M (w + 1) (if z = 0 then k else P - 1 - k)) r k a.1 a.2.1)) ?_ ?_ P (0, 0, 0) ⟨0, by omega, rfl, h⟩
  · rintro ⟨n, m, i⟩ B ⟨k, hk, hi, hq⟩
    have hi : i = nI k := hi
    subst hi
    show lbX9_seenFrom_7 Q w z M (fun l2 l3 l4 => B (l2, l3, l4)) n m (nI k)
    unfold lbX9_seenFrom_7
    rw [hP]
    exact ⟨fun _ => hq, fun hc => absurd (nI_le (by omega) (by omega)) hc⟩
  · rintro r ⟨n, m, i⟩ B ⟨k, hk, hi, hq⟩ hB
    have hi : i = nI k := hi
    subst hi
    show lbX9_seenFrom_7 Q w z M (fun l2 l3 l4 => B (l2, l3, l4)) n m (nI k)
    unfold lbX9_seenFrom_7
    rw [hP]
    have step : ∀ j : Nat, j < 10 → (j = if z = 0 then k else P - 1 - k) → NX9_seenFrom_34 Q (fun l2 l3 l4 => B (l2, l3, l4)) w z n m (nI k) (nI j) M := by
      intro j hj ej
      unfold NX9_seenFrom_34
      rw [ixn (by omega)]
      have hq : Q (if M (w + 1) (if z = 0 then k else P - 1 - k) ≤ m then _ else _) := hq
      rw [← ej] at hq
      refine ⟨vp_in_nI hj (by decide), fun h1 => hB _ ⟨k + 1, by omega, nI_1 k, ?_⟩, fun h1 => ⟨vp_in_nI hj (by decide), hB _ ⟨k + 1, by omega, nI_1 k, ?_⟩⟩⟩
      · rw [if_pos h1] at hq; exact hq
      · rw [if_neg h1] at hq; subst ej; exact hq
    refine ⟨fun hc => absurd hc (nI_ge (by omega) (by omega)), fun _ => ⟨fun hz0 => step k (by omega) (by rw [if_pos hz0]), fun hz0 => ?_⟩⟩
    have e : nI P - 1 - nI k = nI (P - 1 - k) := by
      rw [show nI P - 1 = nI (P - 1) from pk_sub (b := 1) (by omega)]
      exact pk_sub (by omega)
    rw [e]
    exact step (P - 1 - k) (by omega) (by rw [if_neg hz0])
theorem s12_seenFrom {Q : Int32 → Prop} {P : Nat} {z : Int32} {M : Mem} (hP : M 166 6 = nI P) (h10 : P ≤ 10) (hz : z = 0 ∨ z = 1) (h : Q (seenL (fun k => M 167 (63 + (if z = 0 then k else P - 1 - k))) P 0 0 0)) : FX12_seenFrom Q 166 z M := by
  unfold FX12_seenFrom NX12_seenFrom_7
  refine xlp_for (fun r a => ∃ k, k + r = P ∧ a.2.2 = nI k ∧ Q (seenL (fun k => M 167 (63 + (if z = 0 then k else P - 1 - k))) r k a.1 a.2.1)) ?_ ?_ P (0, 0, 0) ⟨0, by omega, rfl, h⟩
  · rintro ⟨n, m, i⟩ B ⟨k, hk, hi, hq⟩
    have hi : i = nI k := hi
    subst hi
    show lbX12_seenFrom_7 Q 166 z M (fun l2 l3 l4 => B (l2, l3, l4)) n m (nI k)
    unfold lbX12_seenFrom_7
    rw [hP]
    exact ⟨fun _ => hq, fun hc => absurd (nI_le (by omega) (by omega)) hc⟩
  · rintro r ⟨n, m, i⟩ B ⟨k, hk, hi, hq⟩ hB
    have hi : i = nI k := hi
    subst hi
    show lbX12_seenFrom_7 Q 166 z M (fun l2 l3 l4 => B (l2, l3, l4)) n m (nI k)
    unfold lbX12_seenFrom_7
    rw [hP]
    have step : ∀ j : Nat, j < 10 → (j = if z = 0 then k else P - 1 - k) → NX12_seenFrom_40 Q (fun l2 l3 l4 => B (l2, l3, l4)) 166 z n m (nI k) (166 + 1) 63 (nI j) M := by
      intro j hj ej
      unfold NX12_seenFrom_40 NX12_seenFrom_54 FX12_greater
      have hq : Q (if M 167 (63 + (if z = 0 then k else P - 1 - k)) ≤ m then _ else _) := hq
      rw [← ej] at hq
      refine ⟨by rw [show SHn (166 + 1) = 107 by decide]; exact vp63 hj, ?_⟩
      rintro y rfl
      rw [ix63 (by omega)]
      refine ⟨fun h1 => ⟨fun h2 => hB _ ⟨k + 1, by omega, nI_1 k, ?_⟩, fun h2 => hB _ ⟨k + 1, by omega, nI_1 k, ?_⟩⟩, fun h1 => ⟨fun h2 => hB _ ⟨k + 1, by omega, nI_1 k, ?_⟩, fun h2 => absurd (Int32.le_of_lt (Int32.not_le.mp h1)) h2⟩⟩
      · rw [if_pos h1] at hq
        have : M 167 (63 + j) = m := Int32.le_antisymm h1 h2
        show Q (seenL _ r (k + 1) n (M 167 (63 + j)))
        rw [this]; exact hq
      · rw [if_pos h1] at hq; exact hq
      · rw [if_neg h1] at hq; subst ej; exact hq
    refine ⟨fun hc => absurd hc (nI_ge (by omega) (by omega)), fun _ => ⟨fun hz0 => step k (by omega) (by rw [if_pos hz0]), fun hz0 => ?_⟩⟩
    have e : nI P - 1 - nI k = nI (P - 1 - k) := by
      rw [show nI P - 1 = nI (P - 1) from pk_sub (b := 1) (by omega)]
      exact pk_sub (by omega)
    rw [e]
    exact step (P - 1 - k) (by omega) (by rw [if_neg hz0])
theorem shl1 : ∀ k, k < 16 → (1 : Int32) <<< (nI k &&& 31) = nI (2 ^ k) := by decide +kernel
/-- a row of truths as a set, from the k-th on -/
def setL (f : Nat → Bool) : Nat → Nat → Int32 → Int32
  | 0, _, s => s
  | r + 1, k, s => if f k = true then setL f r (k + 1) (s ||| ((1 : Int32) <<< (nI k &&& 31))) else setL f r (k + 1) s
theorem setL_congr {f g : Nat → Bool} : ∀ {r k : Nat} {s : Int32}, (∀ j, k ≤ j → j < k + r → f j = g j) → setL f r k s = setL g r k s
  | 0, _, _, _ => rfl
  | r + 1, k, s, h => by
    simp only [setL, h k (by omega) (by omega)]
    rw [setL_congr (r := r) (k := k + 1) (s := s) (fun j h1 h2 => h j (by omega) (by omega)), setL_congr (r := r) (k := k + 1) (fun j h1 h2 => h j (by omega) (by omega))]
/-- higher than its neighbours -/
def storkB (f : Nat → Int32) (P k : Nat) : Bool := (decide (k = 0) || decide (¬ f k ≤ f (k - 1))) && (decide (P ≤ k + 1) || decide (¬ f k ≤ f (k + 1)))
theorem s9_storks {Q : Int32 → Prop} {w P : Nat} {M : Mem} (hP : M w 10 = nI P) (h10 : P ≤ 10) (h : Q (setL (storkB (M (w + 1)) P) P 0 0)) : FX9_storks Q w M := by
  unfold FX9_storks NX9_storks_4
  refine xlp_for (fun r a => ∃ k, k + r = P ∧ a.2 = nI k ∧ Q (setL (storkB (M (w + 1)) P) r k a.1)) ?_ ?_ P (0, 0) ⟨0, by omega, rfl, h⟩
  · rintro ⟨s, i⟩ B ⟨k, hk, hi, hq⟩
    have hi : i = nI k := hi
    subst hi
    show lbX9_storks_4 Q w M (fun l1 l2 => B (l1, l2)) s (nI k)
    unfold lbX9_storks_4
    rw [hP]
    exact ⟨fun _ => hq, fun hc => absurd (nI_le (by omega) (by omega)) hc⟩
  · rintro r ⟨s, i⟩ B ⟨k, hk, hi, hq⟩ hB
    have hi : i = nI k := hi
    subst hi
    show lbX9_storks_4 Q w M (fun l1 l2 => B (l1, l2)) s (nI k)
    have hq : Q (if storkB (M (w + 1)) P k = true then _ else _) := hq
    have yes : storkB (M (w + 1)) P k = true → ∀ y : Int32, y = s ||| ((1 : Int32) <<< (nI k &&& 31)) → B (y, nI k + 1) := by
      rintro hb y rfl
      rw [if_pos hb] at hq
      exact hB _ ⟨k + 1, by omega, nI_1 k, hq⟩
    have no : storkB (M (w + 1)) P k = false → B (s, nI k + 1) := by
      intro hb
      rw [if_neg (by rw [hb]; decide)] at hq
      exact hB _ ⟨k + 1, by omega, nI_1 k, hq⟩
    have e1 : ix (nI k) = k := ixn (by omega)
    have e2 : ix (nI k + 1) = k + 1 := by rw [nI_1]; exact ixn (by omega)
    have n38 : ∀ z : Int32, (z = 1 ∧ (k = 0 ∨ ¬ M (w + 1) k ≤ M (w + 1) (k - 1)) ∨ z = 0 ∧ ¬ (k = 0 ∨ ¬ M (w + 1) k ≤ M (w + 1) (k - 1))) → NX9_storks_38 Q (fun l1 l2 => B (l1, l2)) w s (nI k) z M := by
      intro z hz
      have n71 : ∀ y : Int32, (y = 1 ∧ (P ≤ k + 1 ∨ ¬ M (w + 1) k ≤ M (w + 1) (k + 1)) ∨ y = 0 ∧ ¬ (P ≤ k + 1 ∨ ¬ M (w + 1) k ≤ M (w + 1) (k + 1))) → NX9_storks_71 Q (fun l1 l2 => B (l1, l2)) w s (nI k) z y M := by
        intro y hy
        unfold NX9_storks_71
        refine ⟨fun h0 => no ?_, fun h0 => ⟨fun h1 => no ?_, fun h1 => yes ?_⟩⟩
        · rcases hz with ⟨rfl, _⟩ | ⟨-, hz⟩
          · exact absurd h0 (by decide)
          · refine Bool.eq_false_iff.mpr (fun hb => ?_)
            simp only [storkB, Bool.and_eq_true, Bool.or_eq_true, decide_eq_true_eq] at hb
            exact hz hb.1
        · rcases hy with ⟨rfl, _⟩ | ⟨-, hy⟩
          · exact absurd h1 (by decide)
          · refine Bool.eq_false_iff.mpr (fun hb => ?_)
            simp only [storkB, Bool.and_eq_true, Bool.or_eq_true, decide_eq_true_eq] at hb
            exact hy hb.2
        · rcases hz with ⟨-, hz⟩ | ⟨rfl, _⟩
          · rcases hy with ⟨-, hy⟩ | ⟨rfl, _⟩
            · simp only [storkB, Bool.and_eq_true, Bool.or_eq_true, decide_eq_true_eq]
              exact ⟨hz, hy⟩
            · exact absurd rfl h1
          · exact absurd rfl h0
      unfold NX9_storks_38 NX9_storks_66
      rw [hP, nI_1]
      refine ⟨fun h1 => n71 1 (Or.inl ⟨rfl, Or.inl ((nI_leI (by omega) (by omega)).mp h1)⟩), fun h1 => ?_⟩
      have hlt : ¬ P ≤ k + 1 := fun q => h1 (nI_le q (by omega))
      rw [← nI_1, e1, e2]
      refine ⟨vp_in_nI (by omega) (by decide), by rw [nI_1]; exact vp_in_nI (by omega) (by decide), fun h2 => n71 0 (Or.inr ⟨rfl, fun q => q.elim hlt (fun q => q h2)⟩), fun h2 => n71 1 (Or.inl ⟨rfl, Or.inr h2⟩)⟩
    unfold lbX9_storks_4 NX9_storks_33
    rw [hP]
    refine ⟨fun hc => absurd hc (nI_ge (by omega) (by omega)), fun _ => ⟨fun h0 => ?_, fun h0 => ?_⟩⟩
    · have k0 : k = 0 := (nI_eq (b := 0) (by omega) (by decide)).mp h0
      exact n38 1 (Or.inl ⟨rfl, Or.inl k0⟩)
    · have k0 : ¬ k = 0 := fun q => h0 (by rw [q]; rfl)
      have e3 : nI k - 1 = nI (k - 1) := pk_sub (b := 1) (by omega)
      rw [e3, ixn (k := k - 1) (by omega), e1]
      exact ⟨vp_in_nI (by omega) (by decide), vp_in_nI (by omega) (by decide), fun h2 => n38 0 (Or.inr ⟨rfl, fun q => q.elim k0 (fun q => q h2)⟩), fun h2 => n38 1 (Or.inl ⟨rfl, Or.inr h2⟩)⟩
theorem s12_isStork {Q : Bool → Prop} {P k : Nat} {M : Mem} (hP : M 166 6 = nI P) (h10 : P ≤ 10) (hk : k < P) (h : Q (storkB (fun j => M 167 (63 + j)) P k)) : FX12_isStork Q 166 (nI k) M := by
  have e1 : ix (63 + nI k) = 63 + k := ix63 (by omega)
  have n27 : (k = 0 ∨ ¬ M 167 (63 + k) ≤ M 167 (63 + (k - 1))) → NX12_isStork_27 Q 166 (nI k) M := by
    intro hz
    unfold NX12_isStork_27
    rw [hP, show nI P - 1 = nI (P - 1) from pk_sub (b := 1) (by omega), e1]
    have e2 : ix (63 + nI k + 1) = 63 + k + 1 := ixb 63 1 (by omega)
    rw [e2]
    refine ⟨fun h1 => ?_, fun h1 => ⟨vp63 (by omega), vpb 63 1 (by omega) (by decide), fun h2 => ?_, fun h2 => ?_⟩⟩
    · have : k = P - 1 := (nI_eq (by omega) (by omega)).mp h1
      have hb : storkB (fun j => M 167 (63 + j)) P k = true := by
        simp only [storkB, Bool.and_eq_true, Bool.or_eq_true, decide_eq_true_eq]
        exact ⟨hz, Or.inl (by omega)⟩
      rw [hb] at h; exact h
    · have hne : ¬ k = P - 1 := fun q => h1 (by rw [q])
      have hb : storkB (fun j => M 167 (63 + j)) P k = false := by
        have h3 : ¬ P ≤ k + 1 := by omega
        have h4 : M 167 (63 + k) ≤ M 167 (63 + (k + 1)) := h2
        simp [storkB, h3, h4]
      rw [hb] at h; exact h
    · have hb : storkB (fun j => M 167 (63 + j)) P k = true := by
        simp only [storkB, Bool.and_eq_true, Bool.or_eq_true, decide_eq_true_eq]
        exact ⟨hz, Or.inr h2⟩
      rw [hb] at h; exact h
  unfold FX12_isStork
  rw [e1]
  refine ⟨fun h0 => n27 (Or.inl ((nI_eq (b := 0) (by omega) (by decide)).mp h0)), fun h0 => ?_⟩
  have k0 : ¬ k = 0 := fun q => h0 (by rw [q]; rfl)
  have e3 : (63 : Int32) + nI k - 1 = nI (63 + (k - 1)) := by
    rw [show (63 : Int32) + nI k = nI (63 + k) from nI_add 63 k, show nI (63 + k) - 1 = nI (63 + k - 1) from pk_sub (b := 1) (by omega)]
    congr 1
    omega
  rw [e3, ixn (k := 63 + (k - 1)) (by omega)]
  refine ⟨vp63 (by omega), vp_in_nI (by omega) (by decide), fun h2 => ?_, fun h2 => n27 (Or.inr h2)⟩
  have hb : storkB (fun j => M 167 (63 + j)) P k = false := by
    have h4 : M 167 (63 + k) ≤ M 167 (63 + (k - 1)) := h2
    simp [storkB, k0, h4]
  rw [hb] at h; exact h
theorem q_seen : lq_seen Inv := by
  intro M a1 hI
  obtain ⟨P, N, g, ⟨⟨w1, w2, w3, w4, w5, w6⟩, -⟩, -, -⟩ := hI.1.1
  have cw : CW 2 M M := hI.2.1.1
  have hP : M 2 10 = nI P := by rw [← w1]; exact cw.1.1
  have tw : xu M 166 0 0 166 6 = nI P := by rw [told_ne (by decide)]; exact w1
  unfold FX11_seen
  refine ⟨fun h => ?_, fun h => ?_, fun h => ?_, fun h0 h1 h2 => ?_⟩
  · subst h
    refine s9_seenFrom (w := 2) hP w4 (Or.inl rfl) ?_
    unfold FX12_seen
    rintro M1 rfl
    refine s12_isIn ⟨fun _ => ⟨fun h => absurd h (by decide), fun _ => ⟨fun _ => ?_, fun h => absurd h (by decide)⟩⟩, fun h => absurd h (by decide)⟩
    unfold NX12_seen_33
    refine s12_seenFrom tw w4 (Or.inl rfl) ⟨?_, Inv_told hI 0⟩
    refine seenL_congr (fun j hj => ?_)
    rw [told_ne (by omega)]
    exact (cw.2.2 _ (by split <;> omega)).1
  · subst h
    refine s9_seenFrom (w := 2) hP w4 (Or.inr rfl) ?_
    unfold FX12_seen
    rintro M1 rfl
    refine s12_isIn ⟨fun _ => ⟨fun h => absurd h (by decide), fun _ => ⟨fun h => absurd rfl h, fun _ => ?_⟩⟩, fun h => absurd h (by decide)⟩
    unfold NX12_seen_33
    refine s12_seenFrom tw w4 (Or.inr rfl) ⟨?_, Inv_told hI 0⟩
    refine seenL_congr (fun j hj => ?_)
    rw [told_ne (by omega)]
    exact (cw.2.2 _ (by split <;> omega)).1
  · subst h
    refine s9_storks (w := 2) hP w4 ?_
    unfold FX12_seen
    rintro M1 rfl
    refine s12_isIn ⟨fun _ => ⟨fun _ => ?_, fun h => absurd (by decide) h⟩, fun h => absurd h (by decide)⟩
    unfold NX12_seen_41
    refine xlp_for (fun r a => ∃ k, k + r = P ∧ a.2 = nI k ∧ setL (storkB (M 3) P) P 0 0 = setL (storkB (fun j => xu M 166 0 0 167 (63 + j)) P) r k a.1) ?_ ?_ P (0, 0) ⟨0, by omega, rfl, setL_congr (fun j _ hj => ?_)⟩
    · rintro ⟨s, i⟩ B ⟨k, hk, hi, hq⟩
      have hi : i = nI k := hi
      subst hi
      refine ⟨fun _ => ⟨hq, Inv_told hI 0⟩, fun hc => absurd (by rw [tw]; exact nI_le (by omega) (by omega)) hc⟩
    · rintro r ⟨s, i⟩ B ⟨k, hk, hi, hq⟩ hB
      have hi : i = nI k := hi
      subst hi
      refine ⟨fun hc => absurd hc (by rw [tw]; exact nI_ge (by omega) (by omega)), fun _ => s12_isStork tw w4 (by omega) ⟨fun hb => hB _ ⟨k + 1, by omega, nI_1 k, ?_⟩, fun hb => ?_⟩⟩
      · rw [hq, setL, if_neg (by rw [hb]; decide)]
      · rintro y rfl
        refine hB _ ⟨k + 1, by omega, nI_1 k, ?_⟩
        rw [hq, setL, if_pos hb]
    · have r : ∀ j, j < 10 → M 3 j = xu M 166 0 0 167 (63 + j) := fun j hj => by
        rw [told_ne (by omega)]
        exact (cw.2.2 j hj).1
      by_cases h1 : P ≤ j + 1
      · simp only [storkB, r j (by omega), r (j - 1) (by omega), h1, decide_true, Bool.true_or]
      · simp only [storkB, r j (by omega), r (j - 1) (by omega), r (j + 1) (by omega)]
  · unfold FX12_seen
    rintro M1 rfl
    refine s12_isIn ?_
    rw [decide_eq_false (fun q => ?_)]
    · exact ⟨fun h => (by cases h), fun _ => ⟨rfl, Inv_told hI 0⟩⟩
    · obtain ⟨j, hj, rfl⟩ := nI_le_of (k := 2) (Int32.not_lt.mpr q.1) (Int32.not_lt.mpr q.2) (by decide)
      rcases (show j = 0 ∨ j = 1 ∨ j = 2 by omega) with rfl | rfl | rfl
      · exact h0 rfl
      · exact h1 rfl
      · exact h2 rfl
