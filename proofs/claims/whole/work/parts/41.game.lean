/-! game -/
theorem absN {x : Int32} (h1 : -99 ≤ x) (h2 : x ≤ 99) : (0 ≤ x → x = nI x.toInt.natAbs) ∧ (x ≤ 0 → -x = nI x.toInt.natAbs) ∧ x.toInt.natAbs ≤ 99 := by
  have a1 : (-99 : Int) ≤ x.toInt := Int32.le_iff_toInt_le.mp h1
  have a2 : x.toInt ≤ (99 : Int) := Int32.le_iff_toInt_le.mp h2
  refine ⟨fun h => ?_, fun h => ?_, by omega⟩
  · obtain ⟨j, hj, rfl⟩ := nI_of (Int32.not_lt.mpr h)
    rw [nI_toInt hj]; simp
  · have : ¬ -x < 0 := by grind
    obtain ⟨j, hj, e⟩ := nI_of this
    have e2 : x = nI 0 - nI j := by rw [← e, nI_0]; grind
    have hj2 : j < 2 ^ 30 := by
      have : -x ≤ nI 99 := by show -x ≤ 99; grind
      rw [e] at this
      have := (nI_leI hj (by decide)).mp this
      omega
    have e3 : x.toInt = 0 - (j : Int) := by rw [e2]; exact pk_sub_toInt (by decide) hj2
    rw [e, e3]; congr 1; omega
theorem s_abs2 {Q : Int32 → Prop} {x : Int32} {M : Mem} (h1 : -99 ≤ x) (h2 : x ≤ 99) (h : Q (nI x.toInt.natAbs)) : FJ9_abs_0f7a4 Q x M := by
  unfold FJ9_abs_0f7a4
  obtain ⟨a, b, -⟩ := absN h1 h2
  refine ⟨fun q => ?_, fun q => ?_⟩
  · rw [a q]; exact h
  · rw [b (by grind)]; exact h
theorem s12_far0 {Q : Int32 → Prop} {x : Int32} {M : Mem} (h1 : -99 ≤ x) (h2 : x ≤ 99) (h : Q (nI x.toInt.natAbs)) : FX12_far Q 166 x 0 M := by
  unfold FX12_far
  obtain ⟨a, b, -⟩ := absN h1 h2
  refine ⟨fun q => ?_, fun q => ?_⟩
  · rw [show 0 - x = -x by grind, b q]; exact h
  · rw [show x - 0 = x by grind, a (by grind)]; exact h
theorem s9_sitterOn {Q : Int32 → Prop} {w P p : Nat} {M : Mem} (hP : M w 10 = nI P) (h10 : P ≤ 10) (hp : p < P) (h : Q (M (w + 2) p)) : FX9_sitterOn Q w (nI p) M := by
  unfold FX9_sitterOn
  refine s9_isPillar hP (by omega) (fun _ _ _ => ⟨fun h => (by cases h), fun _ => ⟨vp_in_nI (by omega) (by decide), ?_⟩⟩) (fun hn => absurd rfl (hn p hp))
  rw [ixn (by omega)]; exact h
def heapN (su : Nat → Nat) (d : Nat → Int32) (p : Nat) : Nat := if su p = 0 then 0 else (d (su p - 1)).toInt.natAbs
theorem s9_heap {Q : Int32 → Prop} {w P N p : Nat} {M : Mem} (hP : M w 10 = nI P) (h10 : P ≤ 10) (hN : M w 11 = nI N) (h14 : N ≤ 14) (su : Nat → Nat) (hsu : M (w + 2) p = nI (su p) - 1 ∧ su p ≤ N) (hp : p < P) (hd : ∀ t, t < N → -99 ≤ M (w + 6) t ∧ M (w + 6) t ≤ 99) (h : Q (nI (heapN su (M (w + 6)) p))) : FX9_heap Q w (nI p) M := by
  unfold FX9_heap
  refine s9_sitterOn hP h10 hp ?_
  rw [hsu.1]
  unfold heapN at h
  rcases nI_sub1 (su p) with ⟨e, e2⟩ | ⟨j, e, e2⟩
  · rw [e2]
    rw [if_pos e] at h
    exact s9_isSaint hN (by omega) (fun j hj q => absurd q.symm (m1_ne (by omega))) (fun _ => ⟨fun _ => h, fun h => (by cases h)⟩)
  · rw [e2]
    rw [if_neg (by omega), e, Nat.add_sub_cancel] at h
    have hj : j < N := by have := hsu.2; omega
    refine s9_isSaint hN (by omega) (fun _ _ _ => ⟨fun h => (by cases h), fun _ => ⟨vp_in_nI (by omega) (by decide), ?_⟩⟩) (fun hn => absurd rfl (hn j hj))
    rw [ixn (by omega)]
    exact s_abs2 (hd j hj).1 (hd j hj).2 h
theorem s12_heap {Q : Int32 → Prop} {P N p : Nat} {M : Mem} (h10 : P ≤ 10) (h14 : N ≤ 14) (su : Nat → Nat) (hsu : M 167 (73 + p) = nI (su p) ∧ su p ≤ N) (hp : p < P) (hd : ∀ t, t < N → -99 ≤ M 167 (21 + t) ∧ M 167 (21 + t) ≤ 99) (h : Q (nI (heapN su (fun t => M 167 (21 + t)) p))) : FX12_heapOf Q 166 (nI p) M := by
  unfold FX12_heapOf
  refine s12_sitterOf (by omega) ?_
  rw [hsu.1]
  unfold heapN at h
  rcases nI_sub1 (su p) with ⟨e, e2⟩ | ⟨j, e, e2⟩
  · rw [e2]
    rw [if_pos e] at h
    exact ⟨fun h => absurd rfl h, fun _ => h⟩
  · rw [e2]
    rw [if_neg (by omega), e, Nat.add_sub_cancel] at h
    have hj : j < N := by have := hsu.2; omega
    refine ⟨fun _ => s12_sitterOf (by omega) ?_, fun h => absurd h (m1_ne (by omega))⟩
    rw [hsu.1, e2, ix21 (by omega)]
    exact ⟨vp21 (by omega), s12_far0 (hd j hj).1 (hd j hj).2 h⟩
theorem remN {a d : Nat} (ha : a < 1000) (h0 : 0 < d) (hd : d < 1000) : nI a - nI a / nI d * nI d = nI (a % d) := pk_rem (by omega) h0 (by omega)
theorem s9_nimber {Q : Int32 → Prop} {w P N p t : Nat} {M : Mem} (hP : M w 10 = nI P) (h10 : P ≤ 10) (hN : M w 11 = nI N) (h14 : N ≤ 14) (su : Nat → Nat) (hsu : M (w + 2) p = nI (su p) - 1 ∧ su p ≤ N) (hp : p < P) (hd : ∀ t, t < N → -99 ≤ M (w + 6) t ∧ M (w + 6) t ≤ 99) (hh : heapN su (M (w + 6)) p ≤ 99) (ht : t ≤ 99) (h : Q (nI ((heapN su (M (w + 6)) p - t) % (p + 2)))) : FX9_nimber Q w (nI p) (nI t) M := by
  unfold FX9_nimber
  refine ⟨fun _ => s9_heap hP h10 hN h14 su hsu hp hd (s_max ?_), fun hc => absurd (nI_pos' (by omega)) hc⟩
  have e : mx 0 (nI (heapN su (M (w + 6)) p) - nI t) = nI (heapN su (M (w + 6)) p - t) := by
    unfold mx
    rcases Nat.lt_or_ge t (heapN su (M (w + 6)) p) with h1 | h1
    · rw [pk_sub (by omega), if_pos]
      exact nI_lt (a := 0) (by omega) (by omega)
    · rw [if_neg]
      · rw [show heapN su (M (w + 6)) p - t = 0 by omega]; rfl
      · intro hc
        have e3 := pk_sub_toInt (a := heapN su (M (w + 6)) p) (b := t) (by omega) (by omega)
        have : (0 : Int) < _ := Int32.lt_iff_toInt_lt.mp hc
        rw [e3] at this
        omega
  rw [e, show nI p + 2 = nI (p + 2) from nI_add p 2, remN (by omega) (by omega) (by omega)]
  exact ⟨nI_ne0 (by omega) (by omega), h⟩
theorem xor0 {a b : Int32} : a ^^^ b = 0 ↔ b = a := by
  constructor
  · intro h
    have : a ^^^ (a ^^^ b) = a ^^^ 0 := by rw [h]
    rw [← Int32.xor_assoc] at this
    simpa using this
  · rintro rfl; simp
theorem q_game : lq_game Inv := by
  intro M a1 hI
  obtain ⟨P, N, g, ⟨⟨w1, w2, w3, w4, w5, w6⟩, -, wS, -, -, wD, -⟩, -, -⟩ := hI.1.1
  have cw : CW 2 M M := hI.2.1.1
  have hP : M 2 10 = nI P := by rw [← w1]; exact cw.1.1
  have hN : M 2 11 = nI N := by rw [← w2]; exact cw.1.2.1
  have tw : xu M 166 0 0 166 6 = nI P := by rw [told_ne (by decide)]; exact w1
  let su : Nat → Nat := fun k => ix (M 167 (73 + k))
  have hsu : ∀ k, k < P → M 167 (73 + k) = nI (su k) ∧ su k ≤ N := by
    intro k hk
    obtain ⟨a, h1, h2⟩ := wS k hk
    have : su k = a := by show ix (M 167 (73 + k)) = a; rw [h2]; exact ixn (by omega)
    rw [this]; exact ⟨h2, h1⟩
  have hsu9 : ∀ k, k < P → M 4 k = nI (su k) - 1 ∧ su k ≤ N := fun k hk => ⟨by rw [← (hsu k hk).1]; exact (cw.2.2 k (by omega)).2.1, (hsu k hk).2⟩
  have hd : ∀ t, t < N → -99 ≤ M 167 (21 + t) ∧ M 167 (21 + t) ≤ 99 := fun t ht => by
    have := wD t ht
    exact ⟨Int32.le_iff_toInt_le.mpr this.1, Int32.le_iff_toInt_le.mpr this.2⟩
  have hd9 : ∀ t, t < N → -99 ≤ M 8 t ∧ M 8 t ≤ 99 := fun t ht => by rw [show M 8 t = M 167 (21 + t) from (cw.2.1 t (by omega)).2.2.1]; exact hd t ht
  generalize hh : heapN su (fun t => M 167 (21 + t)) = h
  have h9 : ∀ p, p < P → heapN su (M 8) p = h p := fun p hp => by
    rw [← hh]
    unfold heapN
    split
    · rfl
    · rw [show M 8 (su p - 1) = M 167 (21 + (su p - 1)) from (cw.2.1 _ (by have := (hsu p hp).2; omega)).2.2.1]
  have hle : ∀ p, p < P → h p ≤ 99 := fun p hp => by
    rw [← hh]
    unfold heapN
    split
    · omega
    · have := (hsu p hp).2
      exact (absN (hd _ (by omega)).1 (hd _ (by omega)).2).2.2
  generalize hv : (fun p t => nI ((h p - t) % (p + 2))) = v
  have nim : ∀ (p t : Nat) (Q : Int32 → Prop), p < P → t ≤ 99 → Q (v p t) → FX9_nimber Q 2 (nI p) (nI t) M := fun p t Q hp ht hq =>
    s9_nimber hP w4 hN w5 su (hsu9 p hp) hp hd9 (by rw [show heapN su (M (2 + 6)) p = h p from h9 p hp]; exact hle p hp) ht (by rw [show heapN su (M (2 + 6)) p = h p from h9 p hp]; rw [← hv] at hq; exact hq)
  have hp9 : ∀ (p : Nat) (Q : Int32 → Prop), p < P → Q (nI (h p)) → FX9_heap Q 2 (nI p) M := fun p Q hp hq =>
    s9_heap hP w4 hN w5 su (hsu9 p hp) hp hd9 (by rw [show heapN su (M (2 + 6)) p = h p from h9 p hp]; exact hq)
  have hp12 : ∀ (p : Nat) (Q : Int32 → Prop), p < P → Q (nI (h p)) → FX12_heapOf Q 166 (nI p) (xu M 166 0 0) := fun p Q hp hq =>
    s12_heap w4 w5 su (by rw [told_ne (by omega)]; exact hsu p hp) hp (fun t ht => by rw [told_ne (by omega)]; exact hd t ht) (by
      rw [show (fun t => xu M 166 0 0 167 (21 + t)) = (fun t => M 167 (21 + t)) from funext (fun t => told_ne (by omega)), hh]; exact hq)
  generalize hal : fo (fun k x => x ^^^ v k 0) 0 P = all
  let H : Nat → Nat → Prop := fun p t => p < P ∧ 1 ≤ t ∧ t ≤ min (h p) (p + 1) ∧ v p t = all ^^^ v p 0
  have no : ¬ (0 ≤ a1 ∧ a1 ≤ 1) → FX12_game (fun r2 M2 => (-1 : Int32) = r2 ∧ Inv M2) 166 a1 M := by
    intro ha
    unfold FX12_game
    rintro M4 rfl
    refine s12_isIn ?_
    rw [decide_eq_false ha]
    exact ⟨fun h => (by cases h), fun _ => ⟨rfl, Inv_told hI 0⟩⟩
  have ref : (0 ≤ a1 ∧ a1 ≤ 1) → ∀ z : Int32, ((∀ p t, ¬ H p t) → z = -1) → (∀ p t, H p t → (∀ p' t', (p' < p ∨ (p' = p ∧ t' < t)) → ¬ H p' t') → z = if a1 = 0 then nI p else nI t) → FX12_game (fun r2 M2 => z = r2 ∧ Inv M2) 166 a1 M := by
    intro ha z hz1 hz2
    unfold FX12_game
    rintro M4 rfl
    refine s12_isIn ?_
    rw [decide_eq_true ha]
    refine ⟨fun _ => ?_, fun h => (by cases h)⟩
    unfold NX12_game_21
    refine xlp_fo (fun k x => x ^^^ v k 0) 0 P (fun k x => (x, nI k)) _ rfl (fun B => ?_) (fun k B hk hB => ?_)
    · rw [hal]
      show lbX12_game_21 _ 166 a1 _ (fun l2 l3 => B (l2, l3)) all (nI P)
      unfold lbX12_game_21
      rw [tw]
      refine ⟨fun _ => ?_, fun hc => absurd (nI_le (by omega) (by omega)) hc⟩
      unfold NX12_game_49
      refine xlp_for (fun r x => ∃ k, k + r = P ∧ x = nI k ∧ ∀ p t, p < k → ¬ H p t) ?_ ?_ P 0 ⟨0, by omega, rfl, fun p t h => by omega⟩
      · rintro x B ⟨k, hk, rfl, hk2⟩
        unfold lbX12_game_49
        have : k = P := by omega
        subst this
        rw [tw]
        exact ⟨fun _ => ⟨hz1 (fun p t q => hk2 p t q.1 q), Inv_told hI 0⟩, fun hc => absurd (nI_le (by omega) (by omega)) hc⟩
      · rintro r x B ⟨k, hk, rfl, hk2⟩ hB
        unfold lbX12_game_49
        rw [tw]
        have hhk := hle k (by omega)
        refine ⟨fun hc => absurd hc (nI_ge (by omega) (by omega)), fun _ => hp12 k _ (by omega) ⟨by rw [show nI k + 2 = nI (k + 2) from nI_add k 2]; exact nI_ne0 (by omega) (by omega), ?_⟩⟩
        rintro y rfl
        rw [show nI k + 2 = nI (k + 2) from nI_add k 2, remN (by omega) (by omega) (by omega)]
        unfold NX12_game_77
        refine xlp_for (fun r x => ∃ t, t + r = min (h k) (k + 1) + 1 ∧ 1 ≤ t ∧ x = nI t ∧ ∀ t', t' < t → ¬ H k t') ?_ ?_ (min (h k) (k + 1)) 1 ⟨1, by omega, by omega, rfl, fun t' h1 q => by have := q.2.1; omega⟩
        · rintro x B2 ⟨t, ht, ht1, rfl, ht2⟩
          unfold lbX12_game_77
          refine s12_lesser ?_
          rw [nI_1, mnN (by omega) (by omega)]
          refine ⟨fun _ => hB _ ⟨k + 1, by omega, rfl, fun p t' hp' => ?_⟩, fun hc => absurd (nI_lt (by omega) (by omega)) hc⟩
          rcases Nat.lt_or_ge p k with h3 | h3
          · exact hk2 p t' h3
          · have : p = k := by omega
            subst this
            intro q
            exact ht2 t' (by have := q.2.2.1; omega) q
        · rintro r2 x B2 ⟨t, ht, ht1, rfl, ht2⟩ hB2
          unfold lbX12_game_77
          refine s12_lesser ?_
          rw [nI_1, mnN (by omega) (by omega)]
          refine ⟨fun hc => absurd hc (nI_nlt (by omega) (by omega)), fun _ => ⟨by rw [show nI k + 2 = nI (k + 2) from nI_add k 2]; exact nI_ne0 (by omega) (by omega), ?_⟩⟩
          rw [show nI k + 2 = nI (k + 2) from nI_add k 2, pk_sub (by omega), remN (by omega) (by omega) (by omega), nI_1]
          have e0 : v k 0 = nI (h k % (k + 2)) := by rw [← hv]; rfl
          have e1 : v k t = nI ((h k - t) % (k + 2)) := by rw [← hv]
          rw [← e0, ← e1]
          refine ⟨fun q => hB2 _ ⟨t + 1, by omega, by omega, rfl, fun t' h1 q2 => ?_⟩, fun q => ?_⟩
          · rcases Nat.lt_or_ge t' t with h3 | h3
            · exact ht2 t' h3 q2
            · have : t' = t := by omega
              subst this
              exact q q2.2.2.2
          · have hf := hz2 k t ⟨by omega, ht1, by omega, q⟩ (fun p' t' he => he.elim (fun h1 => hk2 p' t' h1) (fun h1 => by rw [h1.1]; exact ht2 t' h1.2))
            exact ⟨fun q2 => ⟨by rw [if_neg q2] at hf; exact hf, Inv_told hI 0⟩, fun q2 => ⟨by rw [if_pos q2] at hf; exact hf, Inv_told hI 0⟩⟩
    · show lbX12_game_21 _ 166 a1 _ (fun l2 l3 => B (l2, l3)) _ (nI k)
      unfold lbX12_game_21
      rw [tw]
      have hhk := hle k hk
      refine ⟨fun hc => absurd hc (nI_ge (by omega) (by omega)), fun _ => hp12 k _ hk ⟨by rw [show nI k + 2 = nI (k + 2) from nI_add k 2]; exact nI_ne0 (by omega) (by omega), ?_⟩⟩
      rintro y rfl
      have e0 : v k 0 = nI (h k % (k + 2)) := by rw [← hv]; rfl
      rw [show nI k + 2 = nI (k + 2) from nI_add k 2, remN (by omega) (by omega) (by omega), ← e0, nI_1]
      exact hB
  have cls : (0 ≤ a1 ∧ a1 ≤ 1) → NX11_game_11 (fun r => FX12_game (fun r2 M2 => r = r2 ∧ Inv M2) 166 a1 M) 0 a1 M := by
    intro ha
    unfold NX11_game_11 NX11_game_24
    refine xlp_fo (fun k x => x ^^^ v k 0) 0 P (fun k x => (x, nI k)) _ rfl (fun B => ?_) (fun k B hk hB => ?_)
    · rw [hal]
      show lbX11_game_24 _ a1 2 _ (fun l2 l3 => B (l2, l3)) all (nI P)
      unfold lbX11_game_24
      rw [hP]
      refine ⟨fun _ => ?_, fun hc => absurd (nI_le (by omega) (by omega)) hc⟩
      unfold NX11_game_52
      refine xlp_for (fun r x => ∃ k, k + r = P ∧ x = nI k ∧ ∀ p t, p < k → ¬ H p t) ?_ ?_ P 0 ⟨0, by omega, rfl, fun p t h => by omega⟩
      · rintro x B ⟨k, hk, rfl, hk2⟩
        unfold lbX11_game_52
        have : k = P := by omega
        subst this
        rw [hP]
        exact ⟨fun _ => ref ha _ (fun _ => rfl) (fun p t q => absurd q (hk2 p t q.1)), fun hc => absurd (nI_le (by omega) (by omega)) hc⟩
      · rintro r x B ⟨k, hk, rfl, hk2⟩ hB
        unfold lbX11_game_52
        rw [hP]
        have hhk := hle k (by omega)
        refine ⟨fun hc => absurd hc (nI_ge (by omega) (by omega)), fun _ => hp9 k _ (by omega) (s_min ?_)⟩
        rw [nI_1, mnN (by omega) (by omega)]
        unfold NX11_game_79
        refine xlp_for (fun r x => ∃ t, t + r = min (h k) (k + 1) + 1 ∧ 1 ≤ t ∧ x = nI t ∧ ∀ t', t' < t → ¬ H k t') ?_ ?_ (min (h k) (k + 1)) 1 ⟨1, by omega, by omega, rfl, fun t' h1 q => by have := q.2.1; omega⟩
        · rintro x B2 ⟨t, ht, ht1, rfl, ht2⟩
          unfold lbX11_game_79
          rw [nI_1]
          refine ⟨fun _ => hB _ ⟨k + 1, by omega, rfl, fun p t' hp' => ?_⟩, fun hc => absurd (nI_lt (by omega) (by omega)) hc⟩
          rcases Nat.lt_or_ge p k with h3 | h3
          · exact hk2 p t' h3
          · have : p = k := by omega
            subst this
            intro q
            exact ht2 t' (by have := q.2.2.1; omega) q
        · rintro r2 x B2 ⟨t, ht, ht1, rfl, ht2⟩ hB2
          unfold lbX11_game_79
          refine ⟨fun hc => absurd hc (nI_nlt (by omega) (by omega)), fun _ => nim k 0 _ (by omega) (by omega) (nim k t _ (by omega) (by omega) ?_)⟩
          rw [xor0, nI_1]
          refine ⟨fun q => hB2 _ ⟨t + 1, by omega, by omega, rfl, fun t' h1 q2 => ?_⟩, fun q => ?_⟩
          · rcases Nat.lt_or_ge t' t with h3 | h3
            · exact ht2 t' h3 q2
            · have : t' = t := by omega
              subst this
              exact q q2.2.2.2
          · have hHt : H k t := ⟨by omega, ht1, by omega, q⟩
            have hEa : ∀ p' t', (p' < k ∨ (p' = k ∧ t' < t)) → ¬ H p' t' := fun p' t' he => he.elim (fun h1 => hk2 p' t' h1) (fun h1 => by rw [h1.1]; exact ht2 t' h1.2)
            have uni : ∀ p' t', H p' t' → (∀ p'' t'', (p'' < p' ∨ (p'' = p' ∧ t'' < t')) → ¬ H p'' t'') → k = p' ∧ t = t' := by
              intro p' t' q1 q2
              have n1 : ¬ (p' < k ∨ (p' = k ∧ t' < t)) := fun e => hEa p' t' e q1
              have n2 : ¬ (k < p' ∨ (k = p' ∧ t < t')) := fun e => q2 k t e hHt
              omega
            refine ⟨fun q2 => ref ha _ (fun hn => absurd hHt (hn k t)) (fun p' t' q3 q4 => ?_), fun q2 => ref ha _ (fun hn => absurd hHt (hn k t)) (fun p' t' q3 q4 => ?_)⟩
            · rw [if_neg q2, (uni p' t' q3 q4).2]
            · rw [if_pos q2, (uni p' t' q3 q4).1]
    · show lbX11_game_24 _ a1 2 _ (fun l2 l3 => B (l2, l3)) _ (nI k)
      unfold lbX11_game_24
      rw [hP]
      refine ⟨fun hc => absurd hc (nI_ge (by omega) (by omega)), fun _ => nim k 0 _ hk (by omega) ?_⟩
      rw [nI_1]; exact hB
  unfold FX11_game
  refine ⟨fun h => cls (by rw [h]; decide), fun h => ⟨fun h2 => cls (by rw [h2]; decide), fun h2 => no (fun q => ?_)⟩⟩
  obtain ⟨j, hj, rfl⟩ := nI_le_of (k := 1) (Int32.not_lt.mpr q.1) (Int32.not_lt.mpr q.2) (by decide)
  rcases (show j = 0 ∨ j = 1 by omega) with rfl | rfl
  · exact h rfl
  · exact h2 rfl
