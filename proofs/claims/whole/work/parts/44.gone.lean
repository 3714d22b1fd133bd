/-! gone -/
def wgh (a b q : Nat) : Nat := q * a * 1000000 / (q * a + (1000000 - q) * b)
theorem wgh_le {a b q : Nat} : wgh a b q ≤ 1000000 := by
  unfold wgh
  rcases Nat.eq_zero_or_pos (q * a + (1000000 - q) * b) with h | h
  · rw [h]; simp
  · refine Nat.div_le_of_le_mul ?_
    exact Nat.mul_le_mul_right _ (Nat.le_add_right _ _)
theorem wgh2 (a b q : Nat) : q * (2 * a) * 1000000 / (q * (2 * a) + (1000000 - q) * (2 * b)) = wgh a b q := by
  unfold wgh
  have e1 : q * (2 * a) * 1000000 = 2 * (q * a * 1000000) := by rw [Nat.mul_left_comm q 2 a, Nat.mul_assoc 2]
  have e2 : q * (2 * a) + (1000000 - q) * (2 * b) = 2 * (q * a + (1000000 - q) * b) := by rw [Nat.mul_left_comm q 2 a, Nat.mul_left_comm _ 2 b, Nat.mul_add]
  rw [e1, e2, Nat.mul_div_mul_left _ _ (by decide)]
theorem cmp_pos {n : Nat} (h : n < 2 ^ 62) : 0 < lg_cmp (lN n) 0 ↔ 0 < n := by
  have e : (0 : Int64) = lN 0 := rfl
  unfold lg_cmp
  rw [e]
  rcases Nat.eq_zero_or_pos n with h0 | h0
  · subst h0; decide
  · have h1 : ¬ lN n < lN 0 := by rw [pk_lLT (by omega) (by decide)]; omega
    have h3 : lN 0 < lN n := by rw [pk_lLT (by decide) (by omega)]; omega
    have h2 : ¬ lN n = lN 0 := by rw [pk_lEQ (by omega) (by decide)]; omega
    simp [h1, h2, h0, h3]
theorem s11_weighed {Q : Int64 → Prop} {q a b : Nat} {M : Mem} (hq : q ≤ 1000000) (ha : 0 < a ∧ a ≤ 4) (hb : 0 < b ∧ b ≤ 4) (h : Q (lN (wgh a b q))) : FX11_weighed Q (lN q) (nI (2 * a)) (nI (2 * b)) M := by
  unfold FX11_weighed
  have b1 : q * (2 * a) ≤ 1000000 * 8 := Nat.mul_le_mul hq (by omega)
  have b2 : (1000000 - q) * (2 * b) ≤ 1000000 * 8 := Nat.mul_le_mul (by omega) (by omega)
  have b3 : 0 < q * (2 * a) + (1000000 - q) * (2 * b) := by
    rcases Nat.eq_zero_or_pos q with h0 | h0
    · subst h0; omega
    · have := Nat.mul_pos h0 (show 0 < 2 * a by omega); omega
  rintro y1 rfl y2 rfl
  rw [nI_l (by omega), nI_l (by omega), lN_mul, show (1000000 : Int64) - lN q = lN (1000000 - q) from lN_sub hq, lN_mul, lN_add, cmp_pos (by omega), show lN (q * (2 * a)) * 1000000 = lN (q * (2 * a) * 1000000) from lN_mul _ _, pk_lDiv (by omega) b3 (by omega), wgh2]
  exact ⟨fun _ => ⟨fun hc => absurd ((pk_lEQ (b := 0) (by omega) (by decide)).mp hc) (by omega), h⟩, fun hc => absurd b3 hc⟩
theorem s12_share {Q : Int32 → Prop} {o al : Nat} {M : Mem} (h0 : 0 < al) (ho : o ≤ al) (hal : al ≤ 8000000) (h : Q (nI (o * 1000000 / al))) : FX12_shareOf Q 166 (nI o) (nI al) M := by
  unfold FX12_shareOf
  rw [pk_div (by omega) h0 (by omega), show nI o - nI (o / al) * nI al = nI (o % al) by rw [← pk_div (by omega) h0 (by omega)]; exact pk_rem (by omega) h0 (by omega)]
  refine ⟨nI_ne0 h0 (by omega), nI_ne0 h0 (by omega), ?_⟩
  unfold NX12_shareOf_12
  have le1 : ∀ k, o * 10 ^ k / al ≤ 10 ^ k := fun k => Nat.div_le_of_le_mul (Nat.mul_le_mul_right _ ho)
  have st : ∀ k, o * 10 ^ (k + 1) / al = 10 * (o * 10 ^ k / al) + (o * 10 ^ k % al) * 10 / al ∧ o * 10 ^ (k + 1) % al = (o * 10 ^ k % al) * 10 % al := by
    intro k
    have e : o * 10 ^ (k + 1) = (o * 10 ^ k % al) * 10 + al * (10 * (o * 10 ^ k / al)) := by
      have := Nat.div_add_mod (o * 10 ^ k) al
      rw [Nat.pow_succ, ← Nat.mul_assoc]
      generalize o * 10 ^ k / al = A at *
      generalize o * 10 ^ k % al = R at *
      rw [← this, Nat.add_mul, Nat.mul_assoc, Nat.mul_comm A 10, Nat.add_comm]
    rw [e, Nat.add_mul_div_left _ _ h0, Nat.add_mul_mod_self_left]
    exact ⟨Nat.add_comm _ _, rfl⟩
  refine xlp_for (fun r x => ∃ k, k + r = 6 ∧ x = (nI (o * 10 ^ k / al), nI (o * 10 ^ k % al), nI k)) ?_ ?_ 6 _ ⟨0, rfl, by simp; rfl⟩
  · rintro x B ⟨k, hk, rfl⟩
    have : k = 6 := by omega
    subst this
    show lbX12_shareOf_12 Q (nI al) M (fun l3 l4 l5 => B (l3, l4, l5)) (nI (o * 10 ^ 6 / al)) (nI (o * 10 ^ 6 % al)) (nI 6)
    unfold lbX12_shareOf_12
    exact ⟨fun _ => h, fun hc => absurd (by decide) hc⟩
  · rintro r x B ⟨k, hk, rfl⟩ hB
    have hB := hB _ ⟨k + 1, by omega, rfl⟩
    show lbX12_shareOf_12 Q (nI al) M (fun l3 l4 l5 => B (l3, l4, l5)) (nI (o * 10 ^ k / al)) (nI (o * 10 ^ k % al)) (nI k)
    unfold lbX12_shareOf_12
    refine ⟨fun hc => absurd hc (nI_ge (b := 6) (by omega) (by omega)), fun _ => ⟨nI_ne0 h0 (by omega), ?_⟩⟩
    have hr : o * 10 ^ k % al < al := Nat.mod_lt _ h0
    rintro y1 rfl
    refine ⟨nI_ne0 h0 (by omega), ?_⟩
    rintro y2 rfl
    rw [show nI (o * 10 ^ k % al) * 10 = nI (o * 10 ^ k % al * 10) from pk_mul _ 10, pk_rem (by omega) h0 (by omega), pk_div (by omega) h0 (by omega), show 10 * nI (o * 10 ^ k / al) = nI (10 * (o * 10 ^ k / al)) from pk_mul 10 _, nI_add, nI_1, ← (st k).1, ← (st k).2]
    exact hB
theorem s12_weighed {Q : Int32 → Prop} {q a b : Nat} {M : Mem} (hq : q ≤ 1000000) (ha : 0 < a ∧ a ≤ 4) (hb : 0 < b ∧ b ≤ 4) (h : Q (nI (wgh a b q))) : FX12_weighed Q 166 (nI q) (nI a) (nI b) M := by
  unfold FX12_weighed
  have b1 : q * a ≤ 1000000 * 4 := Nat.mul_le_mul hq (by omega)
  have b2 : (1000000 - q) * b ≤ 1000000 * 4 := Nat.mul_le_mul (by omega) (by omega)
  have b3 : 0 < q * a + (1000000 - q) * b := by
    rcases Nat.eq_zero_or_pos q with h0 | h0
    · subst h0; omega
    · have := Nat.mul_pos h0 ha.1; omega
  rw [pk_mul, show (1000000 : Int32) - nI q = nI (1000000 - q) from pk_sub hq, pk_mul, nI_add]
  exact s12_share b3 (by omega) (by omega) h
theorem q_gone : lq_gone Inv := by
  intro M a1 a2 a3 hI
  have no : ¬ ((0 ≤ a1 ∧ a1 ≤ 1000) ∧ (0 ≤ a2 ∧ a2 ≤ 20) ∧ (a2 ≤ a3 ∧ a3 ≤ 40)) → FX12_gone (fun r2 M2 => (-1 : Int32) = r2 ∧ Inv M2) 166 a1 a2 a3 M := by
    intro hno
    unfold FX12_gone
    rintro M3 rfl
    exact s12_isIn ⟨fun _ => ⟨rfl, Inv_told hI 0⟩, fun h1 => s12_isIn ⟨fun _ => ⟨rfl, Inv_told hI 0⟩, fun h2 => s12_isIn ⟨fun h3 => absurd ⟨of_decide_eq_true h1, of_decide_eq_true h2, of_decide_eq_true h3⟩ hno, fun _ => ⟨rfl, Inv_told hI 0⟩⟩⟩⟩
  unfold FX11_gone
  refine s11_within ⟨fun h => no (fun q => of_decide_eq_false h q.1), fun h1 => s11_within ⟨fun h => no (fun q => of_decide_eq_false h q.2.1), fun h2 => s11_within ⟨fun h3 => ?_, fun h => no (fun q => of_decide_eq_false h q.2.2)⟩⟩⟩
  have h1 := of_decide_eq_true h1
  have h2 := of_decide_eq_true h2
  have h3 := of_decide_eq_true h3
  obtain ⟨p, -, hp, rfl⟩ := inNat (lo := 0) (hi := 1000) (by decide) h1.1 h1.2 (by decide)
  obtain ⟨n, -, hn, rfl⟩ := inNat (lo := 0) (hi := 20) (by decide) h2.1 h2.2 (by decide)
  obtain ⟨m, hnm, hm, rfl⟩ := inNat (lo := n) (hi := 40) (by decide) h3.1 h3.2 (by omega)
  rintro y rfl
  rw [nI_l (by omega), show lN p * 1000 = lN (p * 1000) from lN_mul p 1000]
  let f : Nat → Nat → Nat := fun k q => if k < n then wgh 4 1 q else wgh 1 4 q
  have fle : ∀ k, fo f (p * 1000) k ≤ 1000000 := fun k => by
    cases k with
    | zero => show p * 1000 ≤ _; omega
    | succ k =>
      show f k (fo f (p * 1000) k) ≤ _
      simp only [f]
      split <;> exact wgh_le
  have ref : FX12_gone (fun r2 M2 => nI (fo f (p * 1000) m) = r2 ∧ Inv M2) 166 (nI p) (nI n) (nI m) M := by
    unfold FX12_gone
    rintro M3 rfl
    refine s12_isIn ⟨fun h => absurd h1 (of_decide_eq_false h), fun _ => s12_isIn ⟨fun h => absurd h2 (of_decide_eq_false h), fun _ => s12_isIn ⟨fun _ => ?_, fun h => absurd h3 (of_decide_eq_false h)⟩⟩⟩
    unfold NX12_gone_51
    refine xlp_fo f (p * 1000) m (fun k q => (nI q, nI k)) _ (by rw [show (1000 : Int32) * nI p = nI (1000 * p) from pk_mul 1000 p, Nat.mul_comm]; rfl) (fun B => ?_) (fun k B hk hB => ?_)
    · show lbX12_gone_51 _ 166 (nI n) (nI m) _ (fun l4 l5 => B (l4, l5)) (nI (fo f (p * 1000) m)) (nI m)
      unfold lbX12_gone_51
      exact ⟨fun _ => ⟨rfl, Inv_told hI 0⟩, fun hc => absurd (Int32.le_refl _) hc⟩
    · show lbX12_gone_51 _ 166 (nI n) (nI m) _ (fun l4 l5 => B (l4, l5)) (nI (fo f (p * 1000) k)) (nI k)
      have := fle k
      unfold lbX12_gone_51
      rw [nI_leI (by omega) (by omega), nI_leI (a := n) (by omega) (by omega), nI_1]
      refine ⟨fun hc => absurd hc (by omega), fun _ => ⟨fun h => s12_weighed (a := 1) (b := 4) this (by decide) (by decide) ?_, fun h => s12_weighed (a := 4) (b := 1) this (by decide) (by decide) ?_⟩⟩
      · have e : f k (fo f (p * 1000) k) = wgh 1 4 (fo f (p * 1000) k) := if_neg (by omega)
        rw [e] at hB; exact hB
      · have e : f k (fo f (p * 1000) k) = wgh 4 1 (fo f (p * 1000) k) := if_pos (by omega)
        rw [e] at hB; exact hB
  unfold NX11_gone_44
  refine xlp_fo f (p * 1000) n (fun k q => (lN q, nI k)) _ rfl (fun B => ?_) (fun k B hk hB => ?_)
  · show lbX11_gone_44 _ (nI n) (nI m) _ (fun l4 l5 => B (l4, l5)) (lN (fo f (p * 1000) n)) (nI n)
    unfold lbX11_gone_44
    refine ⟨fun _ => ?_, fun hc => absurd (Int32.le_refl _) hc⟩
    unfold NX11_gone_69
    refine xlp_for (fun r x => ∃ k, k + r = m ∧ n ≤ k ∧ x = (lN (fo f (p * 1000) k), nI k)) ?_ ?_ (m - n) _ ⟨n, by omega, by omega, rfl⟩
    · rintro x B ⟨k, hk, hk2, rfl⟩
      have : k = m := by omega
      subst this
      show lbX11_gone_69 _ (nI k) _ (fun l4 l5 => B (l4, l5)) (lN (fo f (p * 1000) k)) (nI k)
      unfold lbX11_gone_69
      rw [lN_i]
      exact ⟨fun _ => ref, fun hc => absurd (Int32.le_refl _) hc⟩
    · rintro r x B ⟨k, hk, hk2, rfl⟩ hB
      show lbX11_gone_69 _ (nI m) _ (fun l4 l5 => B (l4, l5)) (lN (fo f (p * 1000) k)) (nI k)
      unfold lbX11_gone_69
      rw [nI_leI (by omega) (by omega), nI_1]
      refine ⟨fun hc => absurd hc (by omega), fun _ => s11_weighed (a := 1) (b := 4) (fle k) (by decide) (by decide) (hB _ ⟨k + 1, by omega, by omega, ?_⟩)⟩
      have e : fo f (p * 1000) (k + 1) = wgh 1 4 (fo f (p * 1000) k) := if_neg (by omega)
      rw [e]
  · show lbX11_gone_44 _ (nI n) (nI m) _ (fun l4 l5 => B (l4, l5)) (lN (fo f (p * 1000) k)) (nI k)
    unfold lbX11_gone_44
    rw [nI_leI (by omega) (by omega), nI_1]
    refine ⟨fun hc => absurd hc (by omega), fun _ => s11_weighed (a := 4) (b := 1) (fle k) (by decide) (by decide) ?_⟩
    have e : f k (fo f (p * 1000) k) = wgh 4 1 (fo f (p * 1000) k) := if_pos (by omega)
    rw [e] at hB; exact hB
