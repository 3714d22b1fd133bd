/-! the reference takes the next piece -/
def rdp (c i : Nat) : Prop := c = 166 ∧ 12 ≤ i ∧ i ≤ 15
/-- the reference stands at the piece that begins at q -/
def RD (b : Nat → Nat) (n q : Nat) (M : Mem) : Prop := M 166 12 = nI (pcE b n q) ∧ M 166 13 = nI q ∧ M 166 14 = nI (pcT b n q) ∧ (2 ≤ pcT b n q → M 166 15 = nI (pcV b n q))
theorem xu_rd (M : Mem) {i : Nat} (v : Int32) (hi : 12 ≤ i ∧ i ≤ 15) : ∀ c j, ¬ rdp c j → xu M 166 i v c j = M c j := fun c j h => xu_ne M v (fun q => h ⟨q.1, by omega, by omega⟩)
theorem BT_rd {b : Nat → Nat} {n : Nat} {M M2 : Mem} (h : ∀ c i, ¬ rdp c i → M2 c i = M c i) (hb : BT b n M) : BT b n M2 := fun i hi => by
  rw [h 172 i (fun q => by have := q.1; omega), h 165 i (fun q => by have := q.1; omega)]
  exact hb i hi
theorem IX_rd {M M2 : Mem} (h : ∀ c i, ¬ rdp c i → M2 c i = M c i) (hx : IX M) : IX M2 := by
  refine ⟨fun i hi => ?_, ?_⟩
  · rw [h 173 i (fun q => by have := q.1; omega)]
    exact hx.1 i hi
  · rw [h 166 5 (fun q => by have := q.2.1; omega)]
    exact hx.2
theorem s12_readsL {b : Nat → Nat} {n q : Nat} {M N : Mem} {Q : Mem → Prop} (hb : BT b n M) (hx : IX M) (hn : n ≤ 400) (hl : M 166 11 = nI n) (hq : q < n) (hL : isL (b q) = true) (h : ∀ M2, RD b n q M2 → (∀ c i, ¬ rdp c i → M2 c i = M c i) → Q M2) (hf : ∀ c i, ¬ rdp c i → N c i = M c i) (n12 : N 166 12 = nI (q + 1)) (n13 : N 166 13 = nI q) (n14 : N 166 14 = 1) : NX12_reads_95 Q 166 N := by
  unfold NX12_reads_95
  have eE := pcE_L hq hL
  have eT := pcT_L hq hL
  have rb := ren_bd (b := b) (n := n) (f := isL) (p := q + 1) (by omega)
  refine xlp_for (fun r (a : Mem) => ∃ s, s + r = n ∧ q < s ∧ a 166 12 = nI s ∧ a 166 13 = nI q ∧ a 166 14 = 1 ∧ ren b n isL s = ren b n isL (q + 1) ∧ (∀ c i, ¬ rdp c i → a c i = M c i)) ?_ ?_ (n - (q + 1)) _ ⟨q + 1, by omega, by omega, n12, n13, n14, rfl, hf⟩
  all_goals
    have fin : ∀ (a : Mem) (s : Nat), s ≤ n → q < s → a 166 12 = nI s → a 166 13 = nI q → a 166 14 = 1 → s = ren b n isL (q + 1) → (∀ c i, ¬ rdp c i → a c i = M c i) → FX12_wordAt (fun (r4 : Int32) => ∀ M5 : Mem, M5 = xu a 166 15 r4 → (((M5 166 15) = (-1) → Q M5) ∧ (¬ (M5 166 15) = (-1) → ∀ M6 : Mem, M6 = xu M5 166 14 2 → Q M6))) 166 (a 166 13) (a 166 12) a := by
      intro a s h1 h2 h3 h4 h5 h6 h7
      rw [h3, h4]
      refine s12_wordAt (BT_rd h7 hb) (IX_rd h7 hx) hn h2 h1 (fun j h8 h9 => ?_) ?_
      · by_cases hj : j = q
        · rw [hj]; exact hL
        · exact rb.2.2.1 j (by omega) (by rw [← h6]; exact h9)
      rw [h6]
      rintro M5 rfl
      rw [xu_same]
      have ew : wix gWords (slc b q (ren b n isL (q + 1))) 0 = wof b n q := rfl
      rw [ew]
      cases hw : wof b n q with
      | none =>
        refine ⟨fun _ => h _ ⟨?_, ?_, ?_, ?_⟩ (fun c i hc => (xu_rd a _ (by omega) c i hc).trans (h7 c i hc)), fun q => absurd rfl q⟩
        · rw [xu_at _ _ _ (by decide), h3, h6, eE]
        · rw [xu_at _ _ _ (by decide), h4]
        · rw [xu_at _ _ _ (by decide), h5, eT, hw]; rfl
        · rw [eT, hw]; intro q; exact absurd q (by decide)
      | some g =>
        have hg := (wix_some _ _ _ _ (ew.trans hw)).2.1
        rw [gW_n] at hg
        refine ⟨fun q => absurd q (m1_ne (by omega)), fun _ => ?_⟩
        rintro M6 rfl
        refine h _ ⟨?_, ?_, ?_, fun _ => ?_⟩ (fun c i hc => (xu_rd _ _ (by omega) c i hc).trans ((xu_rd a _ (by omega) c i hc).trans (h7 c i hc)))
        · rw [xu_at _ _ _ (by decide), xu_at _ _ _ (by decide), h3, h6, eE]
        · rw [xu_at _ _ _ (by decide), xu_at _ _ _ (by decide), h4]
        · rw [xu_same, eT, hw]; rfl
        · rw [xu_at _ _ _ (by decide), xu_same, pcV_L hL, hw]; rfl
  · rintro a B ⟨s, h1, h2, h3, h4, h5, h6, h7⟩
    unfold lbX12_reads_95
    rw [h3]
    refine s12_rawE hn ((h7 166 11 (fun q => by have := q.2.1; omega)).trans hl) (by omega) (s12_isLm ⟨fun _ => ?_, fun q => (by cases q)⟩)
    have := fin a s (by omega) h2 h3 h4 h5 (by rw [← h6, ren_at (fun q => absurd q.1 (by omega))]) h7
    rw [h3] at this
    exact this
  · rintro r a B ⟨s, h1, h2, h3, h4, h5, h6, h7⟩ hB
    unfold lbX12_reads_95
    rw [h3]
    have hbs := (hb s (by omega)).1
    refine s12_raw (BT_rd h7 hb) hn ((h7 166 11 (fun q => by have := q.2.1; omega)).trans hl) (by omega) (s12_isL hbs ⟨fun q => ?_, fun q => ?_⟩)
    · have := fin a s (by omega) h2 h3 h4 h5 (by rw [← h6, ren_at (fun q2 => absurd q2.2 (by simp [q]))]) h7
      rw [h3] at this
      exact this
    · rintro M7 rfl
      rw [nI_1]
      refine hB _ ⟨s + 1, by omega, by omega, xu_same _ _ _ _, by rw [xu_at _ _ _ (by decide), h4], by rw [xu_at _ _ _ (by decide), h5], by rw [← h6, ren_go (by omega) q], fun c i hc => (xu_rd a _ (by omega) c i hc).trans (h7 c i hc)⟩
theorem s12_readsD {b : Nat → Nat} {n q : Nat} {M N : Mem} {Q : Mem → Prop} (hb : BT b n M) (hn : n ≤ 400) (hl : M 166 11 = nI n) (hq : q < n) (hD : isD (b q) = true) (h : ∀ M2, RD b n q M2 → (∀ c i, ¬ rdp c i → M2 c i = M c i) → Q M2) (hf : ∀ c i, ¬ rdp c i → N c i = M c i) (n12 : N 166 12 = nI (q + 1)) (n13 : N 166 13 = nI q) (n14 : N 166 14 = 1) (n15 : N 166 15 = nI (dgs b q 1)) : NX12_reads_171 Q 166 N := by
  unfold NX12_reads_171
  have eE := pcE_D hq hD
  have eT := pcT_D hq hD
  have rb := ren_bd (b := b) (n := n) (f := isD) (p := q + 1) (by omega)
  have hdd : ∀ j, q ≤ j → j < ren b n isD (q + 1) → isD (b j) = true := by
    intro j h1 h2
    by_cases hj : j = q
    · rw [hj]; exact hD
    · exact rb.2.2.1 j (by omega) h2
  have fin : ∀ (a : Mem) (s : Nat), s ≤ n → q < s → a 166 12 = nI s → a 166 13 = nI q → a 166 14 = 1 → (s - q ≤ 4 → a 166 15 = nI (dgs b q (s - q))) → s = ren b n isD (q + 1) → (∀ c i, ¬ rdp c i → a c i = M c i) → ((5 ≤ ((a 166 12) - (a 166 13)) → Q a) ∧ (¬ 5 ≤ ((a 166 12) - (a 166 13)) → ∀ M12 : Mem, M12 = xu a 166 14 3 → Q M12)) := by
    intro a s h1 h2 h3 h4 h5 h8 h6 h7
    rw [h3, h4, pk_sub (by omega)]
    refine ⟨fun h9 => ?_, fun h9 => ?_⟩
    · have h9' := (nI_leI (a := 5) (by omega) (by omega)).mp h9
      have : pcT b n q = 1 := by rw [eT, ← h6, if_neg (by omega)]
      refine h _ ⟨by rw [h3, h6, eE], h4, by rw [h5, this]; rfl, fun w => by omega⟩ h7
    · have h9' : s - q ≤ 4 := by
        have := mt (nI_leI (a := 5) (b := s - q) (by omega) (by omega)).mpr h9
        omega
      rintro M12 rfl
      refine h _ ⟨?_, ?_, ?_, fun _ => ?_⟩ (fun c i hc => (xu_rd _ _ (by omega) c i hc).trans (h7 c i hc))
      · rw [xu_at _ _ _ (by decide), h3, h6, eE]
      · rw [xu_at _ _ _ (by decide), h4]
      · rw [xu_same, eT, ← h6, if_pos h9']; rfl
      · rw [xu_at _ _ _ (by decide), h8 h9', pcV_D hD, h6]
  refine xlp_for (fun r (a : Mem) => ∃ s, s + r = n ∧ q < s ∧ a 166 12 = nI s ∧ a 166 13 = nI q ∧ a 166 14 = 1 ∧ (s - q ≤ 4 → a 166 15 = nI (dgs b q (s - q))) ∧ ren b n isD s = ren b n isD (q + 1) ∧ (∀ j, q ≤ j → j < s → isD (b j) = true) ∧ (∀ c i, ¬ rdp c i → a c i = M c i)) ?_ ?_ (n - (q + 1)) _ ⟨q + 1, by omega, by omega, n12, n13, n14, fun _ => by rw [show q + 1 - q = 1 by omega]; exact n15, rfl, fun j h1 h2 => by rw [show j = q by omega]; exact hD, hf⟩
  · rintro a B ⟨s, h1, h2, h3, h4, h5, h8, h6, -, h7⟩
    unfold lbX12_reads_171
    have := fin a s (by omega) h2 h3 h4 h5 h8 (by rw [← h6, ren_at (fun q => absurd q.1 (by omega))]) h7
    rw [h3] at this ⊢
    exact s12_rawE hn ((h7 166 11 (fun q => by have := q.2.1; omega)).trans hl) (by omega) (s12_isDm ⟨fun _ => this, fun q => (by cases q)⟩)
  · rintro r a B ⟨s, h1, h2, h3, h4, h5, h8, h6, hds, h7⟩ hB
    unfold lbX12_reads_171
    have hbs := (hb s (by omega)).1
    have l11 := (h7 166 11 (fun q => by have := q.2.1; omega)).trans hl
    have fin1 : isD (b s) = false → _ := fun q => fin a s (by omega) h2 h3 h4 h5 h8 (by rw [← h6, ren_at (fun q2 => absurd q2.2 (by simp [q]))]) h7
    have go : isD (b s) = true → ∀ v : Int32, (s + 1 - q ≤ 4 → v = nI (dgs b q (s + 1 - q))) → NX12_reads_223 Q (fun M => B M) 166 166 v a := by
      intro q v hv
      unfold NX12_reads_223
      rintro M8 rfl M9 rfl
      rw [xu_at a 166 _ (show (12 : Nat) ≠ 15 by decide), h3, nI_1]
      refine hB _ ⟨s + 1, by omega, by omega, xu_same _ _ _ _, ?_, ?_, fun h9 => ?_, by rw [← h6, ren_go (by omega) q], fun j h9 h10 => ?_, fun c i hc => (xu_rd _ _ (by omega) c i hc).trans ((xu_rd a _ (by omega) c i hc).trans (h7 c i hc))⟩
      · rw [xu_at _ _ _ (by decide), xu_at _ _ _ (by decide), h4]
      · rw [xu_at _ _ _ (by decide), xu_at _ _ _ (by decide), h5]
      · rw [xu_at _ _ _ (by decide), xu_same, hv h9]
      · by_cases hj : j = s
        · rw [hj]; exact q
        · exact hds j h9 (by omega)
    have sml : s - q ≤ 3 → dgs b q (s - q) < 1000 := by
      intro h9
      have := dgs_le (b := b) (p := q) (s - q) (fun j hj => hds (q + j) (by omega) (by omega))
      exact Nat.lt_of_lt_of_le this (Nat.pow_le_pow_right (by omega) h9)
    rw [h3] at fin1 ⊢
    refine s12_raw (BT_rd h7 hb) hn l11 (by omega) (s12_isD hbs ⟨fun w => fin1 w, fun w => ⟨fun h9 => go w _ (fun h10 => ?_), fun h9 => ?_⟩⟩)
    · have h11 := sml (by omega)
      rw [h8 (by omega)] at h9
      exact absurd ((nI_leI (a := 10000) (by omega) (by omega)).mp h9) (by omega)
    · refine s12_raw (BT_rd h7 hb) hn l11 (by omega) (go w _ (fun h10 => ?_))
      simp [isD] at w
      rw [h8 (by omega), show 10 * nI (dgs b q (s - q)) = nI (10 * dgs b q (s - q)) from pk_mul 10 _, nI_add, show nI (10 * dgs b q (s - q) + b s) - 48 = nI (10 * dgs b q (s - q) + b s - 48) from pk_sub (b := 48) (by omega), show s + 1 - q = (s - q) + 1 by omega]
      show _ = nI (10 * dgs b q (s - q) + (b (q + (s - q)) - 48))
      rw [show q + (s - q) = s by omega, Nat.add_sub_assoc w.1]
theorem s12_reads {b : Nat → Nat} {n p : Nat} {M : Mem} {Q : Mem → Prop} (hb : BT b n M) (hx : IX M) (hn : n ≤ 400) (hl : M 166 11 = nI n) (hp : p ≤ n) (hs : M 166 12 = nI p) (h : ∀ M2, RD b n (ren b n isB p) M2 → (∀ c i, ¬ rdp c i → M2 c i = M c i) → Q M2) : FX12_reads Q 166 M := by
  unfold FX12_reads NX12_reads_0
  refine xlp_for (fun r (a : Mem) => ∃ s, s + r = n ∧ a 166 12 = nI s ∧ ren b n isB s = ren b n isB p ∧ (∀ c i, ¬ rdp c i → a c i = M c i)) ?_ ?_ (n - p) _ ⟨p, by omega, hs, rfl, fun _ _ _ => rfl⟩
  · rintro a B ⟨s, h1, h2, h3, h4⟩
    have l11 := (h4 166 11 (fun q => by have := q.2.1; omega)).trans hl
    have hsn : s = n := by omega
    have hq : ren b n isB p = n := by rw [← h3, hsn, ren_at (fun q => absurd q.1 (by omega))]
    rw [hq] at h
    unfold lbX12_reads_0
    rw [h2]
    refine s12_rawE hn l11 hsn ⟨fun q => absurd q (by decide), fun _ => s12_rawE hn l11 hsn ⟨fun _ => ?_, fun q => absurd q (by decide)⟩⟩
    rintro M16 rfl M17 rfl
    have f17 : ∀ c i, ¬ rdp c i → xu (xu a 166 13 (nI s)) 166 14 1 c i = M c i := fun c i hc => (xu_rd _ _ (by omega) c i hc).trans ((xu_rd a _ (by omega) c i hc).trans (h4 c i hc))
    rw [xu_at _ 166 _ (show (12 : Nat) ≠ 14 by decide), xu_at _ 166 _ (show (12 : Nat) ≠ 13 by decide), h2]
    refine s12_rawE hn ((f17 166 11 (fun q => by have := q.2.1; omega)).trans hl) hsn ⟨fun q => absurd rfl q, fun _ => ?_⟩
    rintro M26 rfl
    have eT : pcT b n n = 0 := (pcT_0 (Nat.le_refl _)).mpr rfl
    refine h _ ⟨?_, ?_, ?_, fun q => by rw [eT] at q; omega⟩ (fun c i hc => (xu_rd _ _ (by omega) c i hc).trans (f17 c i hc))
    · simp [xu_if]; rw [h2, hsn, pcE_E]
    · simp [xu_if]; rw [hsn]
    · simp [xu_if]; rw [eT]; rfl
  · rintro r a B ⟨s, h1, h2, h3, h4⟩ hB
    have l11 := (h4 166 11 (fun q => by have := q.2.1; omega)).trans hl
    have hsn : s < n := by omega
    have hbs := (hb s hsn).1
    have hb' := BT_rd h4 hb
    have bl : isB (b s) = true → NX12_reads_26 Q (fun M => B M) 166 a := by
      intro w
      unfold NX12_reads_26
      rintro M1 rfl
      rw [h2, nI_1]
      exact hB _ ⟨s + 1, by omega, xu_same _ _ _ _, by rw [← h3, ren_go hsn w], fun c i hc => (xu_rd a _ (by omega) c i hc).trans (h4 c i hc)⟩
    unfold lbX12_reads_0
    rw [h2]
    refine s12_raw hb' hn l11 hsn ⟨fun q => bl ?_, fun q1 => s12_raw hb' hn l11 hsn ⟨fun q2 => ?_, fun q => bl ?_⟩⟩
    · have : b s = 32 := (nI_eq (b := 32) (by omega) (by omega)).mp q
      simp [isB, this]
    · have hnb : isB (b s) = false := by
        simp only [isB, Bool.or_eq_false_iff, decide_eq_false_iff_not]
        exact ⟨fun q => q1 (by rw [q]; rfl), fun q => q2 (by rw [q]; rfl)⟩
      have hq : ren b n isB p = s := by rw [← h3, ren_at (fun q => absurd q.2 (by simp [hnb]))]
      rw [hq] at h
      rintro M16 rfl M17 rfl
      have f17 : ∀ c i, ¬ rdp c i → xu (xu a 166 13 (nI s)) 166 14 1 c i = M c i := fun c i hc => (xu_rd _ _ (by omega) c i hc).trans ((xu_rd a _ (by omega) c i hc).trans (h4 c i hc))
      have e12 : xu (xu a 166 13 (nI s)) 166 14 1 166 12 = nI s := by simp [xu_if]; exact h2
      rw [e12]
      refine s12_raw (BT_rd f17 hb) hn ((f17 166 11 (fun q => by have := q.2.1; omega)).trans hl) hsn ⟨fun _ => ?_, fun q => absurd q (m1_ne (by omega))⟩
      rw [nI_1]
      rintro M19 rfl M20 rfl
      have f20 : ∀ c i, ¬ rdp c i → xu (xu (xu (xu a 166 13 (nI s)) 166 14 1) 166 12 (nI (s + 1))) 166 15 (nI (b s)) c i = M c i := fun c i hc => (xu_rd _ _ (by omega) c i hc).trans ((xu_rd _ _ (by omega) c i hc).trans (f17 c i hc))
      refine s12_isL hbs ⟨fun hL => s12_isD hbs ⟨fun hD => s12_isMk hbs ⟨fun hm => ?_, fun hm => ?_⟩, fun hD => ?_⟩, fun hL => ?_⟩
      · have eT : pcT b n s = 1 := by rw [pcT_S hsn hL hD, hm]; rfl
        refine h _ ⟨?_, ?_, ?_, fun q => by rw [eT] at q; omega⟩ f20
        · simp [xu_if]; rw [pcE_S hsn hL hD]
        · simp [xu_if]
        · simp [xu_if]; rw [eT]; rfl
      · have eT : pcT b n s = 4 := by rw [pcT_S hsn hL hD, hm]; rfl
        rintro M24 rfl
        refine h _ ⟨?_, ?_, ?_, fun q => ?_⟩ (fun c i hc => (xu_rd _ _ (by omega) c i hc).trans (f20 c i hc))
        · simp [xu_if]; rw [pcE_S hsn hL hD]
        · simp [xu_if]
        · simp [xu_if]; rw [eT]; rfl
        · simp [xu_if]; rw [pcV_S hL hD]
      · rintro M25 rfl
        have hD' := hD
        simp [isD] at hD'
        refine s12_readsD hb hn hl hsn hD h (fun c i hc => (xu_rd _ _ (by omega) c i hc).trans (f20 c i hc)) ?_ ?_ ?_ ?_
        · simp [xu_if]
        · simp [xu_if]
        · simp [xu_if]
        · rw [xu_same, show nI (b s) - 48 = nI (b s - 48) from pk_sub (b := 48) (by omega)]
          show _ = nI (10 * 0 + (b (s + 0) - 48))
          rw [Nat.add_zero, Nat.mul_zero, Nat.zero_add]
      · refine s12_readsL hb hx hn hl hsn hL h f20 ?_ ?_ ?_
        · simp [xu_if]
        · simp [xu_if]
        · simp [xu_if]
    · have : b s = 10 := (nI_eq (b := 10) (by omega) (by omega)).mp q
      simp [isB, this]
