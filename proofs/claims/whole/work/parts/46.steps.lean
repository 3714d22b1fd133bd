/-! what the reference does to the view, step by step; class and reference do it both -/
def gNote (a b c : Int32) (V : Mem) : Mem :=
  if V 166 5 = 0 ∧ V 167 2 ≠ 150 then xu (xu (xu (xu (xu V 171 (4 * ix (V 167 2)) (V 167 0)) 171 (4 * ix (V 167 2) + 1) a) 171 (4 * ix (V 167 2) + 2) b) 171 (4 * ix (V 167 2) + 3) c) 167 2 (V 167 2 + 1) else V
theorem CB_book {V M : Mem} {j : Nat} {v : Int32} (h : CB 2 V M) : CB 2 (xu V 171 j v) (xu M 11 j v) := by
  refine ⟨CW_c (fun c i hp => xu_ne _ _ (by simp [pW] at hp; omega)) (fun d i hd => xu_ne _ _ (by simp only [wr] at hd; grind)) h.1, ?_⟩
  rcases h.2 with ⟨-, h1, h2⟩ | h2
  · refine Or.inl ⟨rfl, by rw [xu_ne _ _ (by omega)]; exact h1, fun i hi => ?_⟩
    rw [xu_if, xu_if]
    by_cases e : i = j
    · simp [e]
    · simp [e]; exact h2 i hi
  · omega
theorem nI4 {n : Nat} (h : n < 1000) : 4 * nI n = nI (4 * n) ∧ nI n * 4 = nI (4 * n) := ⟨pk_mul 4 n, by rw [show nI n * 4 = nI (n * 4) from pk_mul n 4, Nat.mul_comm]⟩
theorem s12_notes {Q : Mem → Prop} {V M : Mem} {a b c : Int32} (hR : RV V M) (hn : ∃ n, n ≤ 150 ∧ V 167 2 = nI n) (h : ∀ M', RV (gNote a b c V) M' → LO M M' → Q M') : FX12_notes Q 166 a b c M := by
  obtain ⟨n, hn, e⟩ := hn
  unfold FX12_notes
  rw [hR 166 5 (by decide) (by decide) (by decide), show M (166 + 1) 2 = nI n from (hR 167 2 (by decide) (by decide) (by decide)).trans e, show M (166 + 1) 0 = V 167 0 from hR 167 0 (by decide) (by decide) (by decide)]
  unfold gNote at h
  refine ⟨fun h0 => h M (by rw [if_neg (fun q => h0 q.1)]; exact hR) (LO.refl M), fun h0 => ⟨fun h1 => ?_, fun h1 => h M (by rw [if_neg (fun q => q.2 (e.trans h1))]; exact hR) (LO.refl M)⟩⟩
  have hlt : n < 150 := by
    have : ¬ n = 150 := fun q => h1 (by rw [q]; rfl)
    omega
  rw [if_pos ⟨h0, fun q => h1 (e ▸ q)⟩, e, ixn (by omega)] at h
  rw [(nI4 (by omega)).1, show nI (4 * n) + 1 = nI (4 * n + 1) from nI_add _ 1, show nI (4 * n) + 2 = nI (4 * n + 2) from nI_add _ 2, show nI (4 * n) + 3 = nI (4 * n + 3) from nI_add _ 3, ixn (by omega), ixn (by omega), ixn (by omega), ixn (by omega)]
  refine ⟨vp_in_nI (by omega) (by decide), ?_⟩
  rintro M1 rfl
  refine ⟨vp_in_nI (by omega) (by decide), ?_⟩
  rintro M2 rfl
  refine ⟨vp_in_nI (by omega) (by decide), ?_⟩
  rintro M3 rfl
  refine ⟨vp_in_nI (by omega) (by decide), ?_⟩
  rintro M4 rfl M5 rfl
  rw [xu_ne _ _ (by omega), xu_ne _ _ (by omega), xu_ne _ _ (by omega), xu_ne _ _ (by omega), show M (166 + 1) 2 = nI n from (hR 167 2 (by decide) (by decide) (by decide)).trans e]
  exact h _ (((((hR.up _ _ _).up _ _ _).up _ _ _).up _ _ _).up _ _ _) ((((((LO.refl M).up (by decide) _ _).up (by decide) _ _).up (by decide) _ _).up (by decide) _ _).up (by decide) _ _)
theorem s9_note {Q : Mem → Prop} {w : Nat} {V M : Mem} {a b c : Int32} (hC : CB w V M) (hn : ∃ n, n ≤ 150 ∧ V 167 2 = nI n) (h : ∀ M', CB w (gNote a b c V) M' → FR w M M' → Q M') : FX9_note Q w a b c M := by
  obtain ⟨n, hn, e⟩ := hn
  unfold FX9_note
  have e18 : M w 18 = nI n := hC.1.1.2.2.2.2.1.trans e
  have e15 : M w 15 = V 167 0 := hC.1.1.2.2.1
  rw [e18, e15, (nI4 (by omega)).2, show nI (4 * n) + 1 = nI (4 * n + 1) from nI_add _ 1, show nI (4 * n) + 2 = nI (4 * n + 2) from nI_add _ 2, show nI (4 * n) + 3 = nI (4 * n + 3) from nI_add _ 3, ixn (by omega), ixn (by omega), ixn (by omega), ixn (by omega)]
  refine ⟨fun hc => absurd hc (nI_pos (by omega)), fun _ => ?_⟩
  unfold gNote at h
  rcases hC.2 with ⟨rfl, h5, hb⟩ | ⟨rfl, h5⟩
  · rw [show SHn (2 + 9) = 600 by decide, show Int32.ofNat 600 = nI 600 from rfl, nI_ltI (by omega) (by decide)]
    refine ⟨fun h1 => ?_, fun h1 => h M ?_ (FR.refl _ _)⟩
    · have hlt : n < 150 := by omega
      rw [if_pos ⟨h5, fun q => absurd ((nI_eq (b := 150) (by omega) (by decide)).mp (e.symm.trans q)) (by omega)⟩, e, ixn (by omega)] at h
      refine ⟨vp_in_nI (by omega) (by decide), ?_⟩
      rintro M1 rfl
      refine ⟨vp_in_nI (by omega) (by decide), ?_⟩
      rintro M2 rfl
      refine ⟨vp_in_nI (by omega) (by decide), ?_⟩
      rintro M3 rfl
      refine ⟨vp_in_nI (by omega) (by decide), ?_⟩
      rintro M4 rfl M5 rfl
      rw [xu_ne _ _ (by omega), xu_ne _ _ (by omega), xu_ne _ _ (by omega), xu_ne _ _ (by omega), e18]
      exact h _ (CB_up (d := 0) (i := 18) (CB_book (CB_book (CB_book (CB_book hC)))) rfl (sub0 _)) (FR.up (FR.up (d := 9) (FR.up (d := 9) (FR.up (d := 9) (FR.up (d := 9) (FR.refl 2 M) (by decide) _ _) (by decide) _ _) (by decide) _ _) (by decide) _ _) (d := 0) (by decide) _ _)
    · have h150 : n = 150 := by omega
      rw [if_neg (fun q => q.2 (by rw [e, h150]; rfl))]
      exact hC
  · rw [show SHn (67 + 9) = 0 by decide, show Int32.ofNat 0 = nI 0 from rfl, nI_ltI (by omega) (by decide)]
    refine ⟨fun h1 => absurd h1 (by omega), fun h1 => h M ?_ (FR.refl _ _)⟩
    rw [if_neg (fun q => by rw [h5] at q; exact absurd q.1 (by decide))]
    exact hC
/-- who is at the k-th place leaves the ground; n are left -/
def lvR : Nat → Nat → Mem → Mem
  | 0, _, V => V
  | r + 1, k, V => lvR r (k + 1) (xu V 167 (93 + k) (V 167 (93 + k + 1)))
def gLeave (k : Nat) (V : Mem) : Mem := lvR (ix (V 167 6) - 1 - k) k (xu V 167 6 (V 167 6 - 1))
theorem lvR_at : ∀ (r k : Nat) (V : Mem) (c i : Nat), lvR r k V c i = if c = 167 ∧ 93 + k ≤ i ∧ i < 93 + k + r then V 167 (i + 1) else V c i
  | 0, k, V, c, i => by simp only [lvR]; rw [if_neg (by omega)]
  | r + 1, k, V, c, i => by
    simp only [lvR]
    rw [lvR_at r (k + 1)]
    by_cases h : c = 167 ∧ 93 + k ≤ i ∧ i < 93 + k + (r + 1)
    · rw [if_pos h]
      by_cases h2 : i = 93 + k
      · rw [if_neg (by omega), h.1, h2, xu_same]
      · rw [if_pos (by omega), xu_ne _ _ (by omega)]
    · rw [if_neg h, if_neg (by omega), xu_ne _ _ (by omega)]
theorem gLeave_at {g k : Nat} {V : Mem} (hg : V 167 6 = nI g) (h14 : g ≤ 14) (hk : k < g) (c i : Nat) : gLeave k V c i = if c = 167 ∧ i = 6 then nI (g - 1) else if c = 167 ∧ 93 + k ≤ i ∧ i < 93 + g - 1 then V 167 (i + 1) else V c i := by
  unfold gLeave
  rw [lvR_at, hg, ixn (by omega), show nI g - 1 = nI (g - 1) from pk_sub (b := 1) (by omega)]
  by_cases h : c = 167 ∧ 93 + k ≤ i ∧ i < 93 + g - 1
  · rw [if_pos (by omega), if_neg (by omega), if_pos h, xu_ne _ _ (by omega)]
  · rw [if_neg (by omega), if_neg h, xu_if]
theorem s12_leaves {Q : Mem → Prop} {V M : Mem} {g k : Nat} (hR : RV V M) (hg : V 167 6 = nI g) (h14 : g ≤ 14) (hk : k < g) (h : ∀ M', RV (gLeave k V) M' → LO M M' → Q M') : FX12_leavesGround Q 166 (nI k) M := by
  unfold FX12_leavesGround
  rintro M2 rfl
  have e6 : M (166 + 1) 6 = V 167 6 := hR 167 6 (by decide) (by decide) (by decide)
  rw [e6]
  have h2 : ∀ M', RV (lvR (g - 1 - k) k (xu V 167 6 (V 167 6 - 1))) M' → LO M M' → Q M' := by
    intro M' q1 q2
    refine h M' ?_ q2
    unfold gLeave
    rw [hg, ixn (by omega)]
    rw [hg] at q1
    exact q1
  clear h
  have e0 : nI g - 1 = nI (g - 1) := pk_sub (b := 1) (by omega)
  rw [hg, e0] at h2
  rw [hg, e0]
  unfold NX12_leavesGround_18
  refine xlp_for (fun r a => ∃ j, j + r = g - 1 ∧ k ≤ j ∧ a.1 = nI j ∧ ∃ W, RV W a.2 ∧ LO M a.2 ∧ W 167 6 = nI (g - 1) ∧ ∀ M', RV (lvR r j W) M' → LO M M' → Q M') ?_ ?_ (g - 1 - k) (nI k, _) ⟨k, by omega, by omega, rfl, _, hR.up _ _ _, (LO.refl M).up (by decide) _ _, xu_same _ _ _ _, h2⟩
  · rintro ⟨i, M1⟩ B ⟨j, hj, hkj, hi, W, r1, r2, r3, r4⟩
    have hi : i = nI j := hi
    subst hi
    show lbX12_leavesGround_18 Q 166 (fun l2 M => B (l2, M)) (nI j) M1
    unfold lbX12_leavesGround_18
    rw [show M1 (166 + 1) 6 = nI (g - 1) from (r1 167 6 (by decide) (by decide) (by decide)).trans r3]
    exact ⟨fun _ => r4 M1 r1 r2, fun hc => absurd (nI_le (by omega) (by omega)) hc⟩
  · rintro r ⟨i, M1⟩ B ⟨j, hj, hkj, hi, W, r1, r2, r3, r4⟩ hB
    have hi : i = nI j := hi
    subst hi
    show lbX12_leavesGround_18 Q 166 (fun l2 M => B (l2, M)) (nI j) M1
    unfold lbX12_leavesGround_18
    rw [show M1 (166 + 1) 6 = nI (g - 1) from (r1 167 6 (by decide) (by decide) (by decide)).trans r3, show (93 : Int32) + nI j + 1 = nI (93 + j + 1) by rw [show (93 : Int32) + nI j = nI (93 + j) from nI_add 93 j, nI_1], ixn (by omega), ix93 (by omega), show M1 (166 + 1) (93 + j + 1) = W 167 (93 + j + 1) from r1 167 _ (by decide) (by decide) (by decide), nI_1]
    refine ⟨fun hc => absurd hc (nI_ge (by omega) (by omega)), fun _ => ⟨vp_in_nI (by omega) (by decide), vp93 (by omega), ?_⟩⟩
    rintro M2 rfl
    exact hB _ ⟨j + 1, by omega, by omega, rfl, xu W 167 (93 + j) (W 167 (93 + j + 1)), r1.up _ _ _, r2.up (by decide) _ _, by rw [xu_ne _ _ (by omega)]; exact r3, r4⟩
theorem s9_leave {Q : Mem → Prop} {w : Nat} {V M : Mem} {g k : Nat} (hC : CB w V M) (hg : V 167 6 = nI g) (h14 : g ≤ 14) (hk : k < g) (h : ∀ M', CB w (gLeave k V) M' → FR w M M' → Q M') : FX9_leaveGround Q w (nI k) M := by
  unfold FX9_leaveGround
  have e6 : M w 9 = nI g := hC.1.1.2.2.2.2.2.2.2.2.1.trans hg
  rw [e6, nI_ltI (by omega) (by omega)]
  refine ⟨fun hc => absurd hc (nI_pos (by omega)), fun _ => ⟨fun _ => ?_, fun hc => absurd hk hc⟩⟩
  rintro M2 rfl
  have e0 : nI g - 1 = nI (g - 1) := pk_sub (b := 1) (by omega)
  have h2 : ∀ M', CB w (lvR (g - 1 - k) k (xu V 167 6 (nI (g - 1)))) M' → FR w M M' → Q M' := by
    intro M' q1 q2
    refine h M' ?_ q2
    unfold gLeave
    rw [hg, ixn (by omega), e0]
    exact q1
  clear h
  rw [e0]
  unfold NX9_leaveGround_25
  refine xlp_for (fun r a => ∃ j, j + r = g - 1 ∧ k ≤ j ∧ a.1 = nI j ∧ ∃ W, CB w W a.2 ∧ FR w M a.2 ∧ W 167 6 = nI (g - 1) ∧ ∀ M', CB w (lvR r j W) M' → FR w M M' → Q M') ?_ ?_ (g - 1 - k) (nI k, _) ⟨k, by omega, by omega, rfl, _, CB_up (d := 0) (i := 9) hC rfl (sub0 _), FR.up (d := 0) (FR.refl w M) (by decide) _ _, xu_same _ _ _ _, h2⟩
  · rintro ⟨i, M1⟩ B ⟨j, hj, hkj, hi, W, r1, r2, r3, r4⟩
    have hi : i = nI j := hi
    subst hi
    show lbX9_leaveGround_25 Q w (fun l2 M => B (l2, M)) (nI j) M1
    unfold lbX9_leaveGround_25
    rw [show M1 w 9 = nI (g - 1) from r1.1.1.2.2.2.2.2.2.2.2.1.trans r3]
    exact ⟨fun _ => r4 M1 r1 r2, fun hc => absurd (nI_le (by omega) (by omega)) hc⟩
  · rintro r ⟨i, M1⟩ B ⟨j, hj, hkj, hi, W, r1, r2, r3, r4⟩ hB
    have hi : i = nI j := hi
    subst hi
    show lbX9_leaveGround_25 Q w (fun l2 M => B (l2, M)) (nI j) M1
    unfold lbX9_leaveGround_25
    rw [show M1 w 9 = nI (g - 1) from r1.1.1.2.2.2.2.2.2.2.2.1.trans r3, nI_1, ixn (by omega), ixn (by omega), show M1 (w + 8) (j + 1) = W 167 (93 + (j + 1)) from (r1.1.2.1 (j + 1) (by omega)).2.2.2.2]
    refine ⟨fun hc => absurd hc (nI_ge (by omega) (by omega)), fun _ => ⟨vp_in_nI (by omega) (by decide), vp_in_nI (by omega) (by decide), ?_⟩⟩
    rintro M2 rfl
    exact hB _ ⟨j + 1, by omega, by omega, rfl, xu W 167 (93 + j) (W 167 (93 + j + 1)), CB_up (d := 8) (i := j) r1 (by simp [wdom]; omega) (sub0 _), FR.up r2 (by decide) _ _, by rw [xu_ne _ _ (by omega)]; exact r3, r4⟩
