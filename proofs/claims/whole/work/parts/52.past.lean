/-! THE PAST -/
def PS (V M : Mem) : Prop := ∃ n, n ≤ 6 ∧ V 166 3 = nI n ∧ M 77 1 = nI n ∧ ∃ σ : Nat → Nat, (∀ k, k < 6 → σ k < 6 ∧ M 78 k = nI (79 + 10 * σ k)) ∧ (∀ j k, j < 6 → k < 6 → σ j = σ k → j = k) ∧ ∀ k, k < n → WFw (rowV k V) ∧ CW (79 + 10 * σ k) (rowV k V) M
theorem IP_iff {M : Mem} : IP M ↔ PS M M := Iff.rfl
theorem PS_congr {V V2 M M2 : Mem} (h : PS V M) (hv : ∀ c i, (c = 168 ∨ c = 170 ∨ (c = 166 ∧ (i = 3 ∨ i = 6 ∨ i = 7))) → V2 c i = V c i) (hm : ∀ c i, 77 ≤ c → c ≤ 138 → M2 c i = M c i) : PS V2 M2 := by
  obtain ⟨n, h1, h2, h3, σ, h4, h5, h6⟩ := h
  refine ⟨n, h1, (hv 166 3 (by omega)).trans h2, (hm 77 1 (by decide) (by decide)).trans h3, σ, fun k hk => ⟨(h4 k hk).1, (hm 78 k (by decide) (by decide)).trans (h4 k hk).2⟩, h5, fun k hk => ?_⟩
  have hr : ∀ c i, pW c i = true → rowV k V2 c i = rowV k V c i := by
    intro c i hp
    unfold rowV
    split
    · exact hv 168 _ (by omega)
    · exact hv c i (by simp [pW] at hp; omega)
  obtain ⟨w1, w2⟩ := h6 k hk
  refine ⟨WFw_c hr w1, CW_c hr (fun d i hd => hm _ _ (by omega) ?_) w2⟩
  have := (h4 k (by omega)).1
  simp only [wr] at hd
  grind
def gKeep (V : Mem) : Mem := fun c i =>
  if c = 166 ∧ i = 3 then nI (min (ix (V 166 3) + 1) 6)
  else if c = 168 then (if ix (V 166 3) < 6 then (if 107 * ix (V 166 3) ≤ i ∧ i < 107 * ix (V 166 3) + 107 then V 167 (i - 107 * ix (V 166 3)) else V 168 i) else (if i < 535 then V 168 (i + 107) else if i < 642 then V 167 (i - 535) else V 168 i))
  else V c i
theorem s12_keeps {Q : Mem → Prop} {V M : Mem} {n : Nat} (hR : RV V M) (hn : V 166 3 = nI n) (h6 : n ≤ 6) (h : ∀ M', RV (gKeep V) M' → LO M M' → Q M') : FX12_keepsAhead Q 166 M := by
  have ek : ix (V 166 3) = n := by rw [hn]; exact ixn (by omega)
  have k55 : ∀ (U M1 : Mem) (m : Nat), m < 6 → U 166 3 = nI m → RV U M1 → LO M M1 → (∀ M', RV (fun c i => if c = 166 ∧ i = 3 then nI (m + 1) else if c = 168 ∧ 107 * m ≤ i ∧ i < 107 * m + 107 then U 167 (i - 107 * m) else U c i) M' → LO M M' → Q M') → NX12_keepsAhead_55 Q 166 0 M1 := by
    intro U M1 m hm hU r1 l1 hq
    unfold NX12_keepsAhead_55
    refine xlp_for (fun r a => ∃ k, k + r = 107 ∧ a.1 = nI k ∧ LO M a.2 ∧ RV (fun c i => if c = 168 ∧ 107 * m ≤ i ∧ i < 107 * m + k then U 167 (i - 107 * m) else U c i) a.2) ?_ ?_ 107 (0, M1) ⟨0, rfl, rfl, l1, fun c i q1 q2 q3 => ?_⟩
    · rintro ⟨x, M2⟩ B ⟨k, hk, hx, l2, r2⟩
      have hx : x = nI k := hx
      subst hx
      have : k = 107 := by omega
      subst this
      have l2 : LO M M2 := l2
      have r2 : RV (fun c i => if c = 168 ∧ 107 * m ≤ i ∧ i < 107 * m + 107 then U 167 (i - 107 * m) else U c i) M2 := r2
      show lbX12_keepsAhead_55 Q 166 (fun l1 M => B (l1, M)) (nI 107) M2
      unfold lbX12_keepsAhead_55
      refine ⟨fun _ => ?_, fun hc => absurd (by decide) hc⟩
      rintro M3 rfl
      have e3 : M2 166 3 = nI m := by rw [r2.n 3, if_neg (by omega)]; exact hU
      rw [e3, nI_1]
      refine hq _ (fun c i q1 q2 q3 => ?_) (l2.up (by decide) _ _)
      rw [xu_if]
      split
      · next q => dsimp only; rw [if_pos q]
      · next q => rw [r2 c i q1 q2 q3]; dsimp only; rw [if_neg q]
    · rintro r ⟨x, M2⟩ B ⟨k, hk, hx, l2, r2⟩ hB
      have hx : x = nI k := hx
      subst hx
      have l2 : LO M M2 := l2
      have r2 : RV (fun c i => if c = 168 ∧ 107 * m ≤ i ∧ i < 107 * m + k then U 167 (i - 107 * m) else U c i) M2 := r2
      show lbX12_keepsAhead_55 Q 166 (fun l1 M => B (l1, M)) (nI k) M2
      unfold lbX12_keepsAhead_55
      have e3 : M2 166 3 = nI m := by rw [r2.n 3, if_neg (by omega)]; exact hU
      have e4 : M2 (166 + 1) k = U 167 k := (r2.r k).trans (if_neg (by omega))
      rw [e3, show (107 : Int32) * nI m = nI (107 * m) from pk_mul 107 m, nI_add, ixn (by omega), ixn (by omega), nI_1, e4]
      refine ⟨fun hc => absurd hc (nI_ge (b := 107) (by omega) (by decide)), fun _ => ⟨vp_in_nI (by omega) (by decide), vp_in_nI (by omega) (by decide), ?_⟩⟩
      rintro M3 rfl
      refine hB _ ⟨k + 1, by omega, by first | rfl | exact nI_1 k, l2.up (by decide) _ _, fun c i q1 q2 q3 => ?_⟩
      show xu M2 (166 + 2) (107 * m + k) (U 167 k) c i = _
      rw [xu_if]
      by_cases e : c = 168 ∧ i = 107 * m + k
      · obtain ⟨rfl, rfl⟩ := e
        dsimp only
        rw [if_pos ⟨rfl, rfl⟩, if_pos (by omega)]
        congr 1; omega
      · rw [if_neg e, r2 c i q1 q2 q3]
        dsimp only
        by_cases e2 : c = 168 ∧ 107 * m ≤ i ∧ i < 107 * m + k
        · rw [if_pos e2, if_pos (by omega)]
        · rw [if_neg e2, if_neg (by omega)]
    · show M1 c i = _
      dsimp only
      rw [if_neg (by omega)]; exact r1 c i q1 q2 q3
  unfold FX12_keepsAhead
  rw [hR.n 3, hn]
  refine ⟨fun hne => ?_, fun he => ?_⟩
  · have hlt : n < 6 := by
      have : ¬ n = 6 := fun q => hne (by rw [q]; rfl)
      omega
    refine k55 V M n hlt hn hR (LO.refl M) (fun M' q1 q2 => h M' (fun c i z1 z2 z3 => ?_) q2)
    rw [q1 c i z1 z2 z3]
    unfold gKeep
    dsimp only
    rw [ek]
    by_cases e1 : c = 166 ∧ i = 3
    · rw [if_pos e1, if_pos e1]; congr 1; omega
    · rw [if_neg e1, if_neg e1]
      by_cases e2 : c = 168
      · subst e2
        rw [if_pos rfl, if_pos hlt]
        by_cases e3 : 107 * n ≤ i ∧ i < 107 * n + 107
        · rw [if_pos ⟨rfl, e3⟩, if_pos e3]
        · rw [if_neg (fun q => e3 q.2), if_neg e3]
      · rw [if_neg (fun q => e2 q.1), if_neg e2]
  · have : n = 6 := (nI_eq (b := 6) (by omega) (by decide)).mp he
    subst this
    rintro M4 rfl
    rw [show nI 6 - 1 = nI 5 by decide]
    unfold NX12_keepsAhead_21
    refine xlp_for (fun r a => ∃ k, k + r = 535 ∧ a.1 = nI k ∧ LO M a.2 ∧ RV (fun c i => if c = 166 ∧ i = 3 then nI 5 else if c = 168 ∧ i < k then V 168 (i + 107) else V c i) a.2) ?_ ?_ 535 (0, _) ⟨0, rfl, rfl, (LO.refl M).up (by decide) _ _, fun c i q1 q2 q3 => ?_⟩
    · rintro ⟨x, M2⟩ B ⟨k, hk, hx, l2, r2⟩
      have hx : x = nI k := hx
      subst hx
      have : k = 535 := by omega
      subst this
      have l2 : LO M M2 := l2
      have r2 : RV (fun c i => if c = 166 ∧ i = 3 then nI 5 else if c = 168 ∧ i < 535 then V 168 (i + 107) else V c i) M2 := r2
      show lbX12_keepsAhead_21 Q 166 (fun l1 M => B (l1, M)) (nI 535) M2
      unfold lbX12_keepsAhead_21
      have e3 : M2 166 3 = nI 5 := by rw [r2.n 3, if_pos (by omega)]
      rw [e3]
      refine ⟨fun _ => k55 _ M2 5 (by decide) (if_pos ⟨rfl, rfl⟩) r2 l2 (fun M' q1 q2 => h M' (fun c i z1 z2 z3 => ?_) q2), fun hc => absurd (by decide) hc⟩
      rw [q1 c i z1 z2 z3]
      unfold gKeep
      dsimp only
      rw [ek]
      by_cases e1 : c = 166 ∧ i = 3
      · rw [if_pos e1, if_pos e1]; rfl
      · rw [if_neg e1, if_neg e1, if_neg e1]
        clear q1 r2 k55 h
        by_cases e2 : c = 168
        · subst e2
          simp only [true_and, if_true, show ¬ (6 < 6) by decide, if_false, show ¬ (167 = 168) by decide, false_and, show ¬ (167 = 166) by decide]
          grind
        · simp only [e2, false_and, if_false]
    · rintro r ⟨x, M2⟩ B ⟨k, hk, hx, l2, r2⟩ hB
      have hx : x = nI k := hx
      subst hx
      have l2 : LO M M2 := l2
      have r2 : RV (fun c i => if c = 166 ∧ i = 3 then nI 5 else if c = 168 ∧ i < k then V 168 (i + 107) else V c i) M2 := r2
      show lbX12_keepsAhead_21 Q 166 (fun l1 M => B (l1, M)) (nI k) M2
      unfold lbX12_keepsAhead_21
      have e3 : M2 166 3 = nI 5 := by rw [r2.n 3, if_pos (by omega)]
      have e4 : M2 (166 + 2) (k + 107) = V 168 (k + 107) := (r2 168 _ (by decide) (by decide) (by decide)).trans (by dsimp only; rw [if_neg (by omega), if_neg (by omega)])
      rw [e3, show (107 : Int32) * nI 5 = nI 535 by decide, show nI k + 107 = nI (k + 107) from nI_add k 107, ixn (by omega), ixn (by omega), nI_1, e4]
      refine ⟨fun hc => absurd hc (nI_ge (by omega) (by decide)), fun _ => ⟨vp_in_nI (by omega) (by decide), vp_in_nI (by omega) (by decide), ?_⟩⟩
      rintro M3 rfl
      refine hB _ ⟨k + 1, by omega, by first | rfl | exact nI_1 k, l2.up (by decide) _ _, fun c i q1 q2 q3 => ?_⟩
      show xu M2 (166 + 2) k _ c i = _
      rw [xu_if]
      by_cases e : c = 168 ∧ i = k
      · obtain ⟨rfl, rfl⟩ := e
        dsimp only
        rw [if_pos ⟨rfl, rfl⟩, if_neg (by omega), if_pos (by omega)]
      · rw [if_neg e, r2 c i q1 q2 q3]
        dsimp only
        by_cases e1 : c = 166 ∧ i = 3
        · rw [if_pos e1, if_pos e1]
        · rw [if_neg e1, if_neg e1]
          by_cases e2 : c = 168 ∧ i < k
          · rw [if_pos e2, if_pos (by omega)]
          · rw [if_neg e2, if_neg (by omega)]
    · show xu M 166 3 (nI 5) c i = _
      rw [xu_if]
      split
      · next q => dsimp only; rw [if_pos q]
      · next q => dsimp only; rw [if_neg q, if_neg (by omega)]; exact hR c i q1 q2 q3
theorem CW_c2 {w : Nat} {V V2 M M2 : Mem} (n6 : V2 166 6 = V 166 6) (n7 : V2 166 7 = V 166 7) (hr : ∀ i, i < 107 → V2 167 i = V 167 i) (hf : ∀ t, t < 14 → V2 170 t = V 170 t) (hm : ∀ d i, wr d i = true → M2 (w + d) i = M (w + d) i) (hc : CW w V M) : CW w V2 M2 := by
  have q1 : VA V (mixV pW V V2) := by
    intro c i hv
    unfold mixV
    split
    · next hp =>
      simp [pW] at hp
      rcases hp with (⟨rfl, rfl | rfl⟩ | rfl) | rfl
      · exact n6
      · exact n7
      · exact hr i (by simpa [vr] using hv)
      · exact hf i (by simpa [vr] using hv)
    · rfl
  have q2 := CW_congr q1 hm hc
  exact CW_c (V := mixV pW V V2) (fun c i hp => by unfold mixV; rw [if_pos hp]) (fun _ _ _ => rfl) q2
theorem WFw_c2 {V V2 : Mem} (n6 : V2 166 6 = V 166 6) (n7 : V2 166 7 = V 166 7) (hr : ∀ i, i < 107 → V2 167 i = V 167 i) (hw : WFw V) : WFw V2 := by
  obtain ⟨P, N, g, ha, hb, hz⟩ := hw
  have hr : ∀ i, wfr i = true → V2 167 i = V 167 i := fun i hi => hr i (by simp [wfr] at hi; omega)
  exact ⟨P, N, g, WFa_congr2 n6 n7 hr ha, WFb_congr2 ha.1.2.2.2.1 ha.1.2.2.2.2.1 ha.1.2.2.2.2.2 hr hb, WFz_congr2 ha.1.2.2.2.1 hr hz⟩
theorem gKeep_n {V : Mem} {c i : Nat} (h1 : ¬ (c = 166 ∧ i = 3)) (h2 : c ≠ 168) : gKeep V c i = V c i := by
  unfold gKeep
  rw [if_neg h1, if_neg h2]
theorem row_n {V : Mem} {k c i : Nat} (h : c ≠ 167) : rowV k V c i = V c i := by simp [rowV, h]
theorem row_r {V : Mem} {k i : Nat} : rowV k V 167 i = V 168 (107 * k + i) := by simp [rowV]
theorem gKeep_168 {V : Mem} {n : Nat} (hn : V 166 3 = nI n) (h6 : n ≤ 6) (j : Nat) : gKeep V 168 j = if n < 6 then (if 107 * n ≤ j ∧ j < 107 * n + 107 then V 167 (j - 107 * n) else V 168 j) else (if j < 535 then V 168 (j + 107) else if j < 642 then V 167 (j - 535) else V 168 j) := by
  have ek : ix (V 166 3) = n := by rw [hn]; exact ixn (by omega)
  unfold gKeep
  rw [ek, if_neg (by omega), if_pos rfl]
theorem row1 {V : Mem} {n k i : Nat} (hn : V 166 3 = nI n) (h6 : n < 6) (hk : k < n) (hi : i < 107) : rowV k (gKeep V) 167 i = rowV k V 167 i := by
  rw [row_r, row_r, gKeep_168 hn (by omega), if_pos h6, if_neg (by omega)]
theorem row2 {V : Mem} {n i : Nat} (hn : V 166 3 = nI n) (h6 : n < 6) (hi : i < 107) : rowV n (gKeep V) 167 i = V 167 i := by
  rw [row_r, gKeep_168 hn (by omega), if_pos h6, if_pos (by omega), show 107 * n + i - 107 * n = i by omega]
theorem row3 {V : Mem} {k i : Nat} (hn : V 166 3 = nI 6) (hk : k < 5) (hi : i < 107) : rowV k (gKeep V) 167 i = rowV (k + 1) V 167 i := by
  rw [row_r, row_r, gKeep_168 hn (by omega), if_neg (by omega), if_pos (by omega), show 107 * k + i + 107 = 107 * (k + 1) + i by omega]
theorem row4 {V : Mem} {i : Nat} (hn : V 166 3 = nI 6) (hi : i < 107) : rowV 5 (gKeep V) 167 i = V 167 i := by
  rw [row_r, gKeep_168 hn (by omega), if_neg (by omega), if_neg (by omega), if_pos (by omega), show 107 * 5 + i - 535 = i by omega]
theorem SHk_w : ∀ s, s < 6 → SHk (79 + 10 * s) = 9 := by decide +kernel
theorem SHn_w : ∀ s, s < 6 → SHn (79 + 10 * s + 9) = 0 := by decide +kernel
theorem ix_slot {s : Nat} (h : s < 6) : (nI (79 + 10 * s)).toNatClampNeg = 79 + 10 * s := ixn (by omega)
theorem PS_keep {V M M2 : Mem} {n s : Nat} {σ : Nat → Nat} (hn : V 166 3 = nI n) (h6 : n ≤ 6) (hw : WFw V) (h5 : ∀ j k, j < 6 → k < 6 → σ j = σ k → j = k) (h4 : ∀ k, k < 6 → σ k < 6) (hr : ∀ k, k < n → WFw (rowV k V) ∧ CW (79 + 10 * σ k) (rowV k V) M) (hs : s = if n < 6 then σ n else σ 0) (e1 : M2 77 1 = nI (min (n + 1) 6)) (e2 : n < 6 → ∀ k, k < 6 → M2 78 k = nI (79 + 10 * σ k)) (e3 : n = 6 → ∀ k, k < 6 → M2 78 k = nI (79 + 10 * σ (if k < 5 then k + 1 else 0))) (e4 : CW (79 + 10 * s) V M2) (e5 : ∀ c i, ¬ (c = 77) → ¬ (c = 78) → ¬ (79 + 10 * s ≤ c ∧ c ≤ 79 + 10 * s + 9) → M2 c i = M c i) : PS (gKeep V) M2 := by
  have ek : ix (V 166 3) = n := by rw [hn]; exact ixn (by omega)
  have e0 : gKeep V 166 3 = nI (min (n + 1) 6) := by unfold gKeep; rw [if_pos ⟨rfl, rfl⟩, ek]
  have n67 : ∀ k i, (i = 6 ∨ i = 7) → ∀ W : Mem, W 166 i = V 166 i → rowV k (gKeep V) 166 i = W 166 i := fun k i hi W hW => by
    rw [row_n (by decide), gKeep_n (by omega) (by decide), hW]
  have n170 : ∀ k i, ∀ W : Mem, W 170 i = V 170 i → rowV k (gKeep V) 170 i = W 170 i := fun k i W hW => by
    rw [row_n (by decide), gKeep_n (by omega) (by decide), hW]
  have wslot : ∀ q, q < 6 → q ≠ s → s < 6 → ∀ d i, wr d i = true → M2 (79 + 10 * q + d) i = M (79 + 10 * q + d) i := by
    intro q h1 h2 h3 d i hd
    have : d ≤ 8 := by simp only [wr] at hd; grind
    exact e5 _ _ (by omega) (by omega) (by omega)
  rcases Nat.lt_or_ge n 6 with hlt | hge
  · have hs : s = σ n := by rw [hs, if_pos hlt]
    subst hs
    refine ⟨n + 1, by omega, by rw [e0]; congr 1; omega, by rw [e1]; congr 1; omega, σ, fun k hk => ⟨h4 k hk, e2 hlt k hk⟩, h5, fun k hk => ?_⟩
    rcases Nat.lt_or_ge k n with hk2 | hk2
    · obtain ⟨r1, r2⟩ := hr k hk2
      have q1 := n67 k 6 (Or.inl rfl) (rowV k V) (row_n (by decide))
      have q2 := n67 k 7 (Or.inr rfl) (rowV k V) (row_n (by decide))
      exact ⟨WFw_c2 q1 q2 (fun i hi => row1 hn hlt hk2 hi) r1, CW_c2 q1 q2 (fun i hi => row1 hn hlt hk2 hi) (fun t _ => n170 k t (rowV k V) (row_n (by decide))) (wslot (σ k) (h4 k (by omega)) (fun q => absurd (h5 k n (by omega) hlt q) (by omega)) (h4 n hlt)) r2⟩
    · have : k = n := by omega
      subst this
      exact ⟨WFw_c2 (n67 k 6 (Or.inl rfl) V rfl) (n67 k 7 (Or.inr rfl) V rfl) (fun i hi => row2 hn hlt hi) hw, CW_c2 (n67 k 6 (Or.inl rfl) V rfl) (n67 k 7 (Or.inr rfl) V rfl) (fun i hi => row2 hn hlt hi) (fun t _ => n170 k t V rfl) (fun _ _ _ => rfl) e4⟩
  · have : n = 6 := by omega
    subst this
    have hs : s = σ 0 := by rw [hs, if_neg (by omega)]
    subst hs
    refine ⟨6, by omega, e0, e1, fun k => σ (if k < 5 then k + 1 else 0), fun k hk => ⟨h4 _ (by split <;> omega), e3 rfl k hk⟩, fun j k hj hk q => ?_, fun k hk => ?_⟩
    · have := h5 _ _ (by split <;> omega) (by split <;> omega) q
      split at this <;> split at this <;> omega
    · rcases Nat.lt_or_ge k 5 with hk2 | hk2
      · obtain ⟨r1, r2⟩ := hr (k + 1) (by omega)
        have q1 := n67 k 6 (Or.inl rfl) (rowV (k + 1) V) (row_n (by decide))
        have q2 := n67 k 7 (Or.inr rfl) (rowV (k + 1) V) (row_n (by decide))
        dsimp only
        rw [if_pos hk2]
        exact ⟨WFw_c2 q1 q2 (fun i hi => row3 hn hk2 hi) r1, CW_c2 q1 q2 (fun i hi => row3 hn hk2 hi) (fun t _ => n170 k t (rowV (k + 1) V) (row_n (by decide))) (wslot (σ (k + 1)) (h4 (k + 1) (by omega)) (fun q => absurd (h5 (k + 1) 0 (by omega) (by omega) q) (by omega)) (h4 0 (by omega))) r2⟩
      · have : k = 5 := by omega
        subst this
        dsimp only
        rw [if_neg (by omega)]
        exact ⟨WFw_c2 (n67 5 6 (Or.inl rfl) V rfl) (n67 5 7 (Or.inr rfl) V rfl) (fun i hi => row4 hn hi) hw, CW_c2 (n67 5 6 (Or.inl rfl) V rfl) (n67 5 7 (Or.inr rfl) V rfl) (fun i hi => row4 hn hi) (fun t _ => n170 5 t V rfl) (fun _ _ _ => rfl) e4⟩
theorem s3_keep {Q : Mem → Prop} {V M : Mem} (hP : PS V M) (hC : CW 2 V M) (hw : WFw V) (h : ∀ M', PS (gKeep V) M' → (∀ c i, ¬ (77 ≤ c ∧ c ≤ 138) → M' c i = M c i) → Q M') : FX3_keep Q 77 2 M := by
  obtain ⟨n, h6, hn, hm, σ, h4, h5, hr⟩ := hP
  have k13 : ∀ (M1 : Mem) (m s : Nat), m < 6 → s < 6 → M1 77 1 = nI m → M1 78 m = nI (79 + 10 * s) → (∀ M3, M3 77 1 = nI (m + 1) → (∀ k, M3 78 k = M1 78 k) → CW (79 + 10 * s) V M3 → (∀ c i, ¬ (c = 77) → ¬ (c = 78) → ¬ (79 + 10 * s ≤ c ∧ c ≤ 79 + 10 * s + 9) → M3 c i = M1 c i) → Q M3) → CW 2 V M1 → NX3_keep_13 Q 77 2 M1 := by
    intro M1 m s hm6 hs e1 e2 hq c1
    unfold NX3_keep_13
    rw [e1, ixn (by omega), show M1 (77 + 1) m = nI (79 + 10 * s) from e2, ix_slot hs]
    refine ⟨vp_in_nI hm6 (by decide), SHk_w s hs, ?_⟩
    refine s9_copy (n := 0) (by omega) (by rw [SHn_w s hs]; simp) (by rw [SHn_w s hs, show SHn (2 + 9) = 600 by decide]; decide) (fun M' q0 q1 q2 q3 q4 q5 => ?_)
    rintro M3 rfl
    rw [q5 77 1 (by omega), e1, nI_1]
    refine hq _ (xu_same _ _ _ _) (fun k => by rw [xu_ne _ _ (by omega), q5 78 k (by omega)]) ?_ (fun c i z1 z2 z3 => by rw [xu_ne _ _ (by omega), q5 c i z3])
    refine CW_c (V := V) (M := M') (fun _ _ _ => rfl) (fun d i _ => xu_ne _ _ (by omega)) (CW_copy q0 q1 q2 c1)
  unfold FX3_keep
  rw [hm]
  refine ⟨fun hlt => ?_, fun hge => ?_⟩
  · have hlt : n < 6 := (nI_ltI (b := 6) (by omega) (by decide)).mp hlt
    refine k13 M n (σ n) hlt (h4 n hlt).1 hm (h4 n hlt).2 (fun M3 q1 q2 q3 q4 => h M3 (PS_keep (s := σ n) hn h6 hw h5 (fun k hk => (h4 k hk).1) hr (by rw [if_pos hlt]) (by rw [q1]; congr 1; omega) (fun _ k hk => by rw [q2 k]; exact (h4 k hk).2) (fun q => by omega) q3 q4) (fun c i z => q4 c i (by omega) (by omega) ?_)) hC
    have := (h4 n hlt).1
    omega
  · have : n = 6 := by
      have := mt (nI_lt (a := n) (b := 6)) (fun q => hge (q (by decide)))
      omega
    subst this
    unfold FX3_forgetOldest
    rw [show M (77 + 1) 0 = nI (79 + 10 * σ 0) from (h4 0 (by omega)).2, ix_slot (h4 0 (by omega)).1]
    refine ⟨SHk_w _ (h4 0 (by omega)).1, ?_⟩
    unfold NX3_forgetOldest_9
    refine xlp_for (fun r a => ∃ k, k + r = 5 ∧ a.1 = nI k ∧ (∀ c i, c ≠ 78 → a.2 c i = M c i) ∧ (∀ j, j < k → a.2 78 j = nI (79 + 10 * σ (j + 1))) ∧ (∀ j, k ≤ j → j < 6 → a.2 78 j = nI (79 + 10 * σ j))) ?_ ?_ 5 (0, M) ⟨0, rfl, rfl, fun _ _ _ => rfl, fun j hj => by omega, fun j _ hj => (h4 j hj).2⟩
    · rintro ⟨x, M1⟩ B ⟨k, hk, hx, f1, f2, f3⟩
      have hx : x = nI k := hx
      subst hx
      have : k = 5 := by omega
      subst this
      have f1 : ∀ c i, c ≠ 78 → M1 c i = M c i := f1
      have f2 : ∀ j, j < 5 → M1 78 j = nI (79 + 10 * σ (j + 1)) := f2
      show lbX3_forgetOldest_9 _ 77 _ (fun l2 M => B (l2, M)) (nI 5) M1
      unfold lbX3_forgetOldest_9
      refine ⟨fun _ => ?_, fun hc => absurd (by decide) hc⟩
      rintro M2 rfl M3 rfl
      have m78 : ∀ k, k < 6 → xu (xu M1 (77 + 1) 5 (nI (79 + 10 * σ 0))) 77 1 5 78 k = nI (79 + 10 * σ (if k < 5 then k + 1 else 0)) := by
        intro k hk
        rw [xu_ne _ _ (by omega), xu_if]
        by_cases e : k = 5
        · subst e; rw [if_pos ⟨rfl, rfl⟩, if_neg (by omega)]
        · rw [if_neg (by omega), if_pos (by omega)]; exact f2 k (by omega)
      refine k13 _ 5 (σ 0) (by decide) (h4 0 (by omega)).1 (xu_same _ _ _ _) (m78 5 (by decide)) (fun M4 q1 q2 q3 q4 => ?_) ?_
      · have fr : ∀ c i, ¬ (c = 77) → ¬ (c = 78) → ¬ (79 + 10 * σ 0 ≤ c ∧ c ≤ 79 + 10 * σ 0 + 9) → M4 c i = M c i := fun c i z1 z2 z3 => by
          rw [q4 c i z1 z2 z3, xu_ne _ _ (by omega), xu_ne _ _ (by omega), f1 c i z2]
        refine h M4 (PS_keep (s := σ 0) hn h6 hw h5 (fun k hk => (h4 k hk).1) hr (by rw [if_neg (by omega)]) q1 (fun q => by omega) (fun _ k hk => by rw [q2 k]; exact m78 k hk) q3 fr) (fun c i z => fr c i (by omega) (by omega) ?_)
        have := (h4 0 (by omega)).1
        omega
      · exact CW_c (V := V) (M := M) (fun _ _ _ => rfl) (fun d i hd => by
          have : d ≤ 8 := by simp only [wr] at hd; grind
          rw [xu_ne _ _ (by omega), xu_ne _ _ (by omega)]; exact f1 _ _ (by omega)) hC
    · rintro r ⟨x, M1⟩ B ⟨k, hk, hx, f1, f2, f3⟩ hB
      have hx : x = nI k := hx
      subst hx
      have f1 : ∀ c i, c ≠ 78 → M1 c i = M c i := f1
      have f2 : ∀ j, j < k → M1 78 j = nI (79 + 10 * σ (j + 1)) := f2
      have f3 : ∀ j, k ≤ j → j < 6 → M1 78 j = nI (79 + 10 * σ j) := f3
      show lbX3_forgetOldest_9 _ 77 _ (fun l2 M => B (l2, M)) (nI k) M1
      unfold lbX3_forgetOldest_9
      rw [nI_1, ixn (by omega), ixn (by omega), show M1 (77 + 1) (k + 1) = nI (79 + 10 * σ (k + 1)) from f3 (k + 1) (by omega) (by omega), ix_slot (h4 (k + 1) (by omega)).1]
      refine ⟨fun hc => absurd hc (nI_ge (b := 6) (by omega) (by decide)), fun _ => ⟨vp_in_nI (by omega) (by decide), SHk_w _ (h4 (k + 1) (by omega)).1, vp_in_nI (by omega) (by decide), ?_⟩⟩
      rintro M4 rfl
      refine hB _ ⟨k + 1, by omega, rfl, fun c i z => ?_, fun j hj => ?_, fun j h1 h2 => ?_⟩
      · show xu M1 (77 + 1) k _ c i = _
        rw [xu_ne _ _ (by omega)]; exact f1 c i z
      · show xu M1 (77 + 1) k _ 78 j = _
        rw [xu_if]
        by_cases e : j = k
        · subst e; rw [if_pos ⟨rfl, rfl⟩]
        · rw [if_neg (by omega)]; exact f2 j (by omega)
      · show xu M1 (77 + 1) k _ 78 j = _
        rw [xu_ne _ _ (by omega)]; exact f3 j (by omega) h2
