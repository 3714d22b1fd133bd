/-! undo; a step on the world that is now, with the past kept -/
theorem q_undo : lq_undo Inv := by
  intro M hI
  obtain ⟨P, N, wv, wpv, wm, wpm, wz, wzv⟩ := WW_now hI
  obtain ⟨n, h6, hn, hm, σ, h4, h5, hr⟩ := hI.2.2.1
  unfold FX11_undo FX3_goBack
  rw [show M (0 + 77) 1 = nI n from hm]
  refine ⟨fun h0 => ?_, fun h0 => ?_⟩
  · have hpos : 0 < n := by
      rcases Nat.eq_zero_or_pos n with e | e
      · subst e; exact absurd h0 (by decide)
      · exact e
    have es : nI n - 1 = nI (n - 1) := pk_sub (b := 1) (by omega)
    have hs := (h4 (n - 1) (by omega)).1
    rw [es]
    rintro M1 rfl
    have e1 : xu M (0 + 77) 1 (nI (n - 1)) (0 + 77) 1 = nI (n - 1) := xu_same _ _ _ _
    have e2 : xu M (0 + 77) 1 (nI (n - 1)) (0 + 77 + 1) (n - 1) = nI (79 + 10 * σ (n - 1)) := by rw [xu_ne _ _ (by omega)]; exact (h4 (n - 1) (by omega)).2
    rw [e1, ixn (by omega), e2, ix_slot hs]
    refine ⟨vp_in_nI (by omega) (by decide), SHk_w _ hs, ?_⟩
    refine s9_copy (w := 2) (n := 0) (by omega) (by rw [SHn_w _ hs]; simp) (by rw [SHn_w _ hs, show SHn (2 + 9) = 600 by decide]; decide) (fun M' q0 q1 q2 q3 q4 q5 => ?_)
    have fr : ∀ c i, ¬ (2 ≤ c ∧ c ≤ 11) → ¬ (c = 77) → M' c i = M c i := fun c i z1 z2 => by
      rw [q5 c i (by omega), xu_ne _ _ (by omega)]
    unfold FX12_undo
    rintro M2 rfl
    have e3 : xu M' 166 0 0 166 3 = nI n := by rw [xu_ne _ _ (by omega), fr _ _ (by omega) (by omega)]; exact hn
    rw [e3, es]
    refine ⟨fun _ => ?_, fun h => absurd h (nI_ne0 hpos (by omega))⟩
    rintro M3 rfl
    unfold NX12_undo_26
    refine xlp_for (fun r a => ∃ k, k + r = 107 ∧ a.1 = nI k ∧ LO M' a.2 ∧ RV (fun c i => if c = 166 ∧ i = 3 then nI (n - 1) else if c = 167 ∧ i < k then M 168 (107 * (n - 1) + i) else xu M 166 0 0 c i) a.2) ?_ ?_ 107 (0, _) ⟨0, rfl, rfl, ((LO.refl M').up (by decide) _ _).up (by decide) _ _, fun c i z1 z2 z3 => ?_⟩
    · rintro ⟨x, M4⟩ B ⟨k, hk, hx, l4, r4⟩
      have hx : x = nI k := hx
      subst hx
      have : k = 107 := by omega
      subst this
      have l4 : LO M' M4 := l4
      have r4 : RV (fun c i => if c = 166 ∧ i = 3 then nI (n - 1) else if c = 167 ∧ i < 107 then M 168 (107 * (n - 1) + i) else xu M 166 0 0 c i) M4 := r4
      show lbX12_undo_26 _ 166 (fun l1 M => B (l1, M)) (nI 107) M4
      unfold lbX12_undo_26
      refine ⟨fun _ => ⟨rfl, ?_⟩, fun hc => absurd (by decide) hc⟩
      obtain ⟨w1, w2⟩ := hr (n - 1) (by omega)
      obtain ⟨P', N', g', ha, hb, hz⟩ := w1
      have hP : P' = P := by
        obtain ⟨g, wa, -⟩ := wm
        have e : M 166 6 = nI P' := (row_n (by decide)).symm.trans ha.1.1
        have := ha.1.2.2.2.1
        have := wa.1.2.2.2.1
        exact (nI_eq (by omega) (by omega)).mp (e.symm.trans wa.1.1)
      have hN : N' = N := by
        obtain ⟨g, wa, -⟩ := wm
        have e : M 166 7 = nI N' := (row_n (by decide)).symm.trans ha.1.2.1
        have := ha.1.2.2.2.2.1
        have := wa.1.2.2.2.2.1
        exact (nI_eq (by omega) (by omega)).mp (e.symm.trans wa.1.2.1)
      subst hP hN
      have g67 : ∀ i, i = 6 ∨ i = 7 → (fun c i => if c = 166 ∧ i = 3 then nI (n - 1) else if c = 167 ∧ i < 107 then M 168 (107 * (n - 1) + i) else xu M 166 0 0 c i : Mem) 166 i = rowV (n - 1) M 166 i := fun i hi => by
        dsimp only; rw [row_n (by decide), if_neg (by omega), if_neg (by omega), told_ne (by omega)]
      have g167 : ∀ i, i < 107 → (fun c i => if c = 166 ∧ i = 3 then nI (n - 1) else if c = 167 ∧ i < 107 then M 168 (107 * (n - 1) + i) else xu M 166 0 0 c i : Mem) 167 i = rowV (n - 1) M 167 i := fun i hi => by
        dsimp only; rw [row_r, if_neg (by omega), if_pos (by omega)]
      have g170 : ∀ i, (fun c i => if c = 166 ∧ i = 3 then nI (n - 1) else if c = 167 ∧ i < 107 then M 168 (107 * (n - 1) + i) else xu M 166 0 0 c i : Mem) 170 i = rowV (n - 1) M 170 i := fun i => by
        dsimp only; rw [row_n (by decide), if_neg (by omega), if_neg (by omega), told_ne (by omega)]
      have gwf : ∀ i, wfr i = true → (fun c i => if c = 166 ∧ i = 3 then nI (n - 1) else if c = 167 ∧ i < 107 then M 168 (107 * (n - 1) + i) else xu M 166 0 0 c i : Mem) 167 i = rowV (n - 1) M 167 i := fun i hi => g167 i (by simp [wfr] at hi; omega)
      have cw : CW 2 (fun c i => if c = 166 ∧ i = 3 then nI (n - 1) else if c = 167 ∧ i < 107 then M 168 (107 * (n - 1) + i) else xu M 166 0 0 c i : Mem) M' := by
        refine CW_c2 (V := rowV (n - 1) M) (M := M') (g67 6 (Or.inl rfl)) (g67 7 (Or.inr rfl)) g167 (fun t _ => g170 t) (fun _ _ _ => rfl) (CW_copy q0 q1 q2 ?_)
        exact CW_c (fun _ _ _ => rfl) (fun d i _ => xu_ne _ _ (by omega)) w2
      refine Inv_step (M1 := M') (P := P') (N := N') hI ⟨cw, Or.inl ⟨rfl, ?_, fun i hi => ?_⟩⟩ r4 l4 (fun c i z1 z2 z3 z4 => fr c i z1 (by omega)) (fun c i z1 z2 z3 z4 z5 z6 => ?_) ⟨g', WFa_congr2 (g67 6 (Or.inl rfl)) (g67 7 (Or.inr rfl)) gwf ha, WFb_congr2 ha.1.2.2.2.1 ha.1.2.2.2.2.1 ha.1.2.2.2.2.2 gwf hb⟩ (WFp_c (fun c i q => ?_) wpm) (WFz_congr2 ha.1.2.2.2.1 gwf hz) ⟨n - 1, by omega, ?_, ?_, σ, fun k hk => ⟨(h4 k hk).1, ?_⟩, h5, fun k hk => ?_⟩
      · (try dsimp only); rw [if_neg (by omega), if_neg (by omega), told_ne (by omega)]; exact hI.2.2.2.2.1.2
      · try dsimp only
        rw [show M' 11 i = M 11 i from (q4 i (by omega)).trans (xu_ne _ _ (by omega)), if_neg (by omega), if_neg (by omega), told_ne (by omega)]
        exact hI.2.1.2.2.2.2.2.2 i hi
      · (try dsimp only); rw [if_neg (by omega), if_neg (by omega), told_ne (by omega)]
      · simp [pP] at q
        rw [if_neg (by omega), if_neg (by omega), told_ne (by omega)]
      · rw [r4.n 3, if_pos ⟨rfl, rfl⟩]
      · rw [l4 77 1 (by decide), q5 77 1 (by omega)]; exact e1
      · rw [l4 78 k (by decide), fr 78 k (by omega) (by omega)]; exact (h4 k hk).2
      · obtain ⟨r1, r2⟩ := hr k (by omega)
        have hrow : ∀ c i, pW c i = true → rowV k M4 c i = rowV k M c i := by
          intro c i hp
          unfold rowV
          split
          · rw [r4 168 _ (by decide) (by decide) (by decide)]; dsimp only; rw [if_neg (by omega), if_neg (by omega), told_ne (by omega)]
          · next z =>
            simp [pW] at hp
            rw [r4 c i (by omega) (by omega) (by omega)]; dsimp only; rw [if_neg (by omega), if_neg (by omega), told_ne (by omega)]
        refine ⟨WFw_c hrow r1, CW_c hrow (fun d i hd => ?_) r2⟩
        have h8 : d ≤ 8 := by simp only [wr] at hd; grind
        have := (h4 k (by omega)).1
        rw [l4 _ _ (by omega), fr _ _ (by omega) (by omega)]
    · rintro r ⟨x, M4⟩ B ⟨k, hk, hx, l4, r4⟩ hB
      have hx : x = nI k := hx
      subst hx
      have l4 : LO M' M4 := l4
      have r4 : RV (fun c i => if c = 166 ∧ i = 3 then nI (n - 1) else if c = 167 ∧ i < k then M 168 (107 * (n - 1) + i) else xu M 166 0 0 c i) M4 := r4
      show lbX12_undo_26 _ 166 (fun l1 M => B (l1, M)) (nI k) M4
      unfold lbX12_undo_26
      have e5 : M4 166 3 = nI (n - 1) := by rw [r4.n 3, if_pos ⟨rfl, rfl⟩]
      have e6 : M4 (166 + 2) (107 * (n - 1) + k) = M 168 (107 * (n - 1) + k) := (r4 168 _ (by decide) (by decide) (by decide)).trans (by dsimp only; rw [if_neg (by omega), if_neg (by omega), told_ne (by omega)])
      rw [e5, show (107 : Int32) * nI (n - 1) = nI (107 * (n - 1)) from pk_mul 107 (n - 1), nI_add, ixn (by omega), ixn (by omega), nI_1, e6]
      refine ⟨fun hc => absurd hc (nI_ge (b := 107) (by omega) (by decide)), fun _ => ⟨vp_in_nI (by omega) (by decide), vp_in_nI (by omega) (by decide), ?_⟩⟩
      rintro M5 rfl
      refine hB _ ⟨k + 1, by omega, rfl, l4.up (by decide) _ _, fun c i z1 z2 z3 => ?_⟩
      show xu M4 (166 + 1) k _ c i = _
      rw [xu_if]
      by_cases e : c = 167 ∧ i = k
      · obtain ⟨rfl, rfl⟩ := e
        dsimp only
        rw [if_pos ⟨rfl, rfl⟩, if_neg (by omega), if_pos (by omega)]
      · rw [if_neg e, r4 c i z1 z2 z3]
        dsimp only
        by_cases e1 : c = 166 ∧ i = 3
        · rw [if_pos e1, if_pos e1]
        · rw [if_neg e1, if_neg e1]
          by_cases e2 : c = 167 ∧ i < k
          · rw [if_pos e2, if_pos (by omega)]
          · rw [if_neg e2, if_neg (by omega)]
    · show xu (xu M' 166 0 0) 166 3 _ c i = _
      rw [xu_if]
      split
      · next q => dsimp only; rw [if_pos q]
      · next q =>
        dsimp only; rw [if_neg q, if_neg (by omega), xu_if, xu_if]
        split
        · rfl
        · exact fr c i (by omega) (by omega)
  · have : n = 0 := by
      rcases Nat.eq_zero_or_pos n with e | e
      · exact e
      · exact absurd (nI_lt (a := 0) e (by omega)) h0
    subst this
    unfold FX12_undo
    rintro M1 rfl
    rw [told_ne (by decide), hn]
    exact ⟨fun h => absurd rfl h, fun _ => ⟨rfl, Inv_told hI 0⟩⟩
theorem Inv_act {M M1 M2 V : Mem} {P N : Nat} (hI : Inv M) (hC : CB 2 V M1) (hR : RV V M2) (hL : LO M1 M2) (hF : ∀ c i, ¬ (2 ≤ c ∧ c ≤ 11) → c ≠ 18 → ¬ (77 ≤ c ∧ c ≤ 138) → c < 166 → M1 c i = M c i) (hG : ∀ c i, 166 ≤ c → c ≠ 167 → c ≠ 168 → c ≠ 171 → ¬ (c = 166 ∧ (i = 0 ∨ i = 3)) → V c i = M c i) (hW : WW V P N) (hp : WFp M P N) (hz : WFz V P) (hS : PS V M1) : Inv M2 := by
  refine Inv_step hI hC hR hL hF (fun c i h1 h2 h3 h4 h5 h6 => hG c i h1 h2 h3 h5 (by omega)) hW (WFp_c (fun c i q => hG c i ?_ ?_ ?_ ?_ ?_) hp) hz (PS_congr hS (fun c i q => hR c i (by omega) (by omega) (by omega)) (fun c i h1 h2 => hL c i (by omega)))
  all_goals (simp [pP] at q; omega)
