/-! days -/
theorem DV_keep {V : Mem} {P N : Nat} (h : DV V P N) : DV (gKeep V) P N := by
  obtain ⟨⟨g, ha, hb⟩, h2, h3, h4⟩ := h
  have k := WF_keep ha hb
  refine ⟨⟨g, k.1, k.2⟩, LWX_c (fun c i q => gKeep_n ?_ ?_) h2, WFp_c (fun c i q => gKeep_n ?_ ?_) h3, WFs_c (fun c i q => gKeep_n ?_ ?_) h4⟩
  · simp [pL] at q; omega
  · simp [pL] at q; omega
  · simp [pP] at q; omega
  · simp [pP] at q; omega
  · simp [pS] at q; omega
  · simp [pS] at q; omega
theorem DS_keep {V M M2 : Mem} (h : DS 2 V M) (hm : ∀ c i, ¬ (77 ≤ c ∧ c ≤ 138) → M2 c i = M c i) : DS 2 (gKeep V) M2 := by
  refine ⟨CB_keep h.1 hm, CL_c (fun c i q => gKeep_n ?_ ?_) (fun c i h1 h2 => hm c i (by omega)) h.2.1, CP_c (fun c i q => gKeep_n ?_ ?_) (fun c i h1 h2 => hm c i (by omega)) h.2.2.1, CS_c (fun c i q => gKeep_n ?_ ?_) (fun c i h1 h2 => hm c i (by omega)) h.2.2.2⟩
  · simp [pL] at q; omega
  · simp [pL] at q; omega
  · simp [pP] at q; omega
  · simp [pP] at q; omega
  · simp [pS] at q; omega
  · simp [pS] at q; omega
theorem DV_now {M : Mem} (hI : Inv M) : ∃ P N, DV (xu M 166 0 0) P N ∧ WFz (xu M 166 0 0) P ∧ WFp M P N := by
  obtain ⟨P, N, wv, wpv, wm, wpm, wz, wzv⟩ := WW_now hI
  exact ⟨P, N, ⟨wv, LWX_now hI, wpv, WFs_c (fun c i h => told_ne (by simp [pS] at h; omega)) hI.1.2.2.1⟩, wzv, wpm⟩
theorem DS_now {M : Mem} (hI : Inv M) : DS 2 (xu M 166 0 0) M :=
  ⟨CB_now hI, CL_now hI, CP_c (fun c i h => told_ne (by simp [pP] at h; omega)) (fun _ _ _ _ => rfl) hI.2.1.2.2.2.1, CS_c (fun c i h => told_ne (by simp [pS] at h; omega)) (fun _ _ _ _ => rfl) hI.2.1.2.2.1⟩
def gDays (P N : Nat) (_ : Nat) (s : Int32 × Mem) : Int32 × Mem := (s.1 + (gDay P N (gKeep s.2)).1, (gDay P N (gKeep s.2)).2)
theorem q_days : lq_days Inv := by
  intro M a hI
  obtain ⟨P, N, dv, wz, wpm⟩ := DV_now hI
  have ds := DS_now hI
  obtain ⟨n6, hn6, en6, -⟩ := hI.2.2.1
  have e15 : M 2 15 = xu M 166 0 0 167 0 := ds.1.1.1.2.2.1
  have no : (¬ (1 ≤ a ∧ a ≤ 60) ∨ ¬ (xu M 166 0 0 167 0 + a ≤ 9999)) → FX12_days (fun r2 M2 => (-1 : Int32) = r2 ∧ Inv M2) 166 a M := by
    intro hno
    unfold FX12_days
    rintro M1 rfl
    refine s12_isIn ⟨fun _ => ⟨rfl, Inv_told hI 0⟩, fun h1 => ⟨fun h => ?_, fun _ => ⟨rfl, Inv_told hI 0⟩⟩⟩
    rcases hno with z | z
    · exact absurd (of_decide_eq_true h1) z
    · exact absurd h z
  unfold FX11_days
  rw [show M (0 + 1 + 1) 15 = xu M 166 0 0 167 0 from e15]
  refine ⟨fun h => no (Or.inl (fun q => absurd q.1 (Int32.not_le.mpr h))), fun h1 => ⟨fun h => no (Or.inl (fun q => absurd q.2 (Int32.not_le.mpr h))), fun h2 => ⟨fun h3 => ?_, fun h => no (Or.inr h)⟩⟩⟩
  obtain ⟨n, n1, n60, rfl⟩ := inNat (lo := 1) (hi := 60) (by decide) (Int32.not_lt.mp h1) (Int32.not_lt.mp h2) (by decide)
  show NX11_days_38 _ 0 (nI n) (0 + 1 + 1) 0 0 M
  unfold NX11_days_38
  refine xlp_rel (gDays P N) ((0, xu M 166 0 0) : Int32 × Mem) n (fun k s a => a.1 = s.1 ∧ a.2.1 = nI k ∧ DV s.2 P N ∧ DS 2 s.2 a.2.2 ∧ PS s.2 a.2.2 ∧ WFz s.2 P ∧ (∀ c i, ¬ (2 ≤ c ∧ c ≤ 11) → c ≠ 18 → ¬ (77 ≤ c ∧ c ≤ 138) → a.2.2 c i = M c i) ∧ (∀ c i, c ≠ 167 → c ≠ 168 → c ≠ 171 → ¬ (c = 166 ∧ i = 3) → s.2 c i = xu M 166 0 0 c i)) (0, 0, M) ⟨rfl, rfl, dv, ds, PS_now hI, wz, fun _ _ _ _ _ => rfl, fun _ _ _ _ _ _ => rfl⟩ ?_ ?_
  · rintro ⟨y, x, M1⟩ B ⟨hy, hx, d1, s1, p1, z1, f1, v1⟩
    have hx : x = nI n := hx
    have hy : y = (fo (gDays P N) (0, xu M 166 0 0) n).1 := hy
    subst hx hy
    show lbX11_days_38 _ 0 (nI n) (0 + 1 + 1) (fun l3 l4 M => B (l3, l4, M)) _ (nI n) M1
    unfold lbX11_days_38
    refine ⟨fun _ => ?_, fun hc => absurd (nI_le (Nat.le_refl _) (by omega)) hc⟩
    have f1 : ∀ c i, ¬ (2 ≤ c ∧ c ≤ 11) → c ≠ 18 → ¬ (77 ≤ c ∧ c ≤ 138) → M1 c i = M c i := f1
    have r1 : RV (xu M 166 0 0) (xu M1 166 0 0) := RV_now (fun c i h => f1 c i (by omega) (by omega) (by omega))
    unfold FX12_days
    rintro M2 rfl
    rw [show xu M1 166 0 0 (166 + 1) 0 = xu M 166 0 0 167 0 from r1.r 0]
    refine s12_isIn ⟨fun h => absurd ⟨Int32.not_lt.mp h1, Int32.not_lt.mp h2⟩ (of_decide_eq_false h), fun _ => ⟨fun _ => ?_, fun h => absurd h3 h⟩⟩
    unfold NX12_days_36
    refine xlp_rel (gDays P N) ((0, xu M 166 0 0) : Int32 × Mem) n (fun k s a => a.1 = s.1 ∧ a.2.1 = nI k ∧ DV s.2 P N ∧ RV s.2 a.2.2 ∧ LO M1 a.2.2 ∧ ∃ q, q ≤ 6 ∧ s.2 166 3 = nI q) (0, 0, _) ⟨rfl, rfl, dv, r1, (LO.refl M1).up (by decide) _ _, n6, hn6, by show xu M 166 0 0 166 3 = nI n6; rw [told_ne (by decide)]; exact en6⟩ ?_ ?_
    · rintro ⟨y, x, M2⟩ B2 ⟨hy, hx, d2, r2, l2, -⟩
      have hx : x = nI n := hx
      have hy : y = (fo (gDays P N) (0, xu M 166 0 0) n).1 := hy
      subst hx hy
      show lbX12_days_36 _ 166 (nI n) (fun l3 l4 M => B2 (l3, l4, M)) _ (nI n) M2
      unfold lbX12_days_36
      exact ⟨fun _ => ⟨rfl, Inv_act hI s1.1 r2 l2 (fun c i q1 q2 q3 q4 => f1 c i q1 q2 q3) (fun c i q1 q2 q3 q4 q5 => (v1 c i q2 q3 q4 (by omega)).trans (told_ne (by omega))) d1.1 wpm z1 p1⟩, fun hc => absurd (nI_le (Nat.le_refl _) (by omega)) hc⟩
    · rintro k ⟨y, x, M2⟩ B2 hk ⟨hy, hx, d2, r2, l2, q, hq, eq⟩ hB
      have hx : x = nI k := hx
      have hy : y = (fo (gDays P N) (0, xu M 166 0 0) k).1 := hy
      subst hx hy
      generalize fo (gDays P N) (0, xu M 166 0 0) k = s at hB d2 r2 eq ⊢
      have r2 : RV s.2 M2 := r2
      have l2 : LO M1 M2 := l2
      show lbX12_days_36 _ 166 (nI n) (fun l3 l4 M => B2 (l3, l4, M)) s.1 (nI k) M2
      unfold lbX12_days_36
      rw [nI_1]
      refine ⟨fun hc => absurd hc (nI_ge (by omega) (by omega)), fun _ => s12_keeps (n := q) r2 eq hq (fun M3 r3 l3 => s12_goesBy (M0 := M3) (P := P) (N := N) ⟨DV_keep d2, r3, LO.refl M3⟩ (fun M4 g4 => hB _ ⟨rfl, rfl, g4.1, g4.2.1, (l2.trans l3).trans g4.2.2, min (q + 1) 6, by omega, ?_⟩))⟩
      show (gDay P N (gKeep s.2)).2 166 3 = _
      rw [gDay_GF 166 3 (by decide) (by decide)]
      unfold gKeep
      rw [if_pos ⟨rfl, rfl⟩, eq, ixn (by omega)]
  · rintro k ⟨y, x, M1⟩ B hk ⟨hy, hx, d1, s1, p1, z1, f1, v1⟩ hB
    have hx : x = nI k := hx
    have hy : y = (fo (gDays P N) (0, xu M 166 0 0) k).1 := hy
    subst hx hy
    generalize fo (gDays P N) (0, xu M 166 0 0) k = s at hB d1 s1 p1 z1 v1 ⊢
    have f1 : ∀ c i, ¬ (2 ≤ c ∧ c ≤ 11) → c ≠ 18 → ¬ (77 ≤ c ∧ c ≤ 138) → M1 c i = M c i := f1
    have s1 : DS 2 s.2 M1 := s1
    have p1 : PS s.2 M1 := p1
    show lbX11_days_38 _ 0 (nI n) (0 + 1 + 1) (fun l3 l4 M => B (l3, l4, M)) s.1 (nI k) M1
    unfold lbX11_days_38
    rw [nI_1]
    obtain ⟨g, ha, hb⟩ := id d1.1
    refine ⟨fun hc => absurd hc (nI_ge (by omega) (by omega)), fun _ => s3_keep p1 s1.1.1 ⟨P, N, g, ha, hb, z1⟩ (fun M2 p2 f2 => ?_)⟩
    have v5 : gKeep s.2 166 5 = 0 := by
      rw [gKeep_n (by omega) (by omega), v1 166 5 (by decide) (by decide) (by decide) (by decide), told_ne (by decide)]
      exact hI.2.2.2.2.1.2
    refine s0_passDay (M0 := M2) ⟨DV_keep d1, DS_keep s1 f2, FR.refl 2 M2⟩ (Or.inl ⟨rfl, v5⟩) (fun M3 g3 z3 => hB _ ⟨rfl, rfl, g3.1, g3.2.1, PS_congr p2 (fun c i q => gDay_GF c i (by omega) (by omega)) (fun c i q1 q2 => g3.2.2 c i (by omega) (by omega)), z3, fun c i q1 q2 q3 => ?_, fun c i q1 q2 q3 q4 => ?_⟩)
    · show M3 c i = M c i
      rw [g3.2.2 c i (by omega) q2, f2 c i q3, f1 c i q1 q2 q3]
    · show (gDay P N (gKeep s.2)).2 c i = _
      rw [gDay_GF c i q1 q3, gKeep_n (by omega) q2]
      exact v1 c i q1 q2 q3 q4
