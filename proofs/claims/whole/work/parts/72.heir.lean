/-! heir -/
def gHeir (P : Nat) (V : Mem) : Mem :=
  match hgh V P with
  | none => V
  | some q => gClimb P (gDie P (ix (V 167 (73 + q) - 1)) V)
theorem gHeir_GN {P : Nat} {V : Mem} : GN V (gHeir P V) := by
  unfold gHeir
  split
  · exact GN.refl V
  · exact gDie_GN.trans (GN_climb _ _)
theorem hgh_t {V : Mem} {P N g q : Nat} (ha : WFa V P N g) (hb : WFb V P N g) (hq : hgh V P = some q) : ∃ t, t < N ∧ V 167 (73 + q) = nI (t + 1) ∧ V 167 (73 + q) - 1 = nI t ∧ V 167 (49 + t) = 0 := by
  have h := nbl_some hq
  rcases sit_of ha h.1 with ⟨z1, -⟩ | ⟨t, ht, z1, z2⟩
  · exact absurd z1 h.2.1
  · exact ⟨t, ht, z1, z2, hb.2.2.2.2.1 q t h.1 ht z1⟩
theorem gHeir_WW {V : Mem} {P N : Nat} (hW : WW V P N) (hz : WFz V P) : WW (gHeir P V) P N ∧ WFz (gHeir P V) P := by
  obtain ⟨g, ha, hb⟩ := hW
  have h14 := ha.1.2.2.2.2.1
  unfold gHeir
  cases hq : hgh V P with
  | none => exact ⟨⟨g, ha, hb⟩, hz⟩
  | some q =>
    obtain ⟨t, ht, z1, z2, z3⟩ := hgh_t ha hb hq
    dsimp only
    rw [z2, ixn (by omega)]
    have := gDie_WW ⟨g, ha, hb⟩ ht z3
    exact ⟨WW_climb (Nat.le_refl P) this, WFz_climb this⟩
theorem heir_stop (P : Nat) (V : Mem) {k : Nat} (h : hgh (fo (fun _ V => gHeir P V) V k) P = none) : ∀ r, fo (fun _ V => gHeir P V) V (k + r) = fo (fun _ V => gHeir P V) V k
  | 0 => rfl
  | r + 1 => by
    show gHeir P (fo (fun _ V => gHeir P V) V (k + r)) = _
    rw [heir_stop P V h r]
    unfold gHeir
    rw [show hgh (fo (fun _ V => (match hgh V P with | none => V | some q => gClimb P (gDie P (ix (V 167 (73 + q) - 1)) V))) V k) P = none from h]
theorem gNote_th {a b c : Int32} {V : Mem} (h : V 166 5 = 1) : gNote a b c V = V := by
  unfold gNote; rw [if_neg (fun q => by rw [h] at q; exact absurd q.1 (by decide))]
def hrT (W : Mem) (P : Nat) : Int32 := match hgh W P with | none => -1 | some q => W 167 (73 + q) - 1
theorem q_heir : lq_heir Inv := by
  intro M a hI
  obtain ⟨P, N, dv, wz, wpm⟩ := DV_now hI
  have I1 := Inv_told hI 0
  have no : ¬ (0 ≤ a ∧ a ≤ 13) → FX12_heir (fun r2 M2 => (-1 : Int32) = r2 ∧ Inv M2) 166 a M := by
    intro hno
    unfold FX12_heir
    rintro M1 rfl
    exact s12_isIn ⟨fun h1 => absurd (of_decide_eq_true h1) hno, fun _ => ⟨rfl, I1⟩⟩
  have l13 : a ≤ 13 ↔ a < 14 := by
    rw [Int32.le_iff_toInt_le, Int32.lt_iff_toInt_lt, show (13 : Int32).toInt = 13 from rfl, show (14 : Int32).toInt = 14 from rfl]; omega
  unfold FX11_heir
  refine ⟨fun h => no (fun q => absurd q.1 (Int32.not_le.mpr h)), fun h1 => ⟨fun h2 => ?_, fun h => no (fun q => h (l13.mp q.2))⟩⟩
  have hin : 0 ≤ a ∧ a ≤ 13 := ⟨Int32.not_lt.mp h1, l13.mpr h2⟩
  obtain ⟨n, n0, n13, rfl⟩ := inNat (lo := 0) (hi := 13) (by decide) hin.1 hin.2 (by decide)
  refine s9_copy (w := 67) (u := 2) (n := 0) (by omega) (by decide) (by decide) (fun M1 q0 q1 q2 q3 q4 q5 => ?_)
  obtain ⟨d0, s0⟩ := think_start hI dv q0 q1 q2 q5
  have v5 : gThink (xu M 166 0 0) 166 5 = 1 := by unfold gThink; rw [if_pos ⟨rfl, rfl⟩]
  have wz0 : WFz (gThink (xu M 166 0 0)) P := fun p hp e => by
    rw [think_n (by omega) (by omega)] at e ⊢
    exact wz p hp e
  show NX11_heir_28 _ 0 (nI n) 0 M1
  unfold NX11_heir_28
  refine xlp_rel (fun _ V => gHeir P V) (gThink (xu M 166 0 0)) n (fun k V a => a.1 = nI k ∧ CGd P N 67 M1 V a.2 ∧ GN (gThink (xu M 166 0 0)) V ∧ WFz V P) (0, M1) ⟨rfl, ⟨d0, s0, FR.refl 67 M1⟩, GN.refl _, wz0⟩ ?_ ?_
  · rintro ⟨x, M2⟩ B ⟨hx, g2, n2, z2⟩
    have hx : x = nI n := hx
    subst hx
    generalize eW : fo (fun _ V => gHeir P V) (gThink (xu M 166 0 0)) n = W at g2 n2 z2
    have g2 : CGd P N 67 M1 W M2 := g2
    have n2 : GN (gThink (xu M 166 0 0)) W := n2
    have cw := g2.2.1.1.1
    obtain ⟨g, ha, hb⟩ := id g2.1.1
    have h10 := ha.1.2.2.2.1
    have h14 := ha.1.2.2.2.2.1
    have f2 : ∀ c i, ¬ (67 ≤ c ∧ c ≤ 67 + 9) → c ≠ 18 → M2 c i = M c i := fun c i z1 z2 => (g2.2.2 c i z1 z2).trans (q5 c i z1)
    have ref : FX12_heir (fun r2 M2 => hrT W P = r2 ∧ Inv M2) 166 (nI n) M2 := by
      unfold FX12_heir
      rintro M3 rfl
      have r3 : RV (xu M 166 0 0) (xu M2 166 0 0) := RV_now (fun c i h => f2 c i (by omega) (by omega))
      refine s12_isIn ⟨fun _ => s12_thinks r3 (fun M4 r4 l4 => ?_), fun h => absurd hin (of_decide_eq_false h)⟩
      have fin : ∀ (M5 : Mem), RGd P N M4 W M5 → NX12_heir_59 (fun r2 M2 => hrT W P = r2 ∧ Inv M2) 166 M5 := by
        intro M5 g5
        have r5 := g5.2.1
        have l5 : LO M2 M5 := (((LO.refl M2).up (by decide) _ _).trans l4).trans g5.2.2
        have fin2 : ∀ y : Int32, hrT W P = y → NX12_heir_79 (fun r2 M2 => hrT W P = r2 ∧ Inv M2) 166 y M5 := by
          rintro y rfl
          unfold NX12_heir_79
          exact s12_ends r5 (fun M6 r6 l6 => ⟨rfl, think_end hI f2 n2 r6 (l5.trans l6)⟩)
        unfold NX12_heir_59
        refine s12_highest r5 ha.1.1 h10 ?_
        cases hq : hgh W P with
        | none => exact ⟨fun hc => absurd rfl hc, fun _ => fin2 _ (by unfold hrT; rw [hq])⟩
        | some q =>
          have hlt := hgh_lt hq
          refine ⟨fun _ => s12_highest r5 ha.1.1 h10 ?_, fun hc => absurd hc (oI_ne (by omega))⟩
          rw [hq]
          show FX12_sitterOf _ 166 (nI q) M5
          refine s12_sitterOf (by omega) (fin2 _ ?_)
          unfold hrT; rw [hq, r5.r]
      unfold NX12_heir_24
      refine xlp_rel (fun _ V => gHeir P V) (gThink (xu M 166 0 0)) n (fun k V a => a.1 = nI k ∧ RGd P N M4 V a.2 ∧ WFz V P) (0, M4) ⟨rfl, ⟨d0, r4, LO.refl M4⟩, wz0⟩ ?_ ?_
      · rintro ⟨y, M5⟩ B2 ⟨hy, g5, -⟩
        have hy : y = nI n := hy
        subst hy
        rw [eW] at g5
        show lbX12_heir_24 _ 166 (nI n) (fun l3 M => B2 (l3, M)) (nI n) M5
        unfold lbX12_heir_24
        exact ⟨fun _ => fin M5 g5, fun hc => absurd (nI_le (Nat.le_refl _) (by omega)) hc⟩
      · rintro k ⟨y, M5⟩ B2 hk ⟨hy, g5, z5⟩ hB
        have hy : y = nI k := hy
        subst hy
        show lbX12_heir_24 _ 166 (nI n) (fun l3 M => B2 (l3, M)) (nI k) M5
        have g5 : RGd P N M4 (fo (fun _ V => gHeir P V) (gThink (xu M 166 0 0)) k) M5 := g5
        obtain ⟨g', ha', hb'⟩ := id g5.1.1
        unfold lbX12_heir_24
        rw [nI_1]
        refine ⟨fun hc => absurd hc (nI_ge (by omega) (by omega)), fun _ => s12_highest g5.2.1 ha'.1.1 h10 ?_⟩
        cases hq : hgh (fo (fun _ V => gHeir P V) (gThink (xu M 166 0 0)) k) P with
        | none =>
          refine ⟨fun _ => fin M5 ?_, fun hc => absurd rfl hc⟩
          have := heir_stop P _ hq (n - k)
          rw [show k + (n - k) = n by omega, eW] at this
          rw [this]; exact g5
        | some q =>
          have hlt := hgh_lt hq
          obtain ⟨t, ht, y1, y2, y3⟩ := hgh_t ha' hb' hq
          refine ⟨fun hc => absurd hc (oI_ne (by omega)), fun _ => s12_highest g5.2.1 ha'.1.1 h10 ?_⟩
          rw [hq]
          show FX12_sitterOf _ 166 (nI q) M5
          refine s12_sitterOf (by omega) ?_
          rw [g5.2.1.r, y2]
          have wd := gDie_WW g5.1.1 ht y3
          have eH : gHeir P (fo (fun _ V => gHeir P V) (gThink (xu M 166 0 0)) k) = gClimb P (gDie P t (fo (fun _ V => gHeir P V) (gThink (xu M 166 0 0)) k)) := by
            generalize fo (fun _ V => gHeir P V) (gThink (xu M 166 0 0)) k = U at hq y2
            unfold gHeir; rw [hq]; dsimp only; rw [y2, ixn (by omega)]
          refine s12_dies g5.1.1 g5.2.1 ht y3 (fun M6 r6 l6 => s12_allClimb r6 wd (fun M7 r7 l7 => hB _ ⟨rfl, ?_, (gHeir_WW g5.1.1 z5).2⟩))
          exact g5.step (gHeir_WW g5.1.1 z5).1 gHeir_GN.1 (by rw [eH]; exact r7) (l6.trans l7)
    show lbX11_heir_28 _ 0 (nI n) (fun l3 M => B (l3, M)) (nI n) M2
    unfold lbX11_heir_28
    refine ⟨fun _ => s9_highest (w := 67) cw ha.1.1 h10 ?_, fun hc => absurd (nI_le (Nat.le_refl _) (by omega)) hc⟩
    cases hq : hgh W P with
    | none =>
      unfold FX9_sitterOn
      refine s9_isPillar (w := 67) (P := P) (cw.1.1.trans ha.1.1) (by omega) (fun k hk e => absurd e.symm (m1_ne (by omega))) (fun _ => ⟨fun _ => ?_, fun h => (by cases h)⟩)
      have : hrT W P = -1 := by unfold hrT; rw [hq]
      rw [this] at ref; exact ref
    | some q =>
      have hlt := hgh_lt hq
      show FX9_sitterOn _ (0 + 67) (nI q) M2
      refine s9_sitterOn (w := 67) (P := P) (cw.1.1.trans ha.1.1) h10 hlt ?_
      rw [(cw.2.2 q (by omega)).2.1]
      have : hrT W P = W 167 (73 + q) - 1 := by unfold hrT; rw [hq]
      rw [this] at ref; exact ref
  · rintro k ⟨x, M2⟩ B hk ⟨hx, g2, n2, z2⟩ hB
    have hx : x = nI k := hx
    subst hx
    generalize fo (fun _ V => gHeir P V) (gThink (xu M 166 0 0)) k = U at g2 n2 z2 hB
    have g2 : CGd P N 67 M1 U M2 := g2
    have n2 : GN (gThink (xu M 166 0 0)) U := n2
    have c2 := g2.2.1.1
    obtain ⟨g', ha', hb'⟩ := id g2.1.1
    have h10 := ha'.1.2.2.2.1
    have h14 := ha'.1.2.2.2.2.1
    have u5 : U 166 5 = 1 := (n2.1 166 5 (by decide) (by decide)).trans v5
    have hw := gHeir_WW g2.1.1 z2
    have fin : ∀ M3, CB 67 (gHeir P U) M3 → FR 67 M2 M3 → B (nI (k + 1), M3) := fun M3 c3 f3 => hB _ ⟨rfl, g2.step hw.1 gHeir_GN.1 c3 f3, n2.trans gHeir_GN, hw.2⟩
    show lbX11_heir_28 _ 0 (nI n) (fun l3 M => B (l3, M)) (nI k) M2
    unfold lbX11_heir_28
    rw [nI_1]
    refine ⟨fun hc => absurd hc (nI_ge (by omega) (by omega)), fun _ => s9_highest (w := 67) c2.1 ha'.1.1 h10 ?_⟩
    cases hq : hgh U P with
    | none =>
      have eH : gHeir P U = U := by unfold gHeir; rw [hq]
      rw [eH] at fin
      unfold FX9_sitterOn
      refine s9_isPillar (w := 67) (P := P) (c2.1.1.1.trans ha'.1.1) (by omega) (fun j hj e => absurd e.symm (m1_ne (by omega))) (fun _ => ⟨fun _ => ?_, fun h => (by cases h)⟩)
      unfold FX9_bury
      refine s9_isSaint (w := 67) (P := N) (c2.1.1.2.1.trans ha'.1.2.1) (by omega) (fun j hj e => absurd e.symm (m1_ne (by omega))) (fun _ => ⟨fun h => (by cases h), fun _ => ?_⟩)
      refine s9_climb (w := 67) c2 g2.1.1 (fun M3 c3 f3 => fin M3 ?_ f3)
      have e0 := nbl_none hq
      have : gClimb P U = U := by
        rcases Nat.eq_zero_or_pos P with hp | hp
        · subst hp; rfl
        · exact gClimb_id (z2 0 hp (e0 0 hp)) (fun j hj => e0 j hj)
      rw [this] at c3; exact c3
    | some q =>
      have hlt := hgh_lt hq
      obtain ⟨t, ht, y1, y2, y3⟩ := hgh_t ha' hb' hq
      have wd := gDie_WW g2.1.1 ht y3
      have eH : gHeir P U = gClimb P (gDie P t U) := by unfold gHeir; rw [hq]; dsimp only; rw [y2, ixn (by omega)]
      rw [eH] at fin
      show FX9_sitterOn _ (0 + 67) (nI q) M2
      refine s9_sitterOn (w := 67) (P := P) (c2.1.1.1.trans ha'.1.1) h10 hlt ?_
      rw [(c2.1.2.2 q (by omega)).2.1, y2]
      exact s9_bury (w := 67) g2.1.1 (by rw [gNote_th u5]; exact c2) ht y3 (fun M3 c3 f3 => s9_climb (w := 67) c3 wd (fun M4 c4 f4 => fin M4 c4 (f3.trans f4)))
