/-! A DAY -/
def gSky (V : Mem) : Mem := if lastm (fun k => V 182 (2 * k)) (fun k => V 182 (2 * k + 1)) (V 167 0) (ix (V 166 33)) = -1 then V else xu V 167 5 (lastm (fun k => V 182 (2 * k)) (fun k => V 182 (2 * k + 1)) (V 167 0) (ix (V 166 33)))
theorem gSky_GF {V : Mem} : GF V (gSky V) := by
  unfold gSky
  split
  · exact GF.refl V
  · exact (GF.refl V).up _ _
theorem gSky_WW {V : Mem} {P N : Nat} (hW : WW V P N) : WW (gSky V) P N := by
  unfold gSky
  split
  · exact hW
  · exact WW_free hW (by decide) (by simp [wfr])
def gDay1 (P : Nat) (V : Mem) : Mem := gSky (fo (gDeed P) V (ix (V 166 35)))
def gDay2 (P : Nat) (V : Mem) : Mem := gLeft (fo (gBask P) (gDay1 P V) P)
def gDay3 (P : Nat) (V : Mem) : Mem := fo gHung (gDay2 P V) (ix (gDay2 P V 167 6))
def gDay4 (P : Nat) (V : Mem) : Mem := fo (gLean P) (fo (gAdv P) (gAdv0 P (gDay3 P V)) (P - 1)) P
def gDay5 (P N : Nat) (V : Mem) : Int32 × Mem := fo (gMay P) (0, gDay4 P V) N
def gDay (P N : Nat) (V : Mem) : Int32 × Mem := ((gDay5 P N V).1, xu (gClimb P (gDay5 P N V).2) 167 0 (gClimb P (gDay5 P N V).2 167 0 + 1))
theorem gAdv0_GF {P : Nat} {V : Mem} : GF V (gAdv0 P V) := by
  unfold gAdv0
  split
  · exact GF.refl V
  · exact (GF.refl V).up _ _
theorem may_GF (P : Nat) (V : Mem) : ∀ n, GF V (fo (gMay P) ((0, V) : Int32 × Mem) n).2
  | 0 => GF.refl V
  | n + 1 => (may_GF P V n).trans gMay_GF
theorem gDay4_GF {P : Nat} {V : Mem} : GF V (gDay4 P V) :=
  ((((GF_fo (fun _ _ => gDeed_GF) V _).trans gSky_GF).trans (((GF_fo (fun _ _ => gBask_GF) _ _).up _ _).up _ _)).trans (GF_fo (fun _ _ => hung_GF) _ _)).trans (gAdv0_GF.trans ((GF_fo (fun _ _ => gAdv_GF) _ _).trans (GF_fo (fun _ _ => gLean_GF) _ _)))
theorem gDay_GF {P N : Nat} {V : Mem} : GF V (gDay P N V).2 := ((gDay4_GF.trans (may_GF P _ N)).trans (GF_climb P _)).up _ _
theorem s0_passDay {Q : Int32 → Mem → Prop} {w : Nat} {th : Int32} {M0 V M : Mem} {P N : Nat} (hg : CGd P N w M0 V M) (hth : (th = 0 ∧ V 166 5 = 0) ∨ (th = 1 ∧ V 166 5 = 1)) (h : ∀ M', CGd P N w M0 (gDay P N V).2 M' → WFz (gDay P N V).2 P → Q (gDay P N V).1 M') : FX0_passDay Q 1 w th M := by
  obtain ⟨h10, h14, -, -⟩ := hg.1.1.le
  obtain ⟨n, n16, en⟩ : ∃ n, n ≤ 16 ∧ V 166 35 = nI n := by
    obtain ⟨n, q1, q2, -⟩ := hg.1.2.2.1
    exact ⟨n, q1, q2⟩
  have go : ∀ M1, CGd P N w M0 (gDay1 P V) M1 → NX0_passDay_30 Q 1 w th M1 := by
    intro M1 g1
    unfold NX0_passDay_30
    refine s0_basket g1 (fun M2 g2 => ?_)
    have g2 : CGd P N w M0 (gDay2 P V) M2 := g2
    obtain ⟨g, ha, hb⟩ := id g2.1.1
    refine s9_hunger g2 ha.1.2.2.1 ha.1.2.2.2.2.2 (fun M3 g3 => ?_)
    have e3 : gDay3 P V = fo gHung (gDay2 P V) g := by unfold gDay3; rw [ha.1.2.2.1, ixn (by have := ha.1.2.2.2.2.2; omega)]
    rw [← e3] at g3
    refine s0_advice g3 (fun M4 g4 => s0_lean g4 (fun M5 g5 => ?_))
    have g5 : CGd P N w M0 (gDay4 P V) M5 := g5
    have v5 : gDay4 P V 166 5 = V 166 5 := gDay4_GF 166 5 (by decide) (by decide)
    refine s0_letDie g5 (by rw [v5]; exact hth) (fun M6 g6 => s9_climb g6.2.1.1 g6.1.1 (fun M7 c7 f7 => ?_))
    have g6 : CGd P N w M0 (gDay5 P N V).2 M6 := g6
    rintro M8 rfl
    rw [show M7 w 15 = gClimb P (gDay5 P N V).2 167 0 from c7.1.1.2.2.1]
    have w7 : WW (gClimb P (gDay5 P N V).2) P N := WW_climb (Nat.le_refl P) g6.1.1
    refine h _ (g6.step (WW_free w7 (by decide) (by simp [wfr])) ((GF_climb P _).up _ _) (CB_up (d := 0) (i := 15) c7 rfl (sub0 _)) (FR.up (d := 0) f7 (by decide) _ _)) (WFz_free (WFz_climb g6.1.1) h10 (by decide) (by decide))
  unfold FX0_passDay
  refine s4_carry hg en n16 (fun M1 g1 => ?_)
  have e35 : fo (gDeed P) V (ix (V 166 35)) = fo (gDeed P) V n := by rw [en, ixn (by omega)]
  obtain ⟨m, m16, em⟩ := g1.1.2.2.2
  have cs := g1.2.1.2.2.2
  have c1 := g1.2.1.1
  rw [show M1 w 15 = fo (gDeed P) V n 167 0 from c1.1.1.2.2.1]
  refine s6_weatherOn (d := 19) (n := m) (by rw [← em]; exact cs.1) m16 ?_
  have el : lastm (M1 (19 + 1)) (M1 (19 + 2)) (fo (gDeed P) V n 167 0) m = lastm (fun k => fo (gDeed P) V n 182 (2 * k)) (fun k => fo (gDeed P) V n 182 (2 * k + 1)) (fo (gDeed P) V n 167 0) m := lastm_congr (fun k hk => cs.2 k (by omega) (by rw [em]; exact nI_lt hk (by omega)))
  rw [el]
  have es : gDay1 P V = if lastm (fun k => fo (gDeed P) V n 182 (2 * k)) (fun k => fo (gDeed P) V n 182 (2 * k + 1)) (fo (gDeed P) V n 167 0) m = -1 then fo (gDeed P) V n else xu (fo (gDeed P) V n) 167 5 (lastm (fun k => fo (gDeed P) V n 182 (2 * k)) (fun k => fo (gDeed P) V n 182 (2 * k + 1)) (fo (gDeed P) V n 167 0) m) := by
    unfold gDay1 gSky; rw [e35, em, ixn (by omega)]
  refine ⟨fun q => go M1 ?_, fun q => ?_⟩
  · rw [es, if_pos q]; exact g1
  · rintro M2 rfl
    refine go _ ?_
    rw [es, if_neg q]
    exact g1.step (WW_free g1.1.1 (by decide) (by simp [wfr])) ((GF.refl _).up _ _) (CB_up (d := 0) (i := 14) c1 rfl (sub0 _)) (FR.up (d := 0) (FR.refl w M1) (by decide) _ _)
theorem s12_die {Q : Int32 → Mem → Prop} {M0 V M : Mem} {P N : Nat} (hg : RGd P N M0 V M) (h : ∀ M', RGd P N M0 (xu (gClimb P (fo (gMay P) (0, V) N).2) 167 0 (gClimb P (fo (gMay P) (0, V) N).2 167 0 + 1)) M' → Q (fo (gMay P) (0, V) N).1 M') : NX12_goesBy_141 Q 166 0 0 M := by
  obtain ⟨h10, h14, -, -⟩ := hg.1.1.le
  unfold NX12_goesBy_141
  refine xlp_rel (gMay P) ((0, V) : Int32 × Mem) N (fun k s a => a.1 = s.1 ∧ a.2.1 = nI k ∧ RGd P N M0 s.2 a.2.2) (0, 0, M) ⟨rfl, rfl, hg⟩ ?_ ?_
  · rintro ⟨y, x, M1⟩ B ⟨hy, hx, g1⟩
    have hx : x = nI N := hx
    have hy : y = (fo (gMay P) (0, V) N).1 := hy
    subst hx hy
    have g1 : RGd P N M0 (fo (gMay P) (0, V) N).2 M1 := g1
    show lbX12_goesBy_141 Q 166 (fun l3 l4 M => B (l3, l4, M)) _ (nI N) M1
    unfold lbX12_goesBy_141
    rw [show M1 166 7 = nI N from (g1.2.1.n 7).trans g1.1.1.le.2.2.2]
    refine ⟨fun _ => s12_allClimb g1.2.1 g1.1.1 (fun M2 r2 l2 => ?_), fun hc => absurd (nI_le (Nat.le_refl _) (by omega)) hc⟩
    rintro M3 rfl
    rw [show M2 (166 + 1) 0 = gClimb P (fo (gMay P) (0, V) N).2 167 0 from r2.r 0]
    exact h _ (g1.step (WW_free (WW_climb (Nat.le_refl P) g1.1.1) (by decide) (by simp [wfr])) ((GF_climb P _).up _ _) (r2.up _ _ _) (l2.up (by decide) _ _))
  · rintro k ⟨y, x, M1⟩ B hk ⟨hy, hx, g1⟩ hB
    have hx : x = nI k := hx
    have hy : y = (fo (gMay P) (0, V) k).1 := hy
    subst hx hy
    generalize fo (gMay P) (0, V) k = s at hB g1 ⊢
    have g1 : RGd P N M0 s.2 M1 := g1
    show lbX12_goesBy_141 Q 166 (fun l3 l4 M => B (l3, l4, M)) s.1 (nI k) M1
    obtain ⟨g, ha, hb⟩ := id g1.1.1
    have hw2 := gMay_WW (P := P) (s := s) g1.1.1 hk h14 (ha.2.2.2.2.2.2.1 k (by omega))
    have fin : ∀ M2, RV (gMay P k s).2 M2 → LO M1 M2 → B ((gMay P k s).1, nI (k + 1), M2) := fun M2 c2 f2 => hB _ ⟨rfl, rfl, g1.step hw2 gMay_GF c2 f2⟩
    unfold lbX12_goesBy_141
    rw [show M1 166 7 = nI N from (g1.2.1.n 7).trans ha.1.2.1, nI_1, ix49 (by omega), ix7 (by omega), show M1 (166 + 1) (49 + k) = s.2 167 (49 + k) from g1.2.1.r _, show M1 (166 + 1) (7 + k) = s.2 167 (7 + k) from g1.2.1.r _]
    refine ⟨fun hc => absurd hc (nI_ge (by omega) (by omega)), fun _ => ⟨vp49 (by omega), fun nd => ⟨vp7 (by omega), s12_lesser ⟨vp7 (by omega), ?_⟩⟩, fun hd => ?_⟩⟩
    · rintro M2 rfl
      have hd : s.2 167 (49 + k) = 0 := by
        rcases ha.2.2.2.2.2.2.1 k (by omega) with q | q
        · exact q
        · exact absurd q nd
      have r2 : RV (gOld k s.2) (xu M1 167 (7 + k) (mn 120 (s.2 167 (7 + k) + 1))) := g1.2.1.up _ _ _
      have l2 : LO M1 (xu M1 167 (7 + k) (mn 120 (s.2 167 (7 + k) + 1))) := (LO.refl M1).up (by decide) _ _
      have wo := gOld_WW (t := k) g1.1.1 (by omega)
      have gd := g1.step wo ((GF.refl s.2).up _ _) r2 l2
      refine s12_isEnding gd.1 r2 hk (fun M3 r3 l3 => ?_)
      have wU := gMay1_WW (P := P) (t := k) wo
      have em : gMay P k s = if (gMay1 P k (gOld k s.2)).1 = true then (s.1 + 1, gDie P k (gMay1 P k (gOld k s.2)).2) else (s.1, (gMay1 P k (gOld k s.2)).2) := by unfold gMay; rw [if_neg nd]
      refine ⟨fun hb => ?_, fun hb => ?_⟩
      · rw [if_pos hb] at em
        rw [em] at fin
        refine s12_dies wU r3 hk ?_ (fun M4 r4 l4 => fin M4 r4 ((l2.trans l3).trans l4))
        rw [gMay1_p.2 _ (by omega)]
        unfold gOld
        rw [xu_ne _ _ (by omega)]
        exact hd
      · rw [if_neg (by rw [hb]; decide)] at em
        rw [em] at fin
        exact fin M3 r3 (l2.trans l3)
    · have e : gMay P k s = s := by unfold gMay; rw [if_pos hd]
      rw [e] at fin
      exact fin M1 g1.2.1 (LO.refl M1)
theorem s12_goesBy {Q : Int32 → Mem → Prop} {M0 V M : Mem} {P N : Nat} (hg : RGd P N M0 V M) (h : ∀ M', RGd P N M0 (gDay P N V).2 M' → Q (gDay P N V).1 M') : FX12_goesBy Q 166 M := by
  obtain ⟨h10, h14, -, -⟩ := hg.1.1.le
  obtain ⟨n, n16, en⟩ : ∃ n, n ≤ 16 ∧ V 166 35 = nI n := by
    obtain ⟨n, q1, q2, -⟩ := hg.1.2.2.1
    exact ⟨n, q1, q2⟩
  have e35 : fo (gDeed P) V (ix (V 166 35)) = fo (gDeed P) V n := by rw [en, ixn (by omega)]
  have go : ∀ M1, RGd P N M0 (gDay1 P V) M1 → NX12_goesBy_70 Q 166 M1 := by
    intro M1 g1
    unfold NX12_goesBy_70
    refine s12_basket g1 (fun g M2 g14 e6 g2 => ?_)
    have e3 : gDay3 P V = fo gHung (gDay2 P V) g := by unfold gDay3; rw [show gDay2 P V 167 6 = nI g from e6, ixn (by omega)]
    have g2 : RGd P N M0 (fo gHung (gDay2 P V) g) M2 := g2
    rw [← e3] at g2
    exact s12_advice g2 (fun M3 g3 => s12_lean g3 (fun M4 g4 => s12_die g4 h))
  unfold FX12_goesBy NX12_goesBy_2
  refine xlp_rel (gDeed P) V n (fun k U a => a.1 = nI k ∧ RGd P N M0 U a.2) (0, M) ⟨rfl, hg⟩ ?_ ?_
  · rintro ⟨x, M1⟩ B ⟨hx, g1⟩
    have hx : x = nI n := hx
    subst hx
    have g1 : RGd P N M0 (fo (gDeed P) V n) M1 := g1
    show lbX12_goesBy_2 Q 166 (fun l3 M => B (l3, M)) (nI n) M1
    unfold lbX12_goesBy_2
    have e35 : fo (gDeed P) V n 166 35 = nI n := (GF_fo (fun k U => gDeed_GF) V n 166 35 (by decide) (by decide)).trans en
    obtain ⟨m, m16, em⟩ := g1.1.2.2.2
    rw [show M1 166 35 = nI n from (g1.2.1.n 35).trans e35, show M1 (166 + 1) 0 = fo (gDeed P) V n 167 0 from g1.2.1.r 0]
    have el : lastm (fun k => M1 182 (2 * k)) (fun k => M1 182 (2 * k + 1)) (fo (gDeed P) V n 167 0) m = lastm (fun k => fo (gDeed P) V n 182 (2 * k)) (fun k => fo (gDeed P) V n 182 (2 * k + 1)) (fo (gDeed P) V n 167 0) m := lastm_congr (fun k hk => ⟨g1.2.1 182 _ (by decide) (by decide) (by decide), g1.2.1 182 _ (by decide) (by decide) (by decide)⟩)
    have es : gDay1 P V = if lastm (fun k => fo (gDeed P) V n 182 (2 * k)) (fun k => fo (gDeed P) V n 182 (2 * k + 1)) (fo (gDeed P) V n 167 0) m = -1 then fo (gDeed P) V n else xu (fo (gDeed P) V n) 167 5 (lastm (fun k => fo (gDeed P) V n 182 (2 * k)) (fun k => fo (gDeed P) V n 182 (2 * k + 1)) (fo (gDeed P) V n 167 0) m) := by
      unfold gDay1 gSky; rw [en, ixn (by omega), em, ixn (by omega)]
    refine ⟨fun _ => s12_skyOf ((g1.2.1.n 33).trans em) m16 ?_, fun hc => absurd (nI_le (Nat.le_refl _) (by omega)) hc⟩
    rw [el]
    refine ⟨fun q => go M1 ?_, fun q => s12_skyOf ((g1.2.1.n 33).trans em) m16 ?_⟩
    · rw [es, if_pos q]; exact g1
    · rw [el]
      rintro M2 rfl
      refine go _ ?_
      rw [es, if_neg q]
      exact g1.step (WW_free g1.1.1 (by decide) (by simp [wfr])) ((GF.refl _).up _ _) (g1.2.1.up _ _ _) ((LO.refl M1).up (by decide) _ _)
  · rintro k ⟨x, M1⟩ B hk ⟨hx, g1⟩ hB
    have hx : x = nI k := hx
    subst hx
    have g1 : RGd P N M0 (fo (gDeed P) V k) M1 := g1
    show lbX12_goesBy_2 Q 166 (fun l3 M => B (l3, M)) (nI k) M1
    have e35 : fo (gDeed P) V k 166 35 = nI n := (GF_fo (fun k U => gDeed_GF) V k 166 35 (by decide) (by decide)).trans en
    unfold lbX12_goesBy_2
    rw [show M1 166 35 = nI n from (g1.2.1.n 35).trans e35, (nI4 (by omega)).1, ixn (by omega), nI_1, show M1 (166 + 17) (4 * k) = fo (gDeed P) V k 183 (4 * k) from g1.2.1 183 _ (by decide) (by decide) (by decide), show M1 (166 + 1) 0 = fo (gDeed P) V k 167 0 from g1.2.1.r 0]
    refine ⟨fun hc => absurd hc (nI_ge (by omega) (by omega)), fun _ => ⟨vp_in_nI (by omega) (by decide), fun hc => ?_, fun hc => ?_⟩⟩
    · have : gDeed P k (fo (gDeed P) V k) = fo (gDeed P) V k := gDeed_no hc
      exact hB (nI (k + 1), M1) ⟨rfl, by rw [this]; exact g1⟩
    · exact s12_does g1.1 g1.2.1 e35 n16 hk hc (fun M' r' l' => hB (nI (k + 1), M') ⟨rfl, g1.step (gDeed_WW g1.1 e35 n16 hk) gDeed_GF r' l'⟩)
