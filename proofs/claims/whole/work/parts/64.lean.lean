/-! A DAY: the advice, the doctrine -/
def gAdv0 (P : Nat) (V : Mem) : Mem := if P = 0 then V else xu V 167 83 0
def gAdv (P p : Nat) (V : Mem) : Mem := if V 167 (83 + p + 1) = 0 then V else gNote 4 (nI p) (heard V P p (V 167 (83 + p + 1) - 100)) (xu (xu V 167 (83 + p) (heard V P p (V 167 (83 + p + 1) - 100) + 100)) 167 (83 + p + 1) 0)
theorem gAdv_GF {P p : Nat} {V : Mem} : GF V (gAdv P p V) := by
  unfold gAdv
  split
  · exact GF.refl V
  · exact (((GF.refl V).up _ _).up _ _).trans (GF_note _ _ _ _)
theorem gAdv_WW {P N p : Nat} {V : Mem} (hW : WW V P N) (hp : p + 1 < P) : WW (gAdv P p V) P N := by
  unfold gAdv
  split
  · exact hW
  · exact WW_note (WW_adv (p := p + 1) (WW_adv hW (by omega)) hp)
theorem gAdv_z {P p : Nat} {V : Mem} (h : V 167 (83 + p + 1) = 0) : gAdv P p V = V := by unfold gAdv; rw [if_pos h]
theorem gAdv_n {P p : Nat} {V : Mem} (h : ¬ V 167 (83 + p + 1) = 0) : gAdv P p V = gNote 4 (nI p) (heard V P p (V 167 (83 + p + 1) - 100)) (xu (xu V 167 (83 + p) (heard V P p (V 167 (83 + p + 1) - 100) + 100)) 167 (83 + p + 1) 0) := by unfold gAdv; rw [if_neg h]
theorem sub100 {x : Int32} : x - 100 = -100 ↔ x = 0 := by grind
theorem add100 (x : Int32) : x + 100 - 100 = x := by grind
theorem s0_advice {Q : Mem → Prop} {w : Nat} {M0 V M : Mem} {P N : Nat} (hg : CGd P N w M0 V M) (h : ∀ M', CGd P N w M0 (fo (gAdv P) (gAdv0 P V) (P - 1)) M' → Q M') : FX0_lowerAdvice Q 1 w M := by
  obtain ⟨h10, h14, -, -⟩ := hg.1.1.le
  have go : ∀ (U M1 : Mem), CGd P N w M0 U M1 → (∀ M', CGd P N w M0 (fo (gAdv P) U (P - 1)) M' → Q M') → NX0_lowerAdvice_17 Q 1 w 0 M1 := by
    intro U M1 g1 hq
    unfold NX0_lowerAdvice_17
    refine xlp_rel (gAdv P) U (P - 1) (fun k U a => a.1 = nI k ∧ CGd P N w M0 U a.2) (0, M1) ⟨rfl, g1⟩ ?_ ?_
    · rintro ⟨x, M2⟩ B ⟨hx, g2⟩
      have hx : x = nI (P - 1) := hx
      subst hx
      have g2 : CGd P N w M0 (fo (gAdv P) U (P - 1)) M2 := g2
      show lbX0_lowerAdvice_17 Q 1 w (fun l3 M => B (l3, M)) (nI (P - 1)) M2
      unfold lbX0_lowerAdvice_17
      rw [(pn_of g2.1.1 g2.2.1.1.1).1, nI_1]
      exact ⟨fun _ => hq M2 g2, fun hc => absurd (nI_le (by omega) (by omega)) hc⟩
    · rintro k ⟨x, M2⟩ B hk ⟨hx, g2⟩ hB
      have hx : x = nI k := hx
      subst hx
      have g2 : CGd P N w M0 (fo (gAdv P) U k) M2 := g2
      show lbX0_lowerAdvice_17 Q 1 w (fun l3 M => B (l3, M)) (nI k) M2
      have c2 := g2.2.1.1
      obtain ⟨g, ha, hb⟩ := id g2.1.1
      unfold lbX0_lowerAdvice_17
      rw [(pn_of g2.1.1 c2.1).1, nI_1, ixn (by omega), ixn (by omega), show M2 (w + 3) (k + 1) = fo (gAdv P) U k 167 (83 + k + 1) - 100 from (c2.1.2.2 (k + 1) (by omega)).2.2]
      refine ⟨fun hc => absurd hc (nI_ge (by omega) (by omega)), fun _ => ⟨vp_in_nI (by omega) (by decide), ?_⟩⟩
      rintro y rfl
      rw [sub100]
      refine ⟨fun hz => hB (_, M2) ⟨rfl, by rw [gAdv_z hz]; exact g2⟩, fun hz => s0_adviceAt (CB_w c2) c2.1 g2.2.1.2.1 g2.1.2.1.1 ha (by omega) (fun M3 s3 => ⟨vp_in_nI (by omega) (by decide), ?_⟩)⟩
      rintro M4 rfl
      refine ⟨vp_in_nI (by omega) (by decide), ?_⟩
      rintro M5 rfl
      refine ⟨vp_in_nI (by omega) (by decide), ?_⟩
      rw [xu_ne (M := xu M3 (w + 3) k _) _ (by omega), xu_same]
      have c5 := CB_up (d := 3) (i := k + 1) (v := -100) (v2 := 0) (CB_up (d := 3) (i := k) (v := heard (fo (gAdv P) U k) P k (fo (gAdv P) U k 167 (83 + k + 1) - 100)) (v2 := heard (fo (gAdv P) U k) P k (fo (gAdv P) U k 167 (83 + k + 1) - 100) + 100) (CB_18 c2 s3) (by simp [wdom]; omega) (add100 _)) (by simp [wdom]; omega) (by decide)
      have w5 : WW (xu (xu (fo (gAdv P) U k) 167 (83 + k) (heard (fo (gAdv P) U k) P k (fo (gAdv P) U k 167 (83 + k + 1) - 100) + 100)) 167 (83 + k + 1) 0) P N := WW_adv (p := k + 1) (WW_adv g2.1.1 (by omega)) (by omega)
      obtain ⟨g5, ha5, hb5⟩ := w5
      refine s9_note c5 ha5.n2 (fun M6 c6 f6 => hB (_, M6) ⟨rfl, ?_⟩)
      refine g2.step (gAdv_WW g2.1.1 (by omega)) gAdv_GF (by rw [gAdv_n hz]; exact c6) (FR.trans ?_ f6)
      exact FR.up (d := 3) (FR.up (d := 3) (FR_18 s3) (by decide) _ _) (by decide) _ _
  unfold FX0_lowerAdvice
  rw [(pn_of hg.1.1 hg.2.1.1.1).1]
  unfold gAdv0 at h
  refine ⟨fun hc => go V M hg ?_, fun hc => ?_⟩
  · have : P = 0 := by
      rcases Nat.eq_zero_or_pos P with z | z
      · exact z
      · exact absurd hc (nI_nle z (by omega))
    rwa [if_pos this] at h
  · have hp : P ≠ 0 := by rintro rfl; exact hc (by decide)
    rw [if_neg hp] at h
    rintro M7 rfl
    exact go _ _ (hg.step (WW_adv (p := 0) hg.1.1 (by omega)) ((GF.refl V).up _ _) (CB_up (d := 3) (i := 0) (v2 := 0) hg.2.1.1 (by decide) (by decide)) (FR.up (d := 3) (FR.refl w M) (by decide) _ _)) h
theorem ix83b {k : Nat} (h : k < 1000) : ix (83 + nI k + 1) = 83 + k + 1 := ixb 83 1 (by omega)
theorem vp83b {k : Nat} (h : k + 1 < 10) : vp_in (83 + nI k + 1) 107 := vpb 83 1 (by omega) (by decide)
theorem s12_advice {Q : Mem → Prop} {M0 V M : Mem} {P N : Nat} (hg : RGd P N M0 V M) (h : ∀ M', RGd P N M0 (fo (gAdv P) (gAdv0 P V) (P - 1)) M' → Q M') : FX12_adviceGoes Q 166 M := by
  obtain ⟨h10, h14, e6, -⟩ := hg.1.1.le
  have go : ∀ (U M1 : Mem), RGd P N M0 U M1 → (∀ M', RGd P N M0 (fo (gAdv P) U (P - 1)) M' → Q M') → NX12_adviceGoes_17 Q 166 0 M1 := by
    intro U M1 g1 hq
    unfold NX12_adviceGoes_17
    refine xlp_rel (gAdv P) U (P - 1) (fun k U a => a.1 = nI k ∧ RGd P N M0 U a.2) (0, M1) ⟨rfl, g1⟩ ?_ ?_
    · rintro ⟨x, M2⟩ B ⟨hx, g2⟩
      have hx : x = nI (P - 1) := hx
      subst hx
      have g2 : RGd P N M0 (fo (gAdv P) U (P - 1)) M2 := g2
      show lbX12_adviceGoes_17 Q 166 (fun l3 M => B (l3, M)) (nI (P - 1)) M2
      unfold lbX12_adviceGoes_17
      rw [show M2 166 6 = nI P from (g2.2.1.n 6).trans g2.1.1.le.2.2.1, nI_1]
      exact ⟨fun _ => hq M2 g2, fun hc => absurd (nI_le (by omega) (by omega)) hc⟩
    · rintro k ⟨x, M2⟩ B hk ⟨hx, g2⟩ hB
      have hx : x = nI k := hx
      subst hx
      have g2 : RGd P N M0 (fo (gAdv P) U k) M2 := g2
      show lbX12_adviceGoes_17 Q 166 (fun l3 M => B (l3, M)) (nI k) M2
      obtain ⟨g, ha, hb⟩ := id g2.1.1
      unfold lbX12_adviceGoes_17
      rw [show M2 166 6 = nI P from (g2.2.1.n 6).trans ha.1.1, nI_1, ix83b (by omega), ix83 (by omega), show M2 (166 + 1) (83 + k + 1) = fo (gAdv P) U k 167 (83 + k + 1) from g2.2.1.r _]
      refine ⟨fun hc => absurd hc (nI_ge (by omega) (by omega)), fun _ => ⟨vp83b (by omega), fun hz => ⟨vp83b (by omega), s12_heardAs g2.2.1 g2.1.2.1 ha (by omega) (fun M3 r3 l3 => ⟨vp83 (by omega), ?_⟩)⟩, fun hz => hB (_, M2) ⟨rfl, by rw [gAdv_z hz]; exact g2⟩⟩⟩
      rintro M4 rfl
      refine ⟨vp83b (by omega), ?_⟩
      rintro M5 rfl
      have w5 : WW (xu (xu (fo (gAdv P) U k) 167 (83 + k) (heard (fo (gAdv P) U k) P k (fo (gAdv P) U k 167 (83 + k + 1) - 100) + 100)) 167 (83 + k + 1) 0) P N := WW_adv (p := k + 1) (WW_adv g2.1.1 (by omega)) (by omega)
      obtain ⟨g5, ha5, hb5⟩ := w5
      refine s12_notes ((r3.up _ _ _).up _ _ _) ha5.n2 (fun M6 r6 l6 => hB (_, M6) ⟨rfl, ?_⟩)
      refine g2.step (gAdv_WW g2.1.1 (by omega)) gAdv_GF (by rw [gAdv_n hz]; exact r6) (LO.trans ?_ l6)
      exact (l3.up (by decide) _ _).up (by decide) _ _
  unfold FX12_adviceGoes
  rw [show M 166 6 = nI P from (hg.2.1.n 6).trans e6]
  unfold gAdv0 at h
  refine ⟨fun hc => go V M hg ?_, fun hc => ?_⟩
  · have : P = 0 := by
      rcases Nat.eq_zero_or_pos P with z | z
      · exact z
      · exact absurd hc (nI_nle z (by omega))
    rwa [if_pos this] at h
  · have hp : P ≠ 0 := by rintro rfl; exact hc (by decide)
    rw [if_neg hp] at h
    rintro M7 rfl
    exact go _ _ (hg.step (WW_adv (p := 0) hg.1.1 (by omega)) ((GF.refl V).up _ _) (hg.2.1.up _ _ _) ((LO.refl M).up (by decide) _ _)) h
def gLean (P p : Nat) (V : Mem) : Mem := if V 167 (73 + p) = 0 then V else xu V 167 (21 + ix (V 167 (73 + p) - 1)) (hd (V 167 (21 + ix (V 167 (73 + p) - 1)) + tell V P (ix (V 167 (73 + p) - 1)) 2) (-99) 99)
theorem gLean_z {P p : Nat} {V : Mem} (h : V 167 (73 + p) = 0) : gLean P p V = V := by unfold gLean; rw [if_pos h]
theorem gLean_t {P p t : Nat} {V : Mem} (h : V 167 (73 + p) = nI (t + 1)) (ht : t < 14) : gLean P p V = xu V 167 (21 + t) (hd (V 167 (21 + t) + tell V P t 2) (-99) 99) := by
  unfold gLean; rw [if_neg (by rw [h]; exact nI_ne0 (by omega) (by omega)), h, nI_s1, ixn (by omega)]
theorem gLean_GF {P p : Nat} {V : Mem} : GF V (gLean P p V) := by
  unfold gLean
  split
  · exact GF.refl V
  · exact (GF.refl V).up _ _
theorem gLean_WW {P N t : Nat} {V : Mem} (hW : WW V P N) (ht : t < 14) : WW (xu V 167 (21 + t) (hd (V 167 (21 + t) + tell V P t 2) (-99) 99)) P N := by
  have b := hd99 (V 167 (21 + t) + tell V P t 2)
  exact WW_doc hW ht ⟨Int32.le_iff_toInt_le.mpr b.1, Int32.le_iff_toInt_le.mpr b.2⟩
theorem s0_lean {Q : Mem → Prop} {w : Nat} {M0 V M : Mem} {P N : Nat} (hg : CGd P N w M0 V M) (h : ∀ M', CGd P N w M0 (fo (gLean P) V P) M' → Q M') : FX0_leanAll Q 1 w M := by
  obtain ⟨h10, h14, -, -⟩ := hg.1.1.le
  unfold FX0_leanAll NX0_leanAll_2
  refine xlp_rel (gLean P) V P (fun k U a => a.1 = nI k ∧ CGd P N w M0 U a.2) (0, M) ⟨rfl, hg⟩ ?_ ?_
  · rintro ⟨x, M1⟩ B ⟨hx, g1⟩
    have hx : x = nI P := hx
    subst hx
    have g1 : CGd P N w M0 (fo (gLean P) V P) M1 := g1
    show lbX0_leanAll_2 Q 1 w (fun l3 M => B (l3, M)) (nI P) M1
    unfold lbX0_leanAll_2
    rw [(pn_of g1.1.1 g1.2.1.1.1).1]
    exact ⟨fun _ => h M1 g1, fun hc => absurd (nI_le (Nat.le_refl _) (by omega)) hc⟩
  · rintro k ⟨x, M1⟩ B hk ⟨hx, g1⟩ hB
    have hx : x = nI k := hx
    subst hx
    have g1 : CGd P N w M0 (fo (gLean P) V k) M1 := g1
    show lbX0_leanAll_2 Q 1 w (fun l3 M => B (l3, M)) (nI k) M1
    have c1 := g1.2.1.1
    obtain ⟨g, ha, hb⟩ := id g1.1.1
    unfold lbX0_leanAll_2
    rw [(pn_of g1.1.1 c1.1).1, nI_1]
    refine ⟨fun hc => absurd hc (nI_ge (by omega) (by omega)), fun _ => s9_sitterOn (P := P) (pn_of g1.1.1 c1.1).1 h10 hk ?_⟩
    rw [(c1.1.2.2 k (by omega)).2.1]
    rcases sit_of ha hk with ⟨z1, z2⟩ | ⟨t, ht, z1, z2⟩
    · rw [z2]
      exact s9_isSaint (P := N) (pn_of g1.1.1 c1.1).2 (by omega) (fun j hj e => absurd e.symm (m1_ne (by omega))) (fun _ => ⟨fun _ => hB (_, M1) ⟨rfl, by rw [gLean_z z1]; exact g1⟩, fun h => (by cases h)⟩)
    · rw [z2]
      refine s9_isSaint (P := N) (pn_of g1.1.1 c1.1).2 (by omega) (fun _ _ _ => ⟨fun h => (by cases h), fun _ => ⟨vp_in_nI (by omega) (by decide), s2_tells (CB_w c1) c1.1 g1.2.1.2.1 g1.1.2.1.1 ha ht (Or.inr (Or.inr rfl)) (fun M2 s2 => ?_)⟩⟩) (fun q => absurd rfl (q t ht))
      rintro y rfl
      rw [ixn (by omega), show M1 (w + 6) t = fo (gLean P) V k 167 (21 + t) from (c1.1.2.1 t (by omega)).2.2.1]
      refine s11_held (by decide) ⟨vp_in_nI (by omega) (by decide), ?_⟩
      rintro M3 rfl
      have e := gLean_t (P := P) z1 (by omega)
      exact hB (_, _) ⟨rfl, g1.step (by rw [e]; exact gLean_WW g1.1.1 (by omega)) gLean_GF (by rw [e]; exact CB_up (d := 6) (i := t) (CB_18 c1 s2) (by simp [wdom]; omega) (sub0 _)) (FR.up (d := 6) (FR_18 s2) (by decide) _ _)⟩
theorem s12_lean {Q : Int32 → Mem → Prop} {M0 V M : Mem} {P N : Nat} (hg : RGd P N M0 V M) (h : ∀ M', RGd P N M0 (fo (gLean P) V P) M' → NX12_goesBy_141 Q 166 0 0 M') : NX12_goesBy_80 Q 166 0 M := by
  obtain ⟨h10, h14, e6, -⟩ := hg.1.1.le
  unfold NX12_goesBy_80
  refine xlp_rel (gLean P) V P (fun k U a => a.1 = nI k ∧ RGd P N M0 U a.2) (0, M) ⟨rfl, hg⟩ ?_ ?_
  · rintro ⟨x, M1⟩ B ⟨hx, g1⟩
    have hx : x = nI P := hx
    subst hx
    have g1 : RGd P N M0 (fo (gLean P) V P) M1 := g1
    show lbX12_goesBy_80 Q 166 (fun l3 M => B (l3, M)) (nI P) M1
    unfold lbX12_goesBy_80
    rw [show M1 166 6 = nI P from (g1.2.1.n 6).trans g1.1.1.le.2.2.1]
    exact ⟨fun _ => h M1 g1, fun hc => absurd (nI_le (Nat.le_refl _) (by omega)) hc⟩
  · rintro k ⟨x, M1⟩ B hk ⟨hx, g1⟩ hB
    have hx : x = nI k := hx
    subst hx
    have g1 : RGd P N M0 (fo (gLean P) V k) M1 := g1
    show lbX12_goesBy_80 Q 166 (fun l3 M => B (l3, M)) (nI k) M1
    obtain ⟨g, ha, hb⟩ := id g1.1.1
    unfold lbX12_goesBy_80
    rw [show M1 166 6 = nI P from (g1.2.1.n 6).trans ha.1.1, nI_1]
    refine ⟨fun hc => absurd hc (nI_ge (by omega) (by omega)), fun _ => s12_sitterOf (by omega) ?_⟩
    rw [g1.2.1.r]
    rcases sit_of ha hk with ⟨z1, z2⟩ | ⟨t, ht, z1, z2⟩
    · rw [z2]
      exact ⟨fun _ => hB (_, M1) ⟨rfl, by rw [gLean_z z1]; exact g1⟩, fun hc => absurd rfl hc⟩
    · rw [z2]
      refine ⟨fun hc => absurd hc (m1_ne (by omega)), fun _ => ⟨vp21 (by omega), s12_leansOf g1.2.1 g1.1.2.1 ha ht (fun M2 r2 l2 => s12_held ⟨vp21 (by omega), ?_⟩)⟩⟩
      rintro M3 rfl
      rw [ix21 (by omega), show M1 (166 + 1) (21 + t) = fo (gLean P) V k 167 (21 + t) from g1.2.1.r _]
      have e := gLean_t (P := P) z1 (by omega)
      exact hB (_, _) ⟨rfl, g1.step (by rw [e]; exact gLean_WW g1.1.1 (by omega)) gLean_GF (by rw [e]; exact r2.up _ _ _) (l2.up (by decide) _ _)⟩
