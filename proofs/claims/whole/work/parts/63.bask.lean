/-! A DAY: the basket, the ground, the advice, the doctrine -/
theorem CB_18 {w : Nat} {V M M2 : Mem} (h : CB w V M) (h2 : S18 M M2) : CB w V M2 := by
  have hw := CB_w h
  exact CB_fr h (fun c i h1 h3 => h2 c i (by omega))
theorem FR_18 {w : Nat} {M M2 : Mem} (h2 : S18 M M2) : FR w M M2 := fun c i _ h => h2 c i h
theorem DS_18 {w : Nat} {V M M2 : Mem} (h : DS w V M) (h2 : S18 M M2) : DS w V M2 := DS_step h (CB_18 h.1 h2) (GF.refl V) (FR_18 h2)
def gEat (P t : Nat) (V : Mem) : Mem :=
  if mn (tell V P t 0) (V 167 3) ≤ 0 then xu (xu V 167 3 (V 167 3 - mn (tell V P t 0) (V 167 3))) 167 (35 + t) (if mn (tell V P t 0) (V 167 3) = tell V P t 0 then mx 0 (V 167 (35 + t) - 10) else mn 99 (V 167 (35 + t) + 5 * (tell V P t 0 - mn (tell V P t 0) (V 167 3))))
  else gNote 0 (nI t) (mn (tell V P t 0) (V 167 3)) (xu (xu V 167 3 (V 167 3 - mn (tell V P t 0) (V 167 3))) 167 (35 + t) (if mn (tell V P t 0) (V 167 3) = tell V P t 0 then mx 0 (V 167 (35 + t) - 10) else mn 99 (V 167 (35 + t) + 5 * (tell V P t 0 - mn (tell V P t 0) (V 167 3)))))
theorem gEat_GF {P t : Nat} {V : Mem} : GF V (gEat P t V) := by
  unfold gEat
  split
  · exact ((GF.refl V).up _ _).up _ _
  · exact (((GF.refl V).up _ _).up _ _).trans (GF_note _ _ _ _)
theorem WW_note {V : Mem} {P N : Nat} {a b c : Int32} (h : WW V P N) : WW (gNote a b c V) P N := by
  obtain ⟨g, ha, hb⟩ := h
  exact ⟨g, WF_note ha hb⟩
theorem gEat_WW {P N t : Nat} {V : Mem} (hw : WW V P N) (ht : t < 14) : WW (gEat P t V) P N := by
  have : ∀ x y, WW (xu (xu V 167 3 x) 167 (35 + t) y) P N := fun x y => WW_free (WW_free hw (by decide) (by simp [wfr])) (by omega) (by simp [wfr]; omega)
  unfold gEat
  split
  · exact this _ _
  · exact WW_note (this _ _)
theorem s9_eat {Q : Mem → Prop} {w : Nat} {V M : Mem} {P N t : Nat} (hW : WW V P N) (hC : CB w V M) (ht : t < N) (h : ∀ M', CB w (gEat P t V) M' → FR w M M' → Q M') : FX9_eat Q w (nI t) (tell V P t 0) M := by
  obtain ⟨g, ha, hb⟩ := hW
  have h14 := ha.1.2.2.2.2.1
  have v14 : vp_in (nI t) 14 := vp_in_nI (by omega) (by decide)
  have e13 : M w 13 = V 167 3 := hC.1.1.2.2.2.2.2.1
  unfold FX9_eat
  refine s9_isSaint (P := N) (hC.1.1.2.1.trans ha.1.2.1) (by omega) (fun _ _ _ => ⟨fun _ => s_min ?_, fun h => (by cases h)⟩) (fun q => absurd rfl (q t ht))
  rw [e13]
  rintro M4 rfl
  have c4 := CB_up (d := 0) (i := 13) (v := V 167 3 - mn (tell V P t 0) (V 167 3)) hC rfl (sub0 _)
  have f4 : FR w M (xu M w 13 (V 167 3 - mn (tell V P t 0) (V 167 3))) := FR.up (d := 0) (FR.refl w M) (by decide) _ _
  have e7 : xu M w 13 (V 167 3 - mn (tell V P t 0) (V 167 3)) (w + 7) t = V 167 (35 + t) := (c4.1.2.1 t (by omega)).2.2.2.1.trans (xu_ne _ _ (by simp [lcC, lcJ]; omega))
  rw [ixn (by omega), e7]
  have fin : ∀ x, x = (if mn (tell V P t 0) (V 167 3) = tell V P t 0 then mx 0 (V 167 (35 + t) - 10) else mn 99 (V 167 (35 + t) + 5 * (tell V P t 0 - mn (tell V P t 0) (V 167 3)))) → NX9_eat_78 Q w (nI t) (mn (tell V P t 0) (V 167 3)) (xu (xu M w 13 (V 167 3 - mn (tell V P t 0) (V 167 3))) (w + 7) t x) := by
    rintro x rfl
    have c5 := CB_up (d := 7) (i := t) (v := (if mn (tell V P t 0) (V 167 3) = tell V P t 0 then mx 0 (V 167 (35 + t) - 10) else mn 99 (V 167 (35 + t) + 5 * (tell V P t 0 - mn (tell V P t 0) (V 167 3))))) c4 (by simp [wdom]; omega) (sub0 _)
    have f5 := FR.up (d := 7) f4 (by decide) t (if mn (tell V P t 0) (V 167 3) = tell V P t 0 then mx 0 (V 167 (35 + t) - 10) else mn 99 (V 167 (35 + t) + 5 * (tell V P t 0 - mn (tell V P t 0) (V 167 3))))
    unfold gEat at h
    unfold NX9_eat_78
    refine ⟨fun q => ?_, fun q => ?_⟩
    · rw [if_pos q] at h
      exact h _ c5 f5
    · rw [if_neg q] at h
      refine s9_note c5 ?_ (fun M' c' f' => h M' c' (f5.trans f'))
      show ∃ n, n ≤ 150 ∧ xu (xu V 167 3 _) 167 (35 + t) _ 167 2 = nI n
      rw [xu_ne _ _ (by omega), xu_ne _ _ (by omega)]
      exact ha.n2
  refine ⟨fun q => ⟨v14, s_min ⟨v14, ?_⟩⟩, fun q => ⟨v14, s_max ⟨v14, ?_⟩⟩⟩
  · rintro M6 rfl
    exact fin _ (by rw [if_neg q, Int32.mul_comm])
  · rintro M6 rfl
    exact fin _ (by rw [if_pos q])
theorem s12_eats {Q : Mem → Prop} {V M : Mem} {P N t : Nat} (hD : DV V P N) (hR : RV V M) (ht : t < N) (h : ∀ M', RV (gEat P t V) M' → LO M M' → Q M') : FX12_eats Q 166 (nI t) M := by
  obtain ⟨⟨g, ha, hb⟩, hl, -, -⟩ := hD
  have h14 := ha.1.2.2.2.2.1
  unfold FX12_eats
  refine s12_eatsOf hR hl ha ht (fun M4 r4 l4 => s12_lesser ?_)
  rw [show M4 (166 + 1) 3 = V 167 3 from r4.r 3]
  rintro M7 rfl
  have r7 : RV (xu V 167 3 (V 167 3 - mn (tell V P t 0) (V 167 3))) (xu M4 167 3 (V 167 3 - mn (tell V P t 0) (V 167 3))) := r4.up _ _ _
  have l7 : LO M (xu M4 167 3 (V 167 3 - mn (tell V P t 0) (V 167 3))) := l4.up (by decide) _ _
  have go : ∀ (U M8 : Mem), RV U M8 → LO M M8 → U 167 (35 + t) = V 167 (35 + t) → (∀ M', RV (xu U 167 (35 + t) (if mn (tell V P t 0) (V 167 3) = tell V P t 0 then mx 0 (V 167 (35 + t) - 10) else mn 99 (V 167 (35 + t) + 5 * (tell V P t 0 - mn (tell V P t 0) (V 167 3))))) M' → LO M M' → Q M') → NX12_eats_43 Q 166 (nI t) (tell V P t 0) (mn (tell V P t 0) (V 167 3)) M8 := by
    intro U M8 r8 l8 eU hq
    unfold NX12_eats_43 NX12_eats_97
    rw [ix35 (by omega), show M8 (166 + 1) (35 + t) = V 167 (35 + t) from (r8.r _).trans eU, show SHn (166 + 1) = 107 by decide]
    refine ⟨fun q => ⟨vp35 (by omega), s12_lesser ⟨vp35 (by omega), ?_⟩⟩, fun q => ⟨vp35 (by omega), s12_greater ⟨vp35 (by omega), ?_⟩⟩⟩
    · rintro M9 rfl
      rw [if_neg q] at hq
      exact hq _ (r8.up _ _ _) (l8.up (by decide) _ _)
    · rintro M9 rfl
      rw [if_pos q] at hq
      exact hq _ (r8.up _ _ _) (l8.up (by decide) _ _)
  unfold gEat at h
  refine ⟨fun q => ?_, fun q => ?_⟩
  · rw [if_pos q] at h
    exact go _ _ r7 l7 (xu_ne _ _ (by omega)) h
  · rw [if_neg q] at h
    refine s12_notes r7 (by rw [xu_ne _ _ (by omega)]; exact ha.n2) (fun M8 r8 l8 => go _ _ r8 (l7.trans l8) ?_ (fun M' r' l' => h M' ?_ l'))
    · rw [gNote_r _ _ _ _ (by omega)]; exact xu_ne _ _ (by omega)
    · rw [gNote_xu _ _ _ _ _ (by omega) (by omega)]; exact r'
def gBask (P k : Nat) (V : Mem) : Mem := if V 167 (73 + (P - 1 - k)) = 0 then V else gEat P (ix (V 167 (73 + (P - 1 - k)) - 1)) V
theorem gBask_GF {P k : Nat} {V : Mem} : GF V (gBask P k V) := by
  unfold gBask
  split
  · exact GF.refl V
  · exact gEat_GF
theorem gBask_z {P k : Nat} {V : Mem} (h : V 167 (73 + (P - 1 - k)) = 0) : gBask P k V = V := by unfold gBask; rw [if_pos h]
theorem gBask_t {P k t : Nat} {V : Mem} (h : V 167 (73 + (P - 1 - k)) = nI (t + 1)) (ht : t < 14) : gBask P k V = gEat P t V := by
  unfold gBask; rw [if_neg (by rw [h]; exact nI_ne0 (by omega) (by omega)), h, nI_s1, ixn (by omega)]
theorem pn_of {w : Nat} {V M : Mem} {P N : Nat} (hW : WW V P N) (hC : CW w V M) : M w 10 = nI P ∧ M w 11 = nI N := by
  obtain ⟨g, ha, -⟩ := hW
  exact ⟨hC.1.1.trans ha.1.1, hC.1.2.1.trans ha.1.2.1⟩
theorem WW.le {V : Mem} {P N : Nat} (hW : WW V P N) : P ≤ 10 ∧ N ≤ 14 ∧ V 166 6 = nI P ∧ V 166 7 = nI N := by
  obtain ⟨g, ha, -⟩ := hW
  exact ⟨ha.1.2.2.2.1, ha.1.2.2.2.2.1, ha.1.1, ha.1.2.1⟩
def gLeft (V : Mem) : Mem := xu (xu V 167 4 (V 167 4 + V 167 3)) 167 3 0
theorem s0_basket {Q : Mem → Prop} {w : Nat} {M0 V M : Mem} {P N : Nat} (hg : CGd P N w M0 V M) (h : ∀ M', CGd P N w M0 (gLeft (fo (gBask P) V P)) M' → Q M') : FX0_lowerBasket Q 1 w M := by
  obtain ⟨h10, h14, -, -⟩ := hg.1.1.le
  unfold FX0_lowerBasket NX0_lowerBasket_7
  rw [(pn_of hg.1.1 hg.2.1.1.1).1]
  refine xlp_rel (gBask P) V P (fun k U a => a.1 = nI (P - k) - 1 ∧ CGd P N w M0 U a.2) (nI P - 1, M) ⟨rfl, hg⟩ ?_ ?_
  · rintro ⟨x, M1⟩ B ⟨hx, g1⟩
    have hx : x = nI (P - P) - 1 := hx
    rw [Nat.sub_self] at hx
    subst hx
    have g1 : CGd P N w M0 (fo (gBask P) V P) M1 := g1
    show lbX0_lowerBasket_7 Q 1 w (fun l3 M => B (l3, M)) (nI 0 - 1) M1
    unfold lbX0_lowerBasket_7
    refine ⟨fun _ => ?_, fun hc => absurd (by decide) hc⟩
    rintro M2 rfl M3 rfl
    have c1 := g1.2.1.1
    rw [show M1 w 16 = fo (gBask P) V P 167 4 from c1.1.1.2.2.2.2.2.2.1, show M1 w 13 = fo (gBask P) V P 167 3 from c1.1.1.2.2.2.2.2.1]
    exact h _ (g1.step (WW_free (WW_free g1.1.1 (by decide) (by simp [wfr])) (by decide) (by simp [wfr])) (((GF.refl _).up _ _).up _ _) (CB_up (d := 0) (i := 13) (CB_up (d := 0) (i := 16) c1 rfl (sub0 _)) rfl (sub0 _)) (FR.up (d := 0) (FR.up (d := 0) (FR.refl w M1) (by decide) _ _) (by decide) _ _))
  · rintro k ⟨x, M1⟩ B hk ⟨hx, g1⟩ hB
    have hx : x = nI (P - k) - 1 := hx
    have hx : x = nI (P - 1 - k) := hx.trans (by rw [show P - k = (P - 1 - k) + 1 by omega]; exact nI_s1 _)
    subst hx
    have g1 : CGd P N w M0 (fo (gBask P) V k) M1 := g1
    show lbX0_lowerBasket_7 Q 1 w (fun l3 M => B (l3, M)) (nI (P - 1 - k)) M1
    have nx : nI (P - 1 - k) + -1 = nI (P - (k + 1)) - 1 := by rw [i32_m1, show P - 1 - k = P - (k + 1) by omega]
    have c1 := g1.2.1.1
    obtain ⟨g, ha, hb⟩ := g1.1.1
    unfold lbX0_lowerBasket_7
    rw [nx]
    refine ⟨fun hc => absurd hc (nI_pos (by omega)), fun _ => s9_sitterOn (P := P) (pn_of g1.1.1 c1.1).1 h10 (by omega) ?_⟩
    rw [(c1.1.2.2 (P - 1 - k) (by omega)).2.1]
    rcases sit_of ha (show P - 1 - k < P by omega) with ⟨z1, z2⟩ | ⟨t, ht, z1, z2⟩
    · rw [z2]
      exact ⟨fun _ => hB (_, M1) ⟨rfl, by rw [gBask_z z1]; exact g1⟩, fun hc => absurd rfl hc⟩
    · rw [z2]
      refine ⟨fun hc => absurd hc (m1_ne (by omega)), fun _ => s2_tells (CB_w c1) c1.1 g1.2.1.2.1 g1.1.2.1.1 ha ht (Or.inl rfl) (fun M2 s2 => s9_eat g1.1.1 (CB_18 c1 s2) ht (fun M3 c3 f3 => hB (_, M3) ⟨rfl, ?_⟩))⟩
      have e := gBask_t z1 (by omega)
      exact g1.step (by rw [e]; exact gEat_WW g1.1.1 (by omega)) (by rw [e]; exact gEat_GF) (by rw [e]; exact c3) ((FR_18 s2).trans f3)
def gHung (k : Nat) (V : Mem) : Mem := xu V 167 (35 + ix (V 167 (93 + k))) (mn 99 (V 167 (35 + ix (V 167 (93 + k))) + 1))
theorem gHung_t {k a : Nat} {V : Mem} (h : V 167 (93 + k) = nI a) (ha : a < 14) : gHung k V = xu V 167 (35 + a) (mn 99 (V 167 (35 + a) + 1)) := by
  unfold gHung
  rw [h, ixn (by omega)]
theorem hung_o {i : Nat} (hi : i < 35) (V : Mem) : ∀ k, fo gHung V k 167 i = V 167 i
  | 0 => rfl
  | k + 1 => by
    show gHung k (fo gHung V k) 167 i = _
    unfold gHung
    rw [xu_ne _ _ (by omega)]
    exact hung_o hi V k
theorem hung_GF {k : Nat} {V : Mem} : GF V (gHung k V) := (GF.refl V).up _ _
theorem hung_WW {k N P g : Nat} {V : Mem} (ha : WFa V P N g) (hb : WFb V P N g) (hk : k < g) : WW (gHung k V) P N := by
  obtain ⟨a, a1, a2⟩ := ha.2.2.2.2.1 k hk
  have h14 := ha.1.2.2.2.2.1
  unfold gHung
  rw [a2, ixn (by omega)]
  exact WW_free ⟨g, ha, hb⟩ (by omega) (by simp [wfr]; omega)
theorem s9_hunger {Q : Mem → Prop} {w : Nat} {M0 V M : Mem} {P N g : Nat} (hg : CGd P N w M0 V M) (h6 : V 167 6 = nI g) (g14 : g ≤ 14) (h : ∀ M', CGd P N w M0 (fo gHung V g) M' → Q M') : FX9_hungerOnGround Q w M := by
  obtain ⟨h10, h14, -, -⟩ := hg.1.1.le
  unfold FX9_hungerOnGround NX9_hungerOnGround_2
  refine xlp_rel gHung V g (fun k U a => a.1 = nI k ∧ CGd P N w M0 U a.2) (0, M) ⟨rfl, hg⟩ ?_ ?_
  · rintro ⟨x, M1⟩ B ⟨hx, g1⟩
    have hx : x = nI g := hx
    subst hx
    have g1 : CGd P N w M0 (fo gHung V g) M1 := g1
    show lbX9_hungerOnGround_2 Q w (fun l3 M => B (l3, M)) (nI g) M1
    unfold lbX9_hungerOnGround_2
    rw [show M1 w 9 = nI g from g1.2.1.1.1.1.2.2.2.2.2.2.2.2.1.trans ((hung_o (by decide) V g).trans h6)]
    exact ⟨fun _ => h M1 g1, fun hc => absurd (nI_le (Nat.le_refl _) (by omega)) hc⟩
  · rintro k ⟨x, M1⟩ B hk ⟨hx, g1⟩ hB
    have hx : x = nI k := hx
    subst hx
    have g1 : CGd P N w M0 (fo gHung V k) M1 := g1
    show lbX9_hungerOnGround_2 Q w (fun l3 M => B (l3, M)) (nI k) M1
    obtain ⟨g', ha, hb⟩ := id g1.1.1
    have : g' = g := by
      have := ha.1.2.2.2.2.2
      exact (nI_eq (by omega) (by omega)).mp (ha.1.2.2.1.symm.trans ((hung_o (by decide) V k).trans h6))
    subst this
    obtain ⟨a, a1, a2⟩ := ha.2.2.2.2.1 k hk
    have c1 := g1.2.1.1
    unfold lbX9_hungerOnGround_2
    rw [show M1 w 9 = nI g' from c1.1.1.2.2.2.2.2.2.2.2.1.trans ((hung_o (by decide) V k).trans h6), ixn (by omega), show M1 (w + 8) k = nI a from (c1.1.2.1 k (by omega)).2.2.2.2.trans a2, nI_1, ixn (by omega), show M1 (w + 7) a = fo gHung V k 167 (35 + a) from (c1.1.2.1 a (by omega)).2.2.2.1]
    refine ⟨fun hc => absurd hc (nI_ge (by omega) (by omega)), fun _ => ⟨vp_in_nI (by omega) (by decide), s9_isSaint (P := N) (pn_of g1.1.1 c1.1).2 (by omega) (fun _ _ _ => ⟨fun h => (by cases h), fun _ => ⟨vp_in_nI (by omega) (by decide), s_min ⟨vp_in_nI (by omega) (by decide), ?_⟩⟩⟩) (fun q => absurd rfl (q a a1))⟩⟩
    rintro M2 rfl
    refine hB (_, _) ⟨rfl, g1.step (hung_WW ha hb hk) hung_GF ?_ (FR.up (d := 7) (FR.refl w M1) (by decide) _ _)⟩
    rw [gHung_t a2 (by omega)]
    exact CB_up (d := 7) (i := a) c1 (by simp [wdom]; omega) (sub0 _)
theorem s12_basket {Q : Mem → Prop} {M0 V M : Mem} {P N : Nat} (hg : RGd P N M0 V M) (h : ∀ g M', g ≤ 14 → gLeft (fo (gBask P) V P) 167 6 = nI g → RGd P N M0 (fo gHung (gLeft (fo (gBask P) V P)) g) M' → Q M') : FX12_basketGoes Q 166 M := by
  obtain ⟨h10, h14, e6, -⟩ := hg.1.1.le
  unfold FX12_basketGoes NX12_basketGoes_7
  rw [show M 166 6 = nI P from (hg.2.1.n 6).trans e6]
  refine xlp_rel (gBask P) V P (fun k U a => a.1 = nI (P - k) - 1 ∧ RGd P N M0 U a.2) (nI P - 1, M) ⟨rfl, hg⟩ ?_ ?_
  · rintro ⟨x, M1⟩ B ⟨hx, g1⟩
    have hx : x = nI (P - P) - 1 := hx
    rw [Nat.sub_self] at hx
    subst hx
    have g1 : RGd P N M0 (fo (gBask P) V P) M1 := g1
    show lbX12_basketGoes_7 Q 166 (fun l3 M => B (l3, M)) (nI 0 - 1) M1
    unfold lbX12_basketGoes_7
    refine ⟨fun _ => ?_, fun hc => absurd (by decide) hc⟩
    rintro M2 rfl M3 rfl
    rw [show M1 (166 + 1) 4 = fo (gBask P) V P 167 4 from g1.2.1.r 4, show M1 (166 + 1) 3 = fo (gBask P) V P 167 3 from g1.2.1.r 3]
    have g2 : RGd P N M0 (gLeft (fo (gBask P) V P)) (xu (xu M1 167 4 (fo (gBask P) V P 167 4 + fo (gBask P) V P 167 3)) 167 3 0) := g1.step (WW_free (WW_free g1.1.1 (by decide) (by simp [wfr])) (by decide) (by simp [wfr])) (((GF.refl _).up _ _).up _ _) ((g1.2.1.up _ _ _).up _ _ _) (((LO.refl M1).up (by decide) _ _).up (by decide) _ _)
    obtain ⟨g, ha, hb⟩ := id g2.1.1
    have h6 := ha.1.2.2.1
    have g14 := ha.1.2.2.2.2.2
    unfold NX12_basketGoes_63
    refine xlp_rel gHung (gLeft (fo (gBask P) V P)) g (fun k U a => a.1 = nI k ∧ RGd P N M0 U a.2) (0, _) ⟨rfl, g2⟩ ?_ ?_
    · rintro ⟨x, M2⟩ B2 ⟨hx, g3⟩
      have hx : x = nI g := hx
      subst hx
      have g3 : RGd P N M0 (fo gHung (gLeft (fo (gBask P) V P)) g) M2 := g3
      show lbX12_basketGoes_63 Q 166 (fun l3 M => B2 (l3, M)) (nI g) M2
      unfold lbX12_basketGoes_63
      rw [show M2 (166 + 1) 6 = nI g from (g3.2.1.r 6).trans ((hung_o (by decide) _ g).trans h6)]
      exact ⟨fun _ => h g M2 g14 h6 g3, fun hc => absurd (nI_le (Nat.le_refl _) (by omega)) hc⟩
    · rintro k ⟨x, M2⟩ B2 hk ⟨hx, g3⟩ hB2
      have hx : x = nI k := hx
      subst hx
      have g3 : RGd P N M0 (fo gHung (gLeft (fo (gBask P) V P)) k) M2 := g3
      show lbX12_basketGoes_63 Q 166 (fun l3 M => B2 (l3, M)) (nI k) M2
      obtain ⟨g', ha', hb'⟩ := id g3.1.1
      have : g' = g := by
        have := ha'.1.2.2.2.2.2
        exact (nI_eq (by omega) (by omega)).mp (ha'.1.2.2.1.symm.trans ((hung_o (by decide) _ k).trans h6))
      subst this
      obtain ⟨a, a1, a2⟩ := ha'.2.2.2.2.1 k hk
      unfold lbX12_basketGoes_63
      rw [show M2 (166 + 1) 6 = nI g' from (g3.2.1.r 6).trans ((hung_o (by decide) _ k).trans h6), ix93 (by omega), show M2 (166 + 1) (93 + k) = nI a from (g3.2.1.r _).trans a2, nI_1, ix35 (by omega), show M2 (166 + 1) (35 + a) = fo gHung (gLeft (fo (gBask P) V P)) k 167 (35 + a) from g3.2.1.r _]
      refine ⟨fun hc => absurd hc (nI_ge (by omega) (by omega)), fun _ => ⟨vp93 (by omega), vp93 (by omega), vp35 (by omega), s12_lesser ⟨vp35 (by omega), ?_⟩⟩⟩
      rintro M3 rfl
      refine hB2 (_, _) ⟨rfl, g3.step (hung_WW ha' hb' hk) hung_GF ?_ ((LO.refl M2).up (by decide) _ _)⟩
      rw [gHung_t a2 (by omega)]
      exact g3.2.1.up _ _ _
  · rintro k ⟨x, M1⟩ B hk ⟨hx, g1⟩ hB
    have hx : x = nI (P - k) - 1 := hx
    have hx : x = nI (P - 1 - k) := hx.trans (by rw [show P - k = (P - 1 - k) + 1 by omega]; exact nI_s1 _)
    subst hx
    have g1 : RGd P N M0 (fo (gBask P) V k) M1 := g1
    show lbX12_basketGoes_7 Q 166 (fun l3 M => B (l3, M)) (nI (P - 1 - k)) M1
    have nx : nI (P - 1 - k) + -1 = nI (P - (k + 1)) - 1 := by rw [i32_m1, show P - 1 - k = P - (k + 1) by omega]
    obtain ⟨g, ha, hb⟩ := g1.1.1
    unfold lbX12_basketGoes_7
    rw [nx]
    refine ⟨fun hc => absurd hc (nI_pos (by omega)), fun _ => s12_sitterOf (by omega) ?_⟩
    rw [g1.2.1.r]
    rcases sit_of ha (show P - 1 - k < P by omega) with ⟨z1, z2⟩ | ⟨t, ht, z1, z2⟩
    · rw [z2]
      exact ⟨fun _ => hB (_, M1) ⟨rfl, by rw [gBask_z z1]; exact g1⟩, fun hc => absurd rfl hc⟩
    · rw [z2]
      refine ⟨fun hc => absurd hc (m1_ne (by omega)), fun _ => s12_sitterOf (by omega) ?_⟩
      rw [g1.2.1.r, z2]
      refine s12_eats g1.1 g1.2.1 ht (fun M3 r3 l3 => hB (_, M3) ⟨rfl, ?_⟩)
      have e := gBask_t z1 (by omega)
      exact g1.step (by rw [e]; exact gEat_WW g1.1.1 (by omega)) (by rw [e]; exact gEat_GF) (by rw [e]; exact r3) l3
