/-! A DAY: who dies -/
theorem lvR_xu {r k c j : Nat} {V : Mem} {v : Int32} (h : ¬ (c = 167 ∧ 93 ≤ j)) : lvR r k (xu V c j v) = xu (lvR r k V) c j v := by
  funext a i
  rw [lvR_at, xu_if (M := lvR r k V), lvR_at]
  by_cases h1 : a = 167 ∧ 93 + k ≤ i ∧ i < 93 + k + r
  · rw [if_pos h1, if_pos h1, if_neg (by omega), xu_ne _ _ (by omega)]
  · rw [if_neg h1, if_neg h1, xu_if]
theorem gLeave_xu {k c j : Nat} {V : Mem} {v : Int32} (h : ¬ (c = 167 ∧ 93 ≤ j)) (h6 : ¬ (c = 167 ∧ j = 6)) : gLeave k (xu V c j v) = xu (gLeave k V) c j v := by
  unfold gLeave
  rw [xu_ne V v (a := 167) (j := 6) (by omega), xu_comm _ _ _ (by omega), lvR_xu h]
theorem gLeave_lo {k c i : Nat} {V : Mem} (h : ¬ (c = 167 ∧ 93 ≤ i)) (h6 : ¬ (c = 167 ∧ i = 6)) : gLeave k V c i = V c i := by
  unfold gLeave
  rw [lvR_at, if_neg (by omega), xu_ne _ _ (by omega)]
theorem gLeave_note (k : Nat) (a b c : Int32) (V : Mem) : gLeave k (gNote a b c V) = gNote a b c (gLeave k V) := by
  unfold gNote
  rw [gLeave_lo (c := 166) (i := 5) (by omega) (by omega), gLeave_lo (c := 167) (i := 2) (by omega) (by omega), gLeave_lo (c := 167) (i := 0) (by omega) (by omega)]
  split
  · rw [gLeave_xu (by omega) (by omega), gLeave_xu (by omega) (by omega), gLeave_xu (by omega) (by omega), gLeave_xu (by omega) (by omega), gLeave_xu (by omega) (by omega)]
  · rfl
theorem CB_dead {w t : Nat} {V M : Mem} (hC : CB w V M) (ht : t < 14) : CB w (xu V 167 (49 + t) 1) (xu M w 12 (M w 12 ||| ((1 : Int32) <<< (nI t &&& 31)))) := by
  obtain ⟨h1, h2⟩ := CW_iff.mp hC.1
  refine ⟨CW_iff.mpr ⟨fun d i hd => ?_, ?_⟩, ?_⟩
  · rw [xu_ne M _ (by rintro ⟨q1, q2⟩; have : d = 0 := by omega
                      subst this; subst q2; simp [wdom] at hd), xu_ne V _ (fun q => lc_nd hd t ht ⟨q.1.symm, q.2.symm⟩)]
    exact h1 d i hd
  · rw [xu_same, h2, ← dset_or ht]
    refine dset_congr (fun k hk => ?_)
    rw [xu_if]
    by_cases e : k = t
    · subst e; rw [if_pos rfl, if_pos ⟨rfl, rfl⟩]
    · rw [if_neg e, if_neg (by omega)]
  · rcases hC.2 with ⟨rfl, q1, q2⟩ | ⟨q1, q2⟩
    · exact Or.inl ⟨rfl, by rw [xu_ne _ _ (by omega)]; exact q1, fun i hi => by rw [xu_ne _ _ (by omega), xu_ne _ _ (by omega)]; exact q2 i hi⟩
    · exact Or.inr ⟨q1, by rw [xu_ne _ _ (by omega)]; exact q2⟩
theorem pof_congr {V V2 : Mem} {P : Nat} {x : Int32} (h : ∀ p, p < P → V2 167 (73 + p) = V 167 (73 + p)) : pof V2 P x = pof V P x := fnd_congr (fun j _ hj => by simp only [sat]; rw [h j (by omega)])
theorem plc_congr {V V2 : Mem} {g : Nat} {x : Int32} (h : ∀ k, k < g → V2 167 (93 + k) = V 167 (93 + k)) : plc V2 g x = plc V g x := fnd_congr (fun j _ hj => by simp only [grd]; rw [h j (by omega)])
def gDie (P t : Nat) (V : Mem) : Mem :=
  match pof V P (nI t) with
  | some p => gNote 1 (nI t) (V 167 (7 + t)) (xu (xu V 167 (49 + t) 1) 167 (73 + p) 0)
  | none => match plc V (ix (V 167 6)) (nI t) with
    | some k => gNote 1 (nI t) (V 167 (7 + t)) (gLeave k (xu V 167 (49 + t) 1))
    | none => V
/-- who lives and doesn't sit is on the ground; who sits isn't -/
theorem die_cases {V : Mem} {P N g t : Nat} (ha : WFa V P N g) (hb : WFb V P N g) (ht : t < N) (hd : V 167 (49 + t) = 0) : (∃ p, pof V P (nI t) = some p ∧ plc V g (nI t) = none) ∨ (pof V P (nI t) = none ∧ ∃ k, k < g ∧ plc V g (nI t) = some k ∧ V 167 (93 + k) = nI t) := by
  have h14 := ha.1.2.2.2.2.1
  cases hp : pof V P (nI t) with
  | some p =>
    obtain ⟨p1, p2⟩ := pof_some hp
    refine Or.inl ⟨p, rfl, fnd_no (fun k hk => decide_eq_false (fun e => hb.2.2.1 p k p1 hk ?_))⟩
    rw [p2, e, nI_1]
  | none =>
    refine Or.inr ⟨rfl, ?_⟩
    rcases hb.1 t ht hd with ⟨p, p1, p2⟩ | ⟨k, k1, k2⟩
    · have := fnd_none hp p (by omega) (by omega)
      exact absurd (of_decide_eq_false this) (fun q => q (by rw [p2, nI_s1]))
    · cases hq : plc V g (nI t) with
      | none => exact absurd (of_decide_eq_false (fnd_none hq k (by omega) (by omega))) (fun q => q k2)
      | some j =>
        obtain ⟨-, j1, j2, -⟩ := fnd_some hq
        exact ⟨j, by omega, rfl, of_decide_eq_true j2⟩
theorem WFa_dead {V : Mem} {P N g t : Nat} (ha : WFa V P N g) (ht : t < N) : WFa (xu V 167 (49 + t) 1) P N g := by
  obtain ⟨⟨a1, a2, a3, a4, a5, a6⟩, b, c1, c2, c3, c4, c5, c6, c7⟩ := ha
  have r : ∀ j, j ≠ 49 + t → xu V 167 (49 + t) 1 167 j = V 167 j := fun j hj => xu_ne _ _ (by omega)
  refine ⟨⟨a1, a2, by rw [r _ (by omega)]; exact a3, a4, a5, a6⟩, by rw [r _ (by omega)]; exact b, fun q hq => by rw [r _ (by omega)]; exact c1 q hq, fun q hq => by rw [r _ (by omega)]; exact c2 q hq, fun q hq => by rw [r _ (by omega)]; exact c3 q hq, fun q hq => by rw [r _ (by omega)]; exact c4 q hq, fun q hq => ?_, fun q hq hq2 => by rw [r _ (by omega)]; exact c6 q hq hq2, fun q => by rw [r _ (by omega)]; exact c7 q⟩
  rw [xu_if]
  split
  · exact Or.inr rfl
  · exact c5 q hq
theorem gDie_WW {V : Mem} {P N t : Nat} (hW : WW V P N) (ht : t < N) (hd : V 167 (49 + t) = 0) : WW (gDie P t V) P N := by
  obtain ⟨g, ha, hb⟩ := hW
  have h10 := ha.1.2.2.2.1
  have h14 := ha.1.2.2.2.2.1
  have g14 := ha.1.2.2.2.2.2
  have hgN := ha.2.2.2.2.1
  have wd := WFa_dead ha ht
  unfold gDie
  rcases die_cases ha hb ht hd with ⟨p, e1, -⟩ | ⟨e1, k, hk, e2, e3⟩
  · rw [e1]
    obtain ⟨p1, p2⟩ := pof_some e1
    refine WW_note ⟨g, WFa_sit wd (xu_ne _ _ (by omega)) (xu_ne _ _ (by omega)) (fun i h1 h2 h3 => xu_ne _ _ (by omega)) (by rw [xu_ne _ _ (by omega)]; exact wd.1.2.2.1) g14 (fun j hj => ?_) (fun j hj => by rw [xu_ne _ _ (by omega)]; exact wd.2.2.2.2.1 j hj), WB_iff.mpr (WB_congr (s := fun j => xu (xu V 167 (49 + t) 1) 167 (73 + p) 0 167 (73 + j)) (gr := fun j => V 167 (93 + j)) (dd := fun j => xu (xu V 167 (49 + t) 1) 167 (73 + p) 0 167 (49 + j)) (fun _ _ => rfl) (fun j hj => by rw [xu_ne _ _ (by omega), xu_ne _ _ (by omega)]) (fun _ _ => rfl) (WB_dieP (by omega) p1 ht p2 ?_ (fun j h0 h1 => ?_) ?_ (fun j h0 h1 => ?_) hgN (WB_iff.mp hb)))⟩
    · rw [xu_if]
      split
      · exact ⟨0, by omega, rfl⟩
      · exact wd.2.2.1 j hj
    · exact xu_same _ _ _ _
    · rw [xu_ne _ _ (by omega), xu_ne _ _ (by omega)]
    · rw [xu_ne _ _ (by omega), xu_same]
    · rw [xu_ne _ _ (by omega), xu_ne _ _ (by omega)]
  · rw [e1, ha.1.2.2.1, ixn (by omega)]
    simp only [e2]
    have L := gLeave_at (k := k) (V := xu V 167 (49 + t) 1) wd.1.2.2.1 g14 hk
    refine WW_note ⟨g - 1, WFa_sit wd (by rw [L, if_neg (by omega), if_neg (by omega)]) (by rw [L, if_neg (by omega), if_neg (by omega)]) (fun i h1 h2 h3 => by rw [L, if_neg (by omega), if_neg (by omega)]) (by rw [L, if_pos (by omega)]) (by omega) (fun j hj => by rw [L, if_neg (by omega), if_neg (by omega)]; exact wd.2.2.1 j hj) (fun j hj => ?_), WB_iff.mpr (WB_congr (s := fun j => V 167 (73 + j)) (gr := fun j => gLeave k (xu V 167 (49 + t) 1) 167 (93 + j)) (dd := fun j => gLeave k (xu V 167 (49 + t) 1) 167 (49 + j)) (fun j hj => by rw [L, if_neg (by omega), if_neg (by omega), xu_ne _ _ (by omega)]) (fun _ _ => rfl) (fun _ _ => rfl) (WB_dieG (by omega) hk ht e3 (fun j hj => ?_) (fun j h1 h2 => ?_) ?_ (fun j h0 h1 => ?_) (WB_iff.mp hb)))⟩
    · rw [L, if_neg (by omega)]
      split
      · exact wd.2.2.2.2.1 (j + 1) (by omega)
      · exact wd.2.2.2.2.1 j (by omega)
    · rw [L, if_neg (by omega), if_neg (by omega), xu_ne _ _ (by omega)]
    · rw [L, if_neg (by omega), if_pos (by omega), xu_ne _ _ (by omega)]
      rfl
    · rw [L, if_neg (by omega), if_neg (by omega), xu_same]
    · rw [L, if_neg (by omega), if_neg (by omega), xu_ne _ _ (by omega)]
theorem gDie_GF {P t : Nat} {V : Mem} : GF V (gDie P t V) := by
  unfold gDie
  split
  · exact (((GF.refl V).up _ _).up _ _).trans (GF_note _ _ _ _)
  · split
    · exact (((GF.refl V).up _ _).trans (GF_leave _ _)).trans (GF_note _ _ _ _)
    · exact GF.refl V
theorem s12_dies {Q : Mem → Prop} {V M : Mem} {P N t : Nat} (hW : WW V P N) (hR : RV V M) (ht : t < N) (hd : V 167 (49 + t) = 0) (h : ∀ M', RV (gDie P t V) M' → LO M M' → Q M') : FX12_dies Q 166 (nI t) M := by
  obtain ⟨g, ha, hb⟩ := hW
  have h10 := ha.1.2.2.2.1
  have h14 := ha.1.2.2.2.2.1
  have g14 := ha.1.2.2.2.2.2
  have wd := WFa_dead ha ht
  unfold FX12_dies
  rw [ix49 (by omega)]
  refine ⟨vp49 (by omega), ?_⟩
  rintro M2 rfl
  have r2 : RV (xu V 167 (49 + t) 1) (xu M 167 (49 + t) 1) := hR.up _ _ _
  have l2 : LO M (xu M 167 (49 + t) 1) := (LO.refl M).up (by decide) _ _
  have fin : ∀ (U M3 : Mem), RV U M3 → LO M M3 → U 167 (7 + t) = V 167 (7 + t) → (∃ n, n ≤ 150 ∧ U 167 2 = nI n) → (∀ M', RV (gNote 1 (nI t) (V 167 (7 + t)) U) M' → LO M M' → Q M') → NX12_dies_43 Q 166 (nI t) M3 := by
    intro U M3 r3 l3 e7 hn hq
    unfold NX12_dies_43
    rw [ix7 (by omega), show M3 (166 + 1) (7 + t) = V 167 (7 + t) from (r3.r _).trans e7]
    exact ⟨vp7 (by omega), s12_notes r3 hn (fun M' r' l' => hq M' r' (l3.trans l'))⟩
  unfold gDie at h
  refine s12_pillarOf r2 wd.1.1 h10 ?_
  rw [pof_congr (V := V) (fun p hp => xu_ne _ _ (by omega))]
  rcases die_cases ha hb ht hd with ⟨p, e1, -⟩ | ⟨e1, k, hk, e2, e3⟩
  · rw [e1] at h ⊢
    have p1 := (pof_some e1).1
    refine ⟨fun hc => absurd hc (oI_ne (by omega)), fun _ => ?_⟩
    show vp_in (73 + nI p) 107 ∧ ∀ M6 : Mem, M6 = xu (xu M 167 (49 + t) 1) (166 + 1) (ix (73 + nI p)) 0 → NX12_dies_43 Q 166 (nI t) M6
    rw [ix73 (by omega)]
    refine ⟨vp73 (by omega), ?_⟩
    rintro M6 rfl
    exact fin _ _ (r2.up _ _ _) (l2.up (by decide) _ _) (by rw [xu_ne _ _ (by omega), xu_ne _ _ (by omega)]) (by rw [xu_ne _ _ (by omega), xu_ne _ _ (by omega)]; exact ha.n2) h
  · rw [e1, ha.1.2.2.1, ixn (by omega)] at h
    rw [e1]
    simp only [e2] at h
    refine ⟨fun _ => s12_placeOf r2 wd.1.2.2.1 g14 ?_, fun hc => absurd rfl hc⟩
    rw [plc_congr (V := V) (fun j hj => xu_ne _ _ (by omega)), e2]
    refine s12_leaves (g := g) (k := k) r2 wd.1.2.2.1 g14 hk (fun M3 r3 l3 => fin _ _ r3 (l2.trans l3) ?_ ?_ h)
    · rw [gLeave_lo (by omega) (by omega), xu_ne _ _ (by omega)]
    · rw [gLeave_lo (by omega) (by omega), xu_ne _ _ (by omega)]; exact ha.n2
theorem s9_bury {Q : Mem → Prop} {w : Nat} {V M : Mem} {P N t : Nat} (hW : WW V P N) (hC : CB w (gNote 1 (nI t) (V 167 (7 + t)) V) M) (ht : t < N) (hd : V 167 (49 + t) = 0) (h : ∀ M', CB w (gDie P t V) M' → FR w M M' → Q M') : FX9_bury Q w (nI t) M := by
  obtain ⟨g, ha, hb⟩ := hW
  have h10 := ha.1.2.2.2.1
  have h14 := ha.1.2.2.2.2.1
  have g14 := ha.1.2.2.2.2.2
  obtain ⟨na, nb⟩ := WF_note (a := 1) (b := nI t) (c := V 167 (7 + t)) ha hb
  have nr : ∀ i, i ≠ 2 → gNote 1 (nI t) (V 167 (7 + t)) V 167 i = V 167 i := fun i hi => gNote_r _ _ _ _ hi
  unfold gDie at h
  unfold FX9_bury
  refine s9_isSaint (P := N) (hC.1.1.2.1.trans na.1.2.1) (by omega) (fun _ _ _ => ⟨fun _ => s9_pillarOf hC.1 na.1.1 h10 (m1_ne (by omega)) ?_, fun h => (by cases h)⟩) (fun q => absurd rfl (q t ht))
  rw [pof_congr (V := V) (fun p hp => nr _ (by omega))]
  rcases die_cases ha hb ht hd with ⟨p, e1, e2⟩ | ⟨e1, k, hk, e2, e3⟩
  · rw [e1] at h ⊢
    have p1 := (pof_some e1).1
    refine ⟨fun hc => absurd hc (oI_ne (by omega)), fun _ => ?_⟩
    show vp_in (nI p) 10 ∧ ∀ M6 : Mem, M6 = xu M (w + 2) (ix (nI p)) (-1) → NX9_bury_27 Q w (nI t) M6
    rw [ixn (by omega)]
    refine ⟨vp_in_nI (by omega) (by decide), ?_⟩
    rintro M6 rfl
    have c6 := CB_up (d := 2) (i := p) (v := -1) (v2 := 0) hC (by simp [wdom]; omega) (by decide)
    unfold NX9_bury_27
    refine s9_ahead (g := g) (V := xu (gNote 1 (nI t) (V 167 (7 + t)) V) 167 (73 + p) 0) c6.1 (by rw [xu_ne _ _ (by omega), nr _ (by decide)]; exact ha.1.2.2.1) g14 ?_
    rw [plc_congr (V := V) (fun j hj => by rw [xu_ne _ _ (by omega), nr _ (by omega)]), e2]
    unfold FX9_leaveGround
    refine ⟨fun _ => ?_, fun hc => absurd (by decide) hc⟩
    rintro M7 rfl
    have c7 := CB_dead (t := t) c6 (by omega)
    refine h _ ?_ (FR.up (d := 0) (FR.up (d := 2) (FR.refl w M) (by decide) _ _) (by decide) _ _)
    show CB w (gNote 1 (nI t) (V 167 (7 + t)) (xu (xu V 167 (49 + t) 1) 167 (73 + p) 0)) _
    rw [gNote_xu _ _ _ _ _ (by omega) (by omega), gNote_xu _ _ _ _ _ (by omega) (by omega), xu_comm _ _ _ (by omega)]
    exact c7
  · rw [e1, ha.1.2.2.1, ixn (by omega)] at h
    rw [e1]
    simp only [e2] at h
    refine ⟨fun _ => ?_, fun hc => absurd rfl hc⟩
    unfold NX9_bury_27
    refine s9_ahead (g := g) hC.1 na.1.2.2.1 g14 ?_
    rw [plc_congr (V := V) (fun j hj => nr _ (by omega)), e2]
    refine s9_leave (g := g) (k := k) hC na.1.2.2.1 g14 hk (fun M3 c3 f3 => ?_)
    rintro M7 rfl
    have c7 := CB_dead (t := t) c3 (by omega)
    refine h _ ?_ (FR.up (d := 0) f3 (by decide) _ _)
    rw [gLeave_xu (by omega) (by omega), gNote_xu _ _ _ _ _ (by omega) (by omega), ← gLeave_note]
    exact c7
def drw (x : Int32) : Int32 := (x.toUInt32 >>> ((8 : Int32).toUInt32 &&& Int32.toUInt32 31)).toInt32 - (x.toUInt32 >>> ((8 : Int32).toUInt32 &&& Int32.toUInt32 31)).toInt32 / 1000 * 1000
def gOld (t : Nat) (V : Mem) : Mem := xu V 167 (7 + t) (mn 120 (V 167 (7 + t) + 1))
def gDraw (V : Mem) : Mem := xu V 167 1 (1664525 * V 167 1 + 1013904223)
/-- does he die: what the law tells, and a draw -/
def gMay1 (P t : Nat) (V : Mem) : Bool × Mem :=
  if V 166 5 = 0 then (if tell V P t 1 ≤ 0 then (false, V) else (!decide (tell V P t 1 ≤ drw (gDraw V 167 1)), gDraw V)) else (!decide (tell V P t 1 < 500), V)
def gMay (P t : Nat) (s : Int32 × Mem) : Int32 × Mem :=
  if s.2 167 (49 + t) = 1 then s else if (gMay1 P t (gOld t s.2)).1 = true then (s.1 + 1, gDie P t (gMay1 P t (gOld t s.2)).2) else (s.1, (gMay1 P t (gOld t s.2)).2)
theorem gMay1_p {P t : Nat} {V : Mem} : GF V (gMay1 P t V).2 ∧ (∀ i, i ≠ 1 → (gMay1 P t V).2 167 i = V 167 i) := by
  unfold gMay1
  split
  · split
    · exact ⟨GF.refl V, fun _ _ => rfl⟩
    · exact ⟨(GF.refl V).up _ _, fun i hi => by show gDraw V 167 i = V 167 i; exact xu_ne _ _ (by omega)⟩
  · exact ⟨GF.refl V, fun _ _ => rfl⟩
theorem WW_free2 {V V2 : Mem} {P N : Nat} (h : WW V P N) (hg : GF V V2) (hr : ∀ i, wfr i = true → V2 167 i = V 167 i) : WW V2 P N := by
  obtain ⟨g, ha, hb⟩ := h
  exact ⟨g, WFa_congr2 (hg 166 6 (by decide) (by decide)) (hg 166 7 (by decide) (by decide)) hr ha, WFb_congr2 ha.1.2.2.2.1 ha.1.2.2.2.2.1 ha.1.2.2.2.2.2 hr hb⟩
theorem gMay1_WW {P N t : Nat} {V : Mem} (hW : WW V P N) : WW (gMay1 P t V).2 P N := WW_free2 hW gMay1_p.1 (fun i hi => gMay1_p.2 i (by rintro rfl; simp [wfr] at hi))
theorem gOld_WW {P N t : Nat} {V : Mem} (hW : WW V P N) (ht : t < 14) : WW (gOld t V) P N := WW_free hW (by omega) (by simp [wfr]; omega)
theorem gMay_WW {P N t : Nat} {s : Int32 × Mem} (hW : WW s.2 P N) (ht : t < N) (h14 : N ≤ 14) (hd : s.2 167 (49 + t) = 0 ∨ s.2 167 (49 + t) = 1) : WW (gMay P t s).2 P N := by
  unfold gMay
  split
  · exact hW
  · next h1 =>
    have w1 := gMay1_WW (t := t) (gOld_WW (t := t) hW (by omega))
    split
    · refine gDie_WW w1 ht ?_
      rw [gMay1_p.2 _ (by omega)]
      unfold gOld
      rw [xu_ne _ _ (by omega)]
      rcases hd with q | q
      · exact q
      · exact absurd q h1
    · exact w1
theorem gMay_GF {P t : Nat} {s : Int32 × Mem} : GF s.2 (gMay P t s).2 := by
  unfold gMay
  split
  · exact GF.refl _
  · have g1 : GF s.2 (gMay1 P t (gOld t s.2)).2 := ((GF.refl s.2).up _ _).trans gMay1_p.1
    split
    · exact g1.trans gDie_GF
    · exact g1
theorem tell1_b (V : Mem) (P t : Nat) : 0 ≤ (tell V P t 1).toInt ∧ (tell V P t 1).toInt ≤ 1000 := by
  show 0 ≤ (hd (tel0 V P t 1) 0 1000).toInt ∧ (hd (tel0 V P t 1) 0 1000).toInt ≤ 1000
  unfold hd
  split
  · decide
  · split
    · decide
    · rename_i h1 h2
      exact ⟨Int32.le_iff_toInt_le.mp (Int32.not_lt.mp h1), Int32.le_iff_toInt_le.mp (Int32.not_lt.mp h2)⟩
theorem half {x : Int32} (h : 0 ≤ x.toInt ∧ x.toInt ≤ 1000) : 2 * x < 1000 ↔ x < 500 := by
  have e : (2 * x).toInt = 2 * x.toInt := by
    rw [Int32.toInt_mul, show (2 : Int32).toInt = 2 from rfl, Int.bmod_eq_of_le (by omega) (by omega)]
  rw [Int32.lt_iff_toInt_lt, Int32.lt_iff_toInt_lt, e, show (1000 : Int32).toInt = 1000 from rfl, show (500 : Int32).toInt = 500 from rfl]
  omega
theorem s12_isEnding {Q : Bool → Mem → Prop} {V M : Mem} {P N t : Nat} (hD : DV V P N) (hR : RV V M) (ht : t < N) (h : ∀ M', RV (gMay1 P t V).2 M' → LO M M' → Q (gMay1 P t V).1 M') : FX12_isEnding Q 166 (nI t) M := by
  obtain ⟨⟨g, ha, hb⟩, hl, -, -⟩ := hD
  unfold FX12_isEnding
  unfold gMay1 at h
  refine s12_diesOf hR hl ha ht (fun M1 r1 l1 => ?_)
  rw [r1.n 5, half (tell1_b V P t)]
  refine ⟨fun h5 => ?_, fun h5 => ?_⟩
  · rw [if_pos h5] at h
    refine ⟨fun h0 => ?_, fun h0 => ?_⟩
    · rw [if_pos h0] at h
      exact h M1 r1 l1
    · rw [if_neg h0] at h
      unfold FX12_draw
      rintro M2 rfl
      refine ⟨by decide, ?_⟩
      rw [show M1 (166 + 1) 1 = V 167 1 from r1.r 1, xu_same]
      have := h _ (r1.up 167 1 (1664525 * V 167 1 + 1013904223)) (l1.up (by decide) _ _)
      simp only [show gDraw V 167 1 = 1664525 * V 167 1 + 1013904223 from xu_same _ _ _ _] at this
      refine ⟨fun q => ?_, fun q => ?_⟩
      · rw [decide_eq_true (show tell V P t 1 ≤ drw (1664525 * V 167 1 + 1013904223) from q)] at this
        exact this
      · rw [decide_eq_false (show ¬ tell V P t 1 ≤ drw (1664525 * V 167 1 + 1013904223) from q)] at this
        exact this
  · rw [if_neg h5] at h
    refine ⟨fun q => ?_, fun q => ?_⟩
    · rw [decide_eq_true q] at h; exact h M1 r1 l1
    · rw [decide_eq_false q] at h; exact h M1 r1 l1
theorem s0_letDie {Q : Int32 → Mem → Prop} {w : Nat} {th : Int32} {M0 V M : Mem} {P N : Nat} (hg : CGd P N w M0 V M) (hth : (th = 0 ∧ V 166 5 = 0) ∨ (th = 1 ∧ V 166 5 = 1)) (h : ∀ M', CGd P N w M0 (fo (gMay P) (0, V) N).2 M' → Q (fo (gMay P) (0, V) N).1 M') : FX0_letDie Q 1 w th M := by
  obtain ⟨h10, h14, -, -⟩ := hg.1.1.le
  unfold FX0_letDie NX0_letDie_5
  refine xlp_rel (gMay P) ((0, V) : Int32 × Mem) N (fun k s a => a.1 = s.1 ∧ a.2.1 = nI k ∧ CGd P N w M0 s.2 a.2.2 ∧ GF V s.2) (0, 0, M) ⟨rfl, rfl, hg, GF.refl V⟩ ?_ ?_
  · rintro ⟨y, x, M1⟩ B ⟨hy, hx, g1, -⟩
    have hx : x = nI N := hx
    have hy : y = (fo (gMay P) (0, V) N).1 := hy
    subst hx hy
    have g1 : CGd P N w M0 (fo (gMay P) (0, V) N).2 M1 := g1
    show lbX0_letDie_5 Q 1 w th (fun l3 l4 M => B (l3, l4, M)) _ (nI N) M1
    unfold lbX0_letDie_5
    rw [(pn_of g1.1.1 g1.2.1.1.1).2]
    exact ⟨fun _ => h M1 g1, fun hc => absurd (nI_le (Nat.le_refl _) (by omega)) hc⟩
  · rintro k ⟨y, x, M1⟩ B hk ⟨hy, hx, g1, gf⟩ hB
    have hx : x = nI k := hx
    have hy : y = (fo (gMay P) (0, V) k).1 := hy
    subst hx hy
    generalize fo (gMay P) (0, V) k = s at hB g1 gf ⊢
    have g1 : CGd P N w M0 s.2 M1 := g1
    have gf : GF V s.2 := gf
    show lbX0_letDie_5 Q 1 w th (fun l3 l4 M => B (l3, l4, M)) s.1 (nI k) M1
    have c1 := g1.2.1.1
    obtain ⟨g, ha, hb⟩ := id g1.1.1
    have hw2 := gMay_WW (P := P) (s := s) g1.1.1 hk h14 (ha.2.2.2.2.2.2.1 k (by omega))
    have fin : ∀ M2, CB w (gMay P k s).2 M2 → FR w M1 M2 → B ((gMay P k s).1, nI (k + 1), M2) := fun M2 c2 f2 => hB _ ⟨rfl, rfl, g1.step hw2 gMay_GF c2 f2, gf.trans gMay_GF⟩
    unfold lbX0_letDie_5
    rw [(pn_of g1.1.1 c1.1).2, nI_1]
    refine ⟨fun hc => absurd hc (nI_ge (by omega) (by omega)), fun _ => s9_isDead c1.1 ha hk (fun hd => ⟨fun h => (by cases h), fun _ => ?_⟩) (fun hd => ⟨fun _ => ⟨vp_in_nI (by omega) (by decide), s_min ⟨vp_in_nI (by omega) (by decide), ?_⟩⟩, fun h => (by cases h)⟩)⟩
    · have e : gMay P k s = s := by unfold gMay; rw [if_pos hd]
      rw [e] at fin
      exact fin M1 c1 (FR.refl w M1)
    · rintro M2 rfl
      rw [ixn (by omega), show M1 (w + 4) k = s.2 167 (7 + k) from (c1.1.2.1 k (by omega)).1]
      have c2 : CB w (gOld k s.2) (xu M1 (w + 4) k (mn 120 (s.2 167 (7 + k) + 1))) := CB_up (d := 4) (i := k) c1 (by simp [wdom]; omega) (sub0 _)
      have f2 : FR w M1 (xu M1 (w + 4) k (mn 120 (s.2 167 (7 + k) + 1))) := FR.up (d := 4) (FR.refl w M1) (by decide) _ _
      have wo := gOld_WW (t := k) g1.1.1 (by omega)
      have gd := g1.step wo ((GF.refl s.2).up _ _) c2 f2
      obtain ⟨go, hao, hbo⟩ := id wo
      have h5 : gOld k s.2 166 5 = V 166 5 := (((GF.refl s.2).up (7 + k) _) 166 5 (by decide) (by decide)).trans (gf 166 5 (by decide) (by decide))
      have nd : s.2 167 (49 + k) ≠ 1 := by rw [hd]; decide
      -- the end of an iteration
      have en : ∀ (b : Bool) (U M3 : Mem), gMay1 P k (gOld k s.2) = (b, U) → CB w U M3 → FR w M1 M3 → ∀ z : Int32, (z = if b then 1 else 0) → NX0_letDie_102 Q (fun l3 l4 M => B (l3, l4, M)) 1 w th s.1 (nI k) z M3 := by
        intro b U M3 eb c3 f3 z hz
        have em : gMay P k s = if b = true then (s.1 + 1, gDie P k U) else (s.1, U) := by unfold gMay; rw [if_neg nd, eb]
        have pr := gMay1_p (P := P) (t := k) (V := gOld k s.2)
        rw [eb] at pr
        have wU : WW U P N := by have := gMay1_WW (t := k) wo; rw [eb] at this; exact this
        have dU : U 167 (49 + k) = 0 := by
          have q : U 167 (49 + k) = gOld k s.2 167 (49 + k) := pr.2 _ (by omega)
          rw [q]; unfold gOld; rw [xu_ne _ _ (by omega)]; exact hd
        unfold NX0_letDie_102
        rw [nI_1]
        cases b with
        | false =>
          subst hz
          rw [if_neg (by decide)] at em
          rw [em] at fin
          exact ⟨fun _ => fin M3 c3 f3, fun hc => absurd rfl hc⟩
        | true =>
          subst hz
          rw [if_pos rfl] at em
          rw [em] at fin
          obtain ⟨gu, hau, hbu⟩ := id wU
          refine ⟨fun hc => absurd hc (by decide), fun _ => ⟨vp_in_nI (by omega) (by decide), ?_⟩⟩
          rw [ixn (by omega), show M3 (w + 4) k = U 167 (7 + k) from (c3.1.2.1 k (by omega)).1]
          exact s9_note c3 hau.n2 (fun M4 c4 f4 => s9_bury wU c4 hk dU (fun M5 c5 f5 => fin M5 c5 ((f3.trans f4).trans f5)))
      refine s2_tells (CB_w c2) c2.1 gd.2.1.2.1 gd.1.2.1.1 hao hk (Or.inr (Or.inl rfl)) (fun M3 s3 => ?_)
      have c3 := CB_18 c2 s3
      have f3 : FR w M1 M3 := f2.trans (FR_18 s3)
      refine ⟨fun t0 => ?_, fun t0 => ?_⟩
      · have v0 : gOld k s.2 166 5 = 0 := by
          rcases hth with ⟨-, q⟩ | ⟨q, -⟩
          · rw [h5, q]
          · rw [q] at t0; exact absurd t0 (by decide)
        unfold NX0_letDie_101
        refine ⟨fun q => en false (gOld k s.2) M3 ?_ c3 f3 0 rfl, fun q => ?_⟩
        · unfold gMay1; rw [if_pos v0, if_pos q]
        · unfold FX9_draw
          rintro M4 rfl
          rw [show M3 w 17 = gOld k s.2 167 1 from c3.1.1.2.2.2.1, xu_same]
          have c4 : CB w (gDraw (gOld k s.2)) (xu M3 w 17 (1664525 * gOld k s.2 167 1 + 1013904223)) := CB_up (d := 0) (i := 17) c3 rfl (sub0 _)
          have f4 : FR w M1 (xu M3 w 17 (1664525 * gOld k s.2 167 1 + 1013904223)) := FR.up (d := 0) f3 (by decide) _ _
          have em : gMay1 P k (gOld k s.2) = (!decide (tell (gOld k s.2) P k 1 ≤ drw (1664525 * gOld k s.2 167 1 + 1013904223)), gDraw (gOld k s.2)) := by
            unfold gMay1; rw [if_pos v0, if_neg q, show gDraw (gOld k s.2) 167 1 = 1664525 * gOld k s.2 167 1 + 1013904223 from xu_same _ _ _ _]
          refine ⟨fun _ => ⟨by decide, fun z => ?_, fun z => ?_⟩, fun hc => absurd (by decide) hc⟩
          · rw [decide_eq_true (show tell (gOld k s.2) P k 1 ≤ drw (1664525 * gOld k s.2 167 1 + 1013904223) from z)] at em
            exact en false _ _ em c4 f4 0 rfl
          · rw [decide_eq_false (show ¬ tell (gOld k s.2) P k 1 ≤ drw (1664525 * gOld k s.2 167 1 + 1013904223) from z)] at em
            exact en true _ _ em c4 f4 1 rfl
      · have v0 : ¬ gOld k s.2 166 5 = 0 := by
          rcases hth with ⟨q, -⟩ | ⟨-, q⟩
          · exact absurd q t0
          · rw [h5, q]; decide
        have em : gMay1 P k (gOld k s.2) = (!decide (tell (gOld k s.2) P k 1 < 500), gOld k s.2) := by
          unfold gMay1; rw [if_neg v0]
        refine ⟨fun q => ?_, fun q => ?_⟩
        · rw [decide_eq_true q] at em; exact en false _ _ em c3 f3 0 rfl
        · rw [decide_eq_false q] at em; exact en true _ _ em c3 f3 1 rfl
