/-! of, loaves, comes -/
def LWX (V : Mem) : Prop := WFl V ∧ ∀ l, l < 16 → nI l < V 174 0 → ∀ i, i < 400 → V 176 l ≤ nI i → nI i < V 178 l → ∃ x, cRel x (V 179 i) (V 180 i)
theorem LWX_of {V M : Mem} (wl : WFl V) (hL : CL 12 V M) : LWX V := ⟨wl, fun l h1 h2 i h3 h4 h5 => ⟨_, (hL.2 l h1 h2).2.2.2.2 i h3 h4 h5⟩⟩
theorem s12_eatsOf {Q : Int32 → Mem → Prop} {V M : Mem} {P N g t : Nat} (hR : RV V M) (hl : LWX V) (ha : WFa V P N g) (ht : t < N) (h : ∀ M', RV V M' → LO M M' → Q (tell V P t 0) M') : FX12_eatsOf Q 166 (nI t) M := by
  have h14 := ha.1.2.2.2.2.1
  unfold FX12_eatsOf
  refine s12_asks hR ha ht (fun M1 r1 l1 a1 => ⟨vp35 (by omega), ?_⟩)
  rw [ix35 (by omega), show M1 (166 + 1) (35 + t) = V 167 (35 + t) from r1.r _]
  exact s12_lawTells (kw := 0) r1 a1 hl.2 hl.1 ha ht rfl rfl (fun M2 r2 l2 => h M2 r2 (l1.trans l2))
theorem s12_diesOf {Q : Int32 → Mem → Prop} {V M : Mem} {P N g t : Nat} (hR : RV V M) (hl : LWX V) (ha : WFa V P N g) (ht : t < N) (h : ∀ M', RV V M' → LO M M' → Q (tell V P t 1) M') : FX12_diesOf Q 166 (nI t) M := by
  have h14 := ha.1.2.2.2.2.1
  unfold FX12_diesOf
  refine s12_asks hR ha ht (fun M1 r1 l1 a1 => ⟨vp7 (by omega), s12_greater ⟨vp35 (by omega), s12_greater ?_⟩⟩)
  rw [ix35 (by omega), ix7 (by omega), show M1 (166 + 1) (35 + t) = V 167 (35 + t) from r1.r _, show M1 (166 + 1) (7 + t) = V 167 (7 + t) from r1.r _]
  exact s12_lawTells (kw := 1) r1 a1 hl.2 hl.1 ha ht rfl rfl (fun M2 r2 l2 => h M2 r2 (l1.trans l2))
theorem s12_leansOf {Q : Int32 → Mem → Prop} {V M : Mem} {P N g t : Nat} (hR : RV V M) (hl : LWX V) (ha : WFa V P N g) (ht : t < N) (h : ∀ M', RV V M' → LO M M' → Q (tell V P t 2) M') : FX12_leansOf Q 166 (nI t) M := by
  have h14 := ha.1.2.2.2.2.1
  unfold FX12_leansOf
  refine s12_asks hR ha ht (fun M1 r1 l1 a1 => ?_)
  rw [show M1 (166 + 19) 7 = abv V P t from a1 7 (by decide), show M1 (166 + 19) 2 = V 167 (21 + t) from a1 2 (by decide)]
  refine s12_partOf (by decide) ?_
  exact s12_lawTells (kw := 2) r1 a1 hl.2 hl.1 ha ht rfl rfl (fun M2 r2 l2 => h M2 r2 (l1.trans l2))
/-- a call that only tells: the law's stack, what was asked -/
theorem Inv_q {M M1 M2 : Mem} (hI : Inv M) (h18 : S18 M M1) (hR : RV (xu M 166 0 0) M2) (hL : LO M1 M2) : Inv M2 := by
  refine Inv_congr (fun c i h => ?_) hI
  have n18 : c ≠ 18 := by rintro rfl; simp [sc, dr] at h
  rcases Nat.lt_or_ge c 166 with h1 | h1
  · rw [hL c i h1, h18 c i n18]
  · have n5 : c ≠ 185 := by rintro rfl; simp [sc, vr] at h
    have n6 : c ≠ 186 := by rintro rfl; simp [sc, vr] at h
    have n0 : ¬ (c = 166 ∧ i = 0) := by rintro ⟨rfl, rfl⟩; simp [sc] at h
    rw [hR c i h1 n5 n6, told_ne n0]
theorem CL_now {M : Mem} (hI : Inv M) : CL 12 (xu M 166 0 0) M := CL_c (fun c i h => told_ne (by simp [pL] at h; omega)) (fun _ _ _ _ => rfl) hI.2.1.2.1
theorem WFl_now {M : Mem} (hI : Inv M) : WFl (xu M 166 0 0) := WFl_c (fun c i h => told_ne (by simp [pL] at h; omega)) hI.1.2.1
theorem LWX_now {M : Mem} (hI : Inv M) : LWX (xu M 166 0 0) := LWX_of (WFl_now hI) (CL_now hI)
theorem q_of : lq_of Inv := by
  intro M a b hI
  obtain ⟨P, N, ⟨g, wa, wb⟩, -, -, -, -, -⟩ := WW_now hI
  have cw := (CB_now hI).1
  have h10 := wa.1.2.2.2.1
  have h14 := wa.1.2.2.2.2.1
  have hN : M 2 11 = nI N := cw.1.2.1.trans wa.1.2.1
  have r0 : RV (xu M 166 0 0) (xu M 166 0 0) := RV.refl _
  have done : ∀ x y : Int32, x = y → x = y ∧ Inv (xu M 166 0 0) := fun x y e => ⟨e, Inv_told hI 0⟩
  unfold FX11_of
  refine s9_isSaint (w := 2) hN (by omega) (fun t ht e => ⟨fun _ => ?_, fun h => (by cases h)⟩) (fun hno => ⟨fun h => (by cases h), fun _ => ?_⟩)
  · subst e
    have c4 := cw.2.1 t (by omega)
    have v14 : vp_in (nI t) 14 := vp_in_nI (by omega) (by decide)
    have ref : ∀ (x : Int32) (M1 : Mem), S18 M M1 → (b = 0 → x = xu M 166 0 0 167 (7 + t)) → (b = 1 → x = xu M 166 0 0 170 t) → (b = 2 → x = xu M 166 0 0 167 (21 + t)) → (b = 3 → x = xu M 166 0 0 167 (35 + t)) → (b = 4 → x = xu M 166 0 0 167 (49 + t)) → (b = 5 → x = oI (pof (xu M 166 0 0) P (nI t))) → (b = 6 → x = oI (plc (xu M 166 0 0) g (nI t))) → (b = 7 → x = tell (xu M 166 0 0) P t 0) → (b = 8 → x = tell (xu M 166 0 0) P t 1) → (b = 9 → x = tell (xu M 166 0 0) P t 2) → (¬ b = 0 → ¬ b = 1 → ¬ b = 2 → ¬ b = 3 → ¬ b = 4 → ¬ b = 5 → ¬ b = 6 → ¬ b = 7 → ¬ b = 8 → ¬ b = 9 → x = -100) → FX12_of (fun r2 M2 => x = r2 ∧ Inv M2) 166 (nI t) b M1 := by
      intro x M1 s1 h0 h1 h2 h3 h4 h5 h6 h7 h8 h9 hx
      have r1 : RV (xu M 166 0 0) (xu M1 166 0 0) := RV_now (fun c i hc => s1 c i (by omega))
      have l1 : LO M1 (xu M1 166 0 0) := (LO.refl M1).up (by decide) _ _
      have I1 : Inv (xu M1 166 0 0) := Inv_q hI s1 r1 l1
      have rr : ∀ i, xu M1 166 0 0 (166 + 1) i = xu M 166 0 0 167 i := fun i => r1.r i
      unfold FX12_of
      rintro M2 rfl
      refine s12_isSaint (P := N) ((r1.n 7).trans wa.1.2.1) (by omega) (fun _ _ _ => ⟨fun _ => ?_, fun h => (by cases h)⟩) (fun q => absurd rfl (q t ht))
      rw [ix7 (by omega), ix21 (by omega), ix35 (by omega), ix49 (by omega), ixn (by omega), rr, rr, rr, rr, show xu M1 166 0 0 (166 + 4) t = xu M 166 0 0 170 t from r1 170 t (by decide) (by decide) (by decide)]
      refine ⟨fun n0 => ⟨fun n1 => ⟨fun n2 => ⟨fun n3 => ⟨fun n4 => ⟨fun n5 => ⟨fun n6 => ⟨fun n7 => ⟨fun n8 => ⟨fun n9 => ⟨hx n0 n1 n2 n3 n4 n5 n6 n7 n8 n9, I1⟩, fun e => s12_leansOf r1 (LWX_now hI) wa ht (fun M3 r3 l3 => ⟨h9 e, Inv_q hI s1 r3 (l1.trans l3)⟩)⟩, fun e => s12_diesOf r1 (LWX_now hI) wa ht (fun M3 r3 l3 => ⟨h8 e, Inv_q hI s1 r3 (l1.trans l3)⟩)⟩, fun e => s12_eatsOf r1 (LWX_now hI) wa ht (fun M3 r3 l3 => ⟨h7 e, Inv_q hI s1 r3 (l1.trans l3)⟩)⟩, fun e => s12_placeOf r1 wa.1.2.2.1 wa.1.2.2.2.2.2 ⟨h6 e, I1⟩⟩, fun e => s12_pillarOf r1 wa.1.1 h10 ⟨h5 e, I1⟩⟩, fun e => ⟨vp49 (by omega), h4 e, I1⟩⟩, fun e => ⟨vp35 (by omega), h3 e, I1⟩⟩, fun e => ⟨vp21 (by omega), h2 e, I1⟩⟩, fun e => ⟨v14, h1 e, I1⟩⟩, fun e => ⟨vp7 (by omega), h0 e, I1⟩⟩
    have no : ∀ {p : Prop} {k j : Int32}, b = k → k ≠ j → b = j → p := fun h1 h2 h3 => absurd (h1.symm.trans h3) h2
    have rest : (b < 7 ∨ 9 < b) → NX11_of_48 (fun r M1 => FX12_of (fun r2 M2 => r = r2 ∧ Inv M2) 166 (nI t) b M1) (nI t) b 2 M := by
      intro hb
      have n7 : b ≠ 7 := by rintro rfl; rcases hb with q | q <;> exact absurd q (by decide)
      have n8 : b ≠ 8 := by rintro rfl; rcases hb with q | q <;> exact absurd q (by decide)
      have n9 : b ≠ 9 := by rintro rfl; rcases hb with q | q <;> exact absurd q (by decide)
      unfold NX11_of_48 FX9_ofSaint
      refine s9_isSaint (w := 2) hN (by omega) (fun _ _ _ => ⟨fun _ => ?_, fun h => (by cases h)⟩) (fun q => absurd rfl (q t ht))
      rw [ixn (by omega), c4.1, c4.2.1, c4.2.2.1, c4.2.2.2.1]
      refine ⟨fun e => ⟨v14, ref _ M (S18.refl M) (fun _ => rfl) (no e (by decide)) (no e (by decide)) (no e (by decide)) (no e (by decide)) (no e (by decide)) (no e (by decide)) (no e (by decide)) (no e (by decide)) (no e (by decide)) (fun h => absurd e h)⟩,
        fun e => ⟨v14, ref _ M (S18.refl M) (no e (by decide)) (fun _ => rfl) (no e (by decide)) (no e (by decide)) (no e (by decide)) (no e (by decide)) (no e (by decide)) (no e (by decide)) (no e (by decide)) (no e (by decide)) (fun _ h => absurd e h)⟩,
        fun e => ⟨v14, ref _ M (S18.refl M) (no e (by decide)) (no e (by decide)) (fun _ => rfl) (no e (by decide)) (no e (by decide)) (no e (by decide)) (no e (by decide)) (no e (by decide)) (no e (by decide)) (no e (by decide)) (fun _ _ h => absurd e h)⟩,
        fun e => ⟨v14, ref _ M (S18.refl M) (no e (by decide)) (no e (by decide)) (no e (by decide)) (fun _ => rfl) (no e (by decide)) (no e (by decide)) (no e (by decide)) (no e (by decide)) (no e (by decide)) (no e (by decide)) (fun _ _ _ h => absurd e h)⟩,
        fun e => s9_isDead cw wa ht (fun hd => ⟨fun h => (by cases h), fun _ => ref _ M (S18.refl M) (no e (by decide)) (no e (by decide)) (no e (by decide)) (no e (by decide)) (fun _ => hd.symm) (no e (by decide)) (no e (by decide)) (no e (by decide)) (no e (by decide)) (no e (by decide)) (fun _ _ _ _ h => absurd e h)⟩) (fun hd => ⟨fun _ => ref _ M (S18.refl M) (no e (by decide)) (no e (by decide)) (no e (by decide)) (no e (by decide)) (fun _ => hd.symm) (no e (by decide)) (no e (by decide)) (no e (by decide)) (no e (by decide)) (no e (by decide)) (fun _ _ _ _ h => absurd e h), fun h => (by cases h)⟩),
        fun e => s9_pillarOf cw wa.1.1 h10 (m1_ne (by omega)) (ref _ M (S18.refl M) (no e (by decide)) (no e (by decide)) (no e (by decide)) (no e (by decide)) (no e (by decide)) (fun _ => rfl) (no e (by decide)) (no e (by decide)) (no e (by decide)) (no e (by decide)) (fun _ _ _ _ _ h => absurd e h)),
        fun e => s9_ahead cw wa.1.2.2.1 wa.1.2.2.2.2.2 (ref _ M (S18.refl M) (no e (by decide)) (no e (by decide)) (no e (by decide)) (no e (by decide)) (no e (by decide)) (no e (by decide)) (fun _ => rfl) (no e (by decide)) (no e (by decide)) (no e (by decide)) (fun _ _ _ _ _ _ h => absurd e h)),
        fun m0 m1 m2 m3 m4 m5 m6 => ref _ M (S18.refl M) (fun e => absurd e m0) (fun e => absurd e m1) (fun e => absurd e m2) (fun e => absurd e m3) (fun e => absurd e m4) (fun e => absurd e m5) (fun e => absurd e m6) (fun e => absurd e n7) (fun e => absurd e n8) (fun e => absurd e n9) (fun _ _ _ _ _ _ _ _ _ _ => rfl)⟩
    refine ⟨fun h => rest (Or.inl h), fun h7 => ⟨fun h => rest (Or.inr h), fun h9 => ?_⟩⟩
    obtain ⟨j, hj, rfl⟩ := nI_le_of (x := b) (k := 9) (fun q => h7 (by grind)) h9 (by decide)
    have : 7 ≤ j := by
      rcases Nat.lt_or_ge j 7 with q | q
      · exact absurd (nI_lt (b := 7) q (by decide)) h7
      · exact q
    rcases (show j = 7 ∨ j = 8 ∨ j = 9 by omega) with rfl | rfl | rfl
    · refine s2_tells (w := 2) (kw := nI 7 - 7) (Or.inl rfl) cw (CL_now hI) (WFl_now hI) wa ht (Or.inl (by decide)) (fun M1 s1 => ?_)
      rw [show nI 7 - 7 = (0 : Int32) by decide]
      exact ref _ M1 s1 (no rfl (by decide)) (no rfl (by decide)) (no rfl (by decide)) (no rfl (by decide)) (no rfl (by decide)) (no rfl (by decide)) (no rfl (by decide)) (fun _ => rfl) (no rfl (by decide)) (no rfl (by decide)) (fun _ _ _ _ _ _ _ h => absurd rfl h)
    · refine s2_tells (w := 2) (kw := nI 8 - 7) (Or.inl rfl) cw (CL_now hI) (WFl_now hI) wa ht (Or.inr (Or.inl (by decide))) (fun M1 s1 => ?_)
      rw [show nI 8 - 7 = (1 : Int32) by decide]
      exact ref _ M1 s1 (no rfl (by decide)) (no rfl (by decide)) (no rfl (by decide)) (no rfl (by decide)) (no rfl (by decide)) (no rfl (by decide)) (no rfl (by decide)) (no rfl (by decide)) (fun _ => rfl) (no rfl (by decide)) (fun _ _ _ _ _ _ _ _ h => absurd rfl h)
    · refine s2_tells (w := 2) (kw := nI 9 - 7) (Or.inl rfl) cw (CL_now hI) (WFl_now hI) wa ht (Or.inr (Or.inr (by decide))) (fun M1 s1 => ?_)
      rw [show nI 9 - 7 = (2 : Int32) by decide]
      exact ref _ M1 s1 (no rfl (by decide)) (no rfl (by decide)) (no rfl (by decide)) (no rfl (by decide)) (no rfl (by decide)) (no rfl (by decide)) (no rfl (by decide)) (no rfl (by decide)) (no rfl (by decide)) (fun _ => rfl) (fun _ _ _ _ _ _ _ _ _ h => absurd rfl h)
  · unfold FX12_of
    rintro M1 rfl
    exact s12_isSaint (P := N) wa.1.2.1 (by omega) (fun k hk e => absurd e (hno k hk)) (fun _ => ⟨fun h => (by cases h), fun _ => ⟨rfl, Inv_told hI 0⟩⟩)
/-- who sits: a saint, or nobody -/
theorem sit_of {V : Mem} {P N g p : Nat} (ha : WFa V P N g) (hp : p < P) : (V 167 (73 + p) = 0 ∧ V 167 (73 + p) - 1 = -1) ∨ ∃ t, t < N ∧ V 167 (73 + p) = nI (t + 1) ∧ V 167 (73 + p) - 1 = nI t := by
  obtain ⟨a, h1, h2⟩ := ha.2.2.1 p hp
  cases a with
  | zero => exact Or.inl ⟨h2, by rw [h2]; decide⟩
  | succ a => exact Or.inr ⟨a, by omega, h2, by rw [h2, nI_s1]⟩
def lvs (V : Mem) (P : Nat) : Nat → Int32
  | 0 => 0
  | p + 1 => if V 167 (73 + p) = 0 then lvs V P p else lvs V P p + tell V P (ix (V 167 (73 + p) - 1)) 0
theorem q_loaves : lq_loaves Inv := by
  intro M hI
  obtain ⟨P, N, ⟨g, wa, wb⟩, -, -, -, -, -⟩ := WW_now hI
  have cw := (CB_now hI).1
  have h10 := wa.1.2.2.2.1
  have h14 := wa.1.2.2.2.2.1
  unfold FX11_loaves NX11_loaves_12
  refine xlp_for (fun r a => ∃ p, p + r = P ∧ a.1 = lvs (xu M 166 0 0) P p ∧ a.2.1 = nI p ∧ S18 M a.2.2) ?_ ?_ P (0, 0, M) ⟨0, by omega, rfl, rfl, S18.refl M⟩
  · rintro ⟨x, y, M1⟩ B ⟨p, hp, hx, hy, s1⟩
    have hx : x = lvs (xu M 166 0 0) P p := hx
    have hy : y = nI p := hy
    subst hx hy
    have s1 : S18 M M1 := s1
    have : p = P := by omega
    subst this
    show lbX11_loaves_12 _ 0 (0 + 1 + 1) (fun l2 l3 M => B (l2, l3, M)) (lvs (xu M 166 0 0) p p) (nI p) M1
    unfold lbX11_loaves_12
    rw [show M1 (0 + 1 + 1) 10 = nI p from (s1 2 10 (by decide)).trans (cw.1.1.trans wa.1.1)]
    refine ⟨fun _ => ?_, fun hc => absurd (nI_le (Nat.le_refl _) (by omega)) hc⟩
    unfold FX12_loaves
    rintro M2 rfl
    have r1 : RV (xu M 166 0 0) (xu M1 166 0 0) := RV_now (fun c i hc => s1 c i (by omega))
    unfold NX12_loaves_9
    refine xlp_for (fun r a => ∃ q, q + r = p ∧ a.1 = lvs (xu M 166 0 0) p q ∧ a.2.1 = nI q ∧ RV (xu M 166 0 0) a.2.2 ∧ LO M1 a.2.2) ?_ ?_ p (0, 0, _) ⟨0, by omega, rfl, rfl, r1, (LO.refl M1).up (by decide) _ _⟩
    · rintro ⟨x, y, M2⟩ B2 ⟨q, hq, hx, hy, r2, l2⟩
      have hx : x = lvs (xu M 166 0 0) p q := hx
      have hy : y = nI q := hy
      subst hx hy
      have r2 : RV (xu M 166 0 0) M2 := r2
      have l2 : LO M1 M2 := l2
      have : q = p := by omega
      subst this
      show lbX12_loaves_9 _ 166 (fun l2 l3 M => B2 (l2, l3, M)) (lvs (xu M 166 0 0) q q) (nI q) M2
      unfold lbX12_loaves_9
      rw [show M2 166 6 = nI q from (r2.n 6).trans wa.1.1]
      exact ⟨fun _ => ⟨rfl, Inv_q hI s1 r2 l2⟩, fun hc => absurd (nI_le (Nat.le_refl _) (by omega)) hc⟩
    · rintro r ⟨x, y, M2⟩ B2 ⟨q, hq, hx, hy, r2, l2⟩ hB
      have hx : x = lvs (xu M 166 0 0) p q := hx
      have hy : y = nI q := hy
      subst hx hy
      have r2 : RV (xu M 166 0 0) M2 := r2
      have l2 : LO M1 M2 := l2
      show lbX12_loaves_9 _ 166 (fun l2 l3 M => B2 (l2, l3, M)) (lvs (xu M 166 0 0) p q) (nI q) M2
      unfold lbX12_loaves_9
      rw [show M2 166 6 = nI p from (r2.n 6).trans wa.1.1, nI_1]
      refine ⟨fun hc => absurd hc (nI_ge (by omega) (by omega)), fun _ => s12_sitterOf (by omega) ?_⟩
      rw [r2.r]
      rcases sit_of wa (show q < p by omega) with ⟨z1, z2⟩ | ⟨t, ht, z1, z2⟩
      · rw [z2]
        exact ⟨fun _ => hB _ ⟨q + 1, by omega, by simp only [lvs]; rw [if_pos z1], rfl, r2, l2⟩, fun hc => absurd rfl hc⟩
      · rw [z2]
        refine ⟨fun hc => absurd hc (m1_ne (by omega)), fun _ => s12_sitterOf (by omega) ?_⟩
        rw [r2.r, z2]
        refine s12_eatsOf r2 (LWX_now hI) wa ht (fun M3 r3 l3 => hB _ ⟨q + 1, by omega, ?_, rfl, r3, l2.trans l3⟩)
        simp only [lvs]
        rw [if_neg (by rw [z1]; exact nI_ne0 (by omega) (by omega)), z2, ixn (by omega)]
  · rintro r ⟨x, y, M1⟩ B ⟨p, hp, hx, hy, s1⟩ hB
    have hx : x = lvs (xu M 166 0 0) P p := hx
    have hy : y = nI p := hy
    subst hx hy
    have s1 : S18 M M1 := s1
    have c1 := CW_18 (Or.inl rfl) cw s1
    show lbX11_loaves_12 _ 0 (0 + 1 + 1) (fun l2 l3 M => B (l2, l3, M)) (lvs (xu M 166 0 0) P p) (nI p) M1
    unfold lbX11_loaves_12
    rw [show M1 (0 + 1 + 1) 10 = nI P from c1.1.1.trans wa.1.1, nI_1]
    refine ⟨fun hc => absurd hc (nI_ge (by omega) (by omega)), fun _ => s9_sitterOn (w := 2) (P := P) (c1.1.1.trans wa.1.1) h10 (by omega) ?_⟩
    rw [show M1 (2 + 2) p = xu M 166 0 0 167 (73 + p) - 1 from (c1.2.2 p (by omega)).2.1]
    rcases sit_of wa (show p < P by omega) with ⟨z1, z2⟩ | ⟨t, ht, z1, z2⟩
    · rw [z2]
      exact ⟨fun _ => hB _ ⟨p + 1, by omega, by simp only [lvs]; rw [if_pos z1], rfl, s1⟩, fun hc => absurd rfl hc⟩
    · rw [z2]
      refine ⟨fun hc => absurd hc (m1_ne (by omega)), fun _ => s2_tells (w := 2) (Or.inl rfl) c1 (CL_18 (CL_now hI) s1) (WFl_now hI) wa ht (Or.inl rfl) (fun M2 s2 => hB _ ⟨p + 1, by omega, ?_, rfl, s1.trans s2⟩)⟩
      simp only [lvs]
      rw [if_neg (by rw [z1]; exact nI_ne0 (by omega) (by omega)), z2, ixn (by omega)]
