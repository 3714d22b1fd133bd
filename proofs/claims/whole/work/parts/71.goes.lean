/-! in thought: goes, heir -/
def gThink (V : Mem) : Mem := fun c i => if c = 166 ∧ i = 5 then 1 else if c = 169 ∧ i < 107 then V 167 i else V c i
def gEnd (W : Mem) : Mem := fun c i => if c = 166 ∧ i = 5 then 0 else if c = 167 ∧ i < 107 then W 169 i else W c i
theorem s12_thinks {Q : Mem → Prop} {V M : Mem} (hR : RV V M) (h : ∀ M', RV (gThink V) M' → LO M M' → Q M') : FX12_thinks Q 166 M := by
  unfold FX12_thinks NX12_thinks_2
  refine xlp_for (fun r a => ∃ k, k + r = 107 ∧ a.1 = nI k ∧ LO M a.2 ∧ RV (fun c i => if c = 169 ∧ i < k then V 167 i else V c i) a.2) ?_ ?_ 107 (0, M) ⟨0, rfl, rfl, LO.refl M, fun c i z1 z2 z3 => ?_⟩
  · rintro ⟨x, M4⟩ B ⟨k, hk, hx, l4, r4⟩
    have hx : x = nI k := hx
    subst hx
    have : k = 107 := by omega
    subst this
    have l4 : LO M M4 := l4
    have r4 : RV (fun c i => if c = 169 ∧ i < 107 then V 167 i else V c i) M4 := r4
    show lbX12_thinks_2 Q 166 (fun l1 M => B (l1, M)) (nI 107) M4
    unfold lbX12_thinks_2
    refine ⟨fun _ => ?_, fun hc => absurd (by decide) hc⟩
    rintro M5 rfl
    refine h _ (fun c i z1 z2 z3 => ?_) (l4.up (by decide) _ _)
    rw [xu_if]
    unfold gThink
    by_cases e : c = 166 ∧ i = 5
    · rw [if_pos e, if_pos e]
    · rw [if_neg e, if_neg e]; exact r4 c i z1 z2 z3
  · rintro r ⟨x, M4⟩ B ⟨k, hk, hx, l4, r4⟩ hB
    have hx : x = nI k := hx
    subst hx
    have l4 : LO M M4 := l4
    have r4 : RV (fun c i => if c = 169 ∧ i < k then V 167 i else V c i) M4 := r4
    show lbX12_thinks_2 Q 166 (fun l1 M => B (l1, M)) (nI k) M4
    unfold lbX12_thinks_2
    have e6 : M4 (166 + 1) k = V 167 k := (r4.r k).trans (by (try dsimp only); rw [if_neg (by omega)])
    rw [ixn (by omega), nI_1, e6]
    refine ⟨fun hc => absurd hc (nI_ge (b := 107) (by omega) (by decide)), fun _ => ⟨vp_in_nI (by omega) (by decide), vp_in_nI (by omega) (by decide), ?_⟩⟩
    rintro M5 rfl
    refine hB _ ⟨k + 1, by omega, rfl, l4.up (by decide) _ _, fun c i z1 z2 z3 => ?_⟩
    show xu M4 (166 + 3) k _ c i = _
    rw [xu_if]
    by_cases e : c = 169 ∧ i = k
    · obtain ⟨rfl, rfl⟩ := e
      dsimp only
      rw [if_pos ⟨rfl, rfl⟩, if_pos (by omega)]
    · rw [if_neg e, r4 c i z1 z2 z3]
      dsimp only
      by_cases e2 : c = 169 ∧ i < k
      · rw [if_pos e2, if_pos (by omega)]
      · rw [if_neg e2, if_neg (by omega)]
  · dsimp only
    rw [if_neg (by omega)]; exact hR c i z1 z2 z3
theorem s12_ends {Q : Mem → Prop} {V M : Mem} (hR : RV V M) (h : ∀ M', RV (gEnd V) M' → LO M M' → Q M') : FX12_endsThought Q 166 M := by
  unfold FX12_endsThought NX12_endsThought_2
  refine xlp_for (fun r a => ∃ k, k + r = 107 ∧ a.1 = nI k ∧ LO M a.2 ∧ RV (fun c i => if c = 167 ∧ i < k then V 169 i else V c i) a.2) ?_ ?_ 107 (0, M) ⟨0, rfl, rfl, LO.refl M, fun c i z1 z2 z3 => ?_⟩
  · rintro ⟨x, M4⟩ B ⟨k, hk, hx, l4, r4⟩
    have hx : x = nI k := hx
    subst hx
    have : k = 107 := by omega
    subst this
    have l4 : LO M M4 := l4
    have r4 : RV (fun c i => if c = 167 ∧ i < 107 then V 169 i else V c i) M4 := r4
    show lbX12_endsThought_2 Q 166 (fun l1 M => B (l1, M)) (nI 107) M4
    unfold lbX12_endsThought_2
    refine ⟨fun _ => ?_, fun hc => absurd (by decide) hc⟩
    rintro M5 rfl
    refine h _ (fun c i z1 z2 z3 => ?_) (l4.up (by decide) _ _)
    rw [xu_if]
    unfold gEnd
    by_cases e : c = 166 ∧ i = 5
    · rw [if_pos e, if_pos e]
    · rw [if_neg e, if_neg e]; exact r4 c i z1 z2 z3
  · rintro r ⟨x, M4⟩ B ⟨k, hk, hx, l4, r4⟩ hB
    have hx : x = nI k := hx
    subst hx
    have l4 : LO M M4 := l4
    have r4 : RV (fun c i => if c = 167 ∧ i < k then V 169 i else V c i) M4 := r4
    show lbX12_endsThought_2 Q 166 (fun l1 M => B (l1, M)) (nI k) M4
    unfold lbX12_endsThought_2
    have e6 : M4 (166 + 3) k = V 169 k := (r4 169 k (by decide) (by decide) (by decide)).trans (by dsimp only; rw [if_neg (by omega)])
    rw [ixn (by omega), nI_1, e6]
    refine ⟨fun hc => absurd hc (nI_ge (b := 107) (by omega) (by decide)), fun _ => ⟨vp_in_nI (by omega) (by decide), vp_in_nI (by omega) (by decide), ?_⟩⟩
    rintro M5 rfl
    refine hB _ ⟨k + 1, by omega, rfl, l4.up (by decide) _ _, fun c i z1 z2 z3 => ?_⟩
    show xu M4 (166 + 1) k _ c i = _
    rw [xu_if]
    by_cases e : c = 167 ∧ i = k
    · obtain ⟨rfl, rfl⟩ := e
      dsimp only
      rw [if_pos ⟨rfl, rfl⟩, if_pos (by omega)]
    · rw [if_neg e, r4 c i z1 z2 z3]
      dsimp only
      by_cases e2 : c = 167 ∧ i < k
      · rw [if_pos e2, if_pos (by omega)]
      · rw [if_neg e2, if_neg (by omega)]
  · dsimp only
    rw [if_neg (by omega)]; exact hR c i z1 z2 z3
theorem think_n {V : Mem} {c i : Nat} (h1 : ¬ (c = 166 ∧ i = 5)) (h2 : c ≠ 169) : gThink V c i = V c i := by
  unfold gThink
  rw [if_neg h1, if_neg (by omega)]
/-- the world in thought, once it is copied -/
theorem think_start {M M1 : Mem} {P N : Nat} (hI : Inv M) (dv : DV (xu M 166 0 0) P N) (q0 : ∀ i, 9 ≤ i → i ≤ 18 → M1 67 i = M 2 i) (q1 : ∀ d i, 1 ≤ d → d ≤ 3 → i < 10 → M1 (67 + d) i = M (2 + d) i) (q2 : ∀ d i, 4 ≤ d → d ≤ 8 → i < 14 → M1 (67 + d) i = M (2 + d) i) (q5 : ∀ c i, ¬ (67 ≤ c ∧ c ≤ 67 + 9) → M1 c i = M c i) : DV (gThink (xu M 166 0 0)) P N ∧ DS 67 (gThink (xu M 166 0 0)) M1 := by
  obtain ⟨⟨g, ha, hb⟩, h2, h3, h4⟩ := dv
  have ds := DS_now hI
  have tn : ∀ i, gThink (xu M 166 0 0) 167 i = xu M 166 0 0 167 i := fun i => think_n (by omega) (by omega)
  refine ⟨⟨⟨g, WFa_congr2 (think_n (by omega) (by omega)) (think_n (by omega) (by omega)) (fun i _ => tn i) ha, WFb_congr2 ha.1.2.2.2.1 ha.1.2.2.2.2.1 ha.1.2.2.2.2.2 (fun i _ => tn i) hb⟩, LWX_c (fun c i q => think_n ?_ ?_) h2, WFp_c (fun c i q => think_n ?_ ?_) h3, WFs_c (fun c i q => think_n ?_ ?_) h4⟩, ⟨CW_c (fun c i q => think_n ?_ ?_) (fun _ _ _ => rfl) (CW_copy q0 q1 q2 ds.1.1), Or.inr ⟨rfl, ?_⟩⟩, CL_c (fun c i q => think_n ?_ ?_) (fun c i z1 z2 => q5 c i (by omega)) ds.2.1, CP_c (fun c i q => think_n ?_ ?_) (fun c i z1 z2 => q5 c i (by omega)) ds.2.2.1, CS_c (fun c i q => think_n ?_ ?_) (fun c i z1 z2 => q5 c i (by omega)) ds.2.2.2⟩
  · simp [pL] at q; omega
  · simp [pL] at q; omega
  · simp [pP] at q; omega
  · simp [pP] at q; omega
  · simp [pS] at q; omega
  · simp [pS] at q; omega
  · simp [pW] at q; omega
  · simp [pW] at q; omega
  · unfold gThink; rw [if_pos ⟨rfl, rfl⟩]
  · simp [pL] at q; omega
  · simp [pL] at q; omega
  · simp [pP] at q; omega
  · simp [pP] at q; omega
  · simp [pS] at q; omega
  · simp [pS] at q; omega
/-- behind the thought all is as it was -/
theorem think_end {M M1 M2 W : Mem} (hI : Inv M) (hf : ∀ c i, ¬ (67 ≤ c ∧ c ≤ 67 + 9) → c ≠ 18 → M1 c i = M c i) (hg : GN (gThink (xu M 166 0 0)) W) (hR : RV (gEnd W) M2) (hL : LO M1 M2) : Inv M2 := by
  refine Inv_congr (fun c i h => ?_) hI
  have n18 : c ≠ 18 := by rintro rfl; simp [sc, dr] at h
  rcases Nat.lt_or_ge c 166 with h1 | h1
  · have n67 : ¬ (67 ≤ c ∧ c ≤ 67 + 9) := by
      rintro ⟨z1, z2⟩
      unfold sc at h
      rw [if_neg (by omega), if_neg (by omega), if_neg (by omega), if_neg (by omega), if_neg (by omega), if_pos (by omega)] at h
      cases h
    rw [hL c i h1, hf c i n67 n18]
  · have n5 : c ≠ 185 := by rintro rfl; simp [sc, vr] at h
    have n6 : c ≠ 186 := by rintro rfl; simp [sc, vr] at h
    have n9 : c ≠ 169 := by rintro rfl; simp [sc, vr] at h
    have n0 : ¬ (c = 166 ∧ i = 0) := by rintro ⟨rfl, rfl⟩; simp [sc] at h
    rw [hR c i h1 n5 n6]
    unfold gEnd
    by_cases e : c = 166 ∧ i = 5
    · rw [if_pos e, e.1, e.2]; exact hI.2.2.2.2.1.2.symm
    · rw [if_neg e]
      by_cases e7 : c = 167
      · subst e7
        have hi : i < 107 := by
          rcases Nat.lt_or_ge i 107 with q | q
          · exact q
          · have : ¬ i < 107 := by omega
            simp [sc, vr, this] at h
        rw [if_pos ⟨rfl, hi⟩, hg.1 169 i (by decide) (by decide)]
        unfold gThink
        rw [if_neg (by omega), if_pos ⟨rfl, hi⟩, told_ne (by omega)]
      · rw [if_neg (by omega)]
        by_cases e8 : c = 171
        · subst e8
          rw [hg.2 (by unfold gThink; rw [if_pos ⟨rfl, rfl⟩]; decide) i, think_n (by omega) (by omega), told_ne (by omega)]
        · rw [hg.1 c i e7 e8, think_n e n9, told_ne n0]
theorem dset_nI {f : Nat → Int32} : ∀ {n : Nat}, n ≤ 16 → ∃ m, m < 2 ^ n ∧ dset f n = nI m
  | 0, _ => ⟨0, by decide, rfl⟩
  | n + 1, hn => by
    obtain ⟨m, h1, h2⟩ := dset_nI (f := f) (n := n) (by omega)
    simp only [dset]
    split
    · have e : ∀ k, k < 16 → (1 : Int32) <<< (nI k &&& 31) = nI (2 ^ k) := by decide +kernel
      refine ⟨m ||| 2 ^ n, Nat.or_lt_two_pow (by rw [Nat.pow_succ]; omega) (by rw [Nat.pow_succ]; have := Nat.two_pow_pos n; omega), ?_⟩
      rw [h2, e n (by omega), nI_or]
    · exact ⟨m, by rw [Nat.pow_succ]; omega, h2⟩
def hun (W : Mem) : Nat → Int32
  | 0 => 0
  | k + 1 => if W 167 (49 + k) = 0 then hun W k + W 167 (35 + k) else hun W k
theorem s9_hunliv {Q : Int32 → Prop} {w : Nat} {V M : Mem} {P N g : Nat} (hC : CW w V M) (ha : WFa V P N g) (h : Q (hun V N)) : FX9_hungerOfLiving Q w M := by
  have h14 := ha.1.2.2.2.2.1
  have e11 : M w 11 = nI N := hC.1.2.1.trans ha.1.2.1
  unfold FX9_hungerOfLiving NX9_hungerOfLiving_4
  refine xlp_for (fun r a => ∃ k, k + r = N ∧ a.1 = hun V k ∧ a.2 = nI k) ?_ ?_ N (0, 0) ⟨0, by omega, rfl, rfl⟩
  · rintro ⟨x, y⟩ B ⟨k, hk, hx, hy⟩
    have hx : x = hun V k := hx
    have hy : y = nI k := hy
    subst hx hy
    have : k = N := by omega
    subst this
    show lbX9_hungerOfLiving_4 Q w M (fun l1 l2 => B (l1, l2)) (hun V k) (nI k)
    unfold lbX9_hungerOfLiving_4
    rw [e11]
    exact ⟨fun _ => h, fun hc => absurd (nI_le (Nat.le_refl _) (by omega)) hc⟩
  · rintro r ⟨x, y⟩ B ⟨k, hk, hx, hy⟩ hB
    have hx : x = hun V k := hx
    have hy : y = nI k := hy
    subst hx hy
    show lbX9_hungerOfLiving_4 Q w M (fun l1 l2 => B (l1, l2)) (hun V k) (nI k)
    unfold lbX9_hungerOfLiving_4
    rw [e11, nI_1]
    refine ⟨fun hc => absurd hc (nI_ge (by omega) (by omega)), fun _ => s9_isDead hC ha (by omega) (fun hd => ⟨fun _ => hB _ ⟨k + 1, by omega, ?_, rfl⟩, fun h => (by cases h)⟩) (fun hd => ⟨fun h => (by cases h), fun _ => ⟨vp_in_nI (by omega) (by decide), ?_⟩⟩)⟩
    · simp only [hun]; rw [if_neg (by rw [hd]; decide)]
    · rintro y rfl
      refine hB _ ⟨k + 1, by omega, ?_, rfl⟩
      simp only [hun]
      rw [if_pos hd, ixn (by omega), (hC.2.1 k (by omega)).2.2.2.1]
theorem q_goes : lq_goes Inv := by
  intro M a b hI
  obtain ⟨P, N, dv, wz, wpm⟩ := DV_now hI
  have I1 := Inv_told hI 0
  have no : (¬ (1 ≤ a ∧ a ≤ 60) ∨ ¬ (0 ≤ b ∧ b ≤ 3)) → FX12_goes (fun r2 M2 => (-100 : Int32) = r2 ∧ Inv M2) 166 a b M := by
    intro hno
    unfold FX12_goes
    rintro M1 rfl
    refine s12_isIn ⟨fun _ => ⟨rfl, I1⟩, fun h1 => s12_isIn ⟨fun h2 => ?_, fun _ => ⟨rfl, I1⟩⟩⟩
    rcases hno with z | z
    · exact absurd (of_decide_eq_true h1) z
    · exact absurd (of_decide_eq_true h2) z
  unfold FX11_goes
  refine ⟨fun h => no (Or.inl (fun q => absurd q.1 (Int32.not_le.mpr h))), fun h1 => ⟨fun h => no (Or.inl (fun q => absurd q.2 (Int32.not_le.mpr h))), fun h2 => ⟨fun h => no (Or.inr (fun q => absurd q.1 (Int32.not_le.mpr h))), fun h3 => ⟨fun h4 => ?_, fun h => no (Or.inr (fun q => h q.2))⟩⟩⟩⟩
  obtain ⟨n, n1, n60, rfl⟩ := inNat (lo := 1) (hi := 60) (by decide) (Int32.not_lt.mp h1) (Int32.not_lt.mp h2) (by decide)
  refine s9_copy (w := 67) (u := 2) (n := 0) (by omega) (by decide) (by decide) (fun M1 q0 q1 q2 q3 q4 q5 => ?_)
  obtain ⟨d0, s0⟩ := think_start hI dv q0 q1 q2 q5
  show NX11_goes_39 _ 0 (nI n) b 0 M1
  unfold NX11_goes_39
  have v5 : gThink (xu M 166 0 0) 166 5 = 1 := by unfold gThink; rw [if_pos ⟨rfl, rfl⟩]
  refine xlp_rel (fun _ V => (gDay P N V).2) (gThink (xu M 166 0 0)) n (fun k V a => a.1 = nI k ∧ CGd P N 67 M1 V a.2 ∧ GN (gThink (xu M 166 0 0)) V) (0, M1) ⟨rfl, ⟨d0, s0, FR.refl 67 M1⟩, GN.refl _⟩ ?_ ?_
  · rintro ⟨x, M2⟩ B ⟨hx, g2, n2⟩
    have hx : x = nI n := hx
    subst hx
    generalize eW : fo (fun _ V => (gDay P N V).2) (gThink (xu M 166 0 0)) n = W at g2 n2
    have g2 : CGd P N 67 M1 W M2 := g2
    have n2 : GN (gThink (xu M 166 0 0)) W := n2
    have cw := g2.2.1.1.1
    obtain ⟨g, ha, hb⟩ := id g2.1.1
    have h10 := ha.1.2.2.2.1
    have h14 := ha.1.2.2.2.2.1
    have f2 : ∀ c i, ¬ (67 ≤ c ∧ c ≤ 67 + 9) → c ≠ 18 → M2 c i = M c i := fun c i z1 z2 => (g2.2.2 c i z1 z2).trans (q5 c i z1)
    have ref : ∀ x : Int32, (b = 0 → ∃ m, m < 65536 ∧ dset (fun t => W 167 (49 + t)) N = nI m ∧ x = nI (popf 16 m)) → (b = 1 → x = W 167 4) → (b = 2 → x = hun W N) → (¬ b = 0 → ¬ b = 1 → ¬ b = 2 → x = if W 167 83 = 0 then 0 else W 167 83 - 100) → FX12_goes (fun r2 M2 => x = r2 ∧ Inv M2) 166 (nI n) b M2 := by
      intro x x0 x1 x2 x3
      unfold FX12_goes
      rintro M3 rfl
      have r3 : RV (xu M 166 0 0) (xu M2 166 0 0) := RV_now (fun c i h => f2 c i (by omega) (by omega))
      refine s12_isIn ⟨fun h => absurd ⟨Int32.not_lt.mp h1, Int32.not_lt.mp h2⟩ (of_decide_eq_false h), fun _ => s12_isIn ⟨fun _ => s12_thinks r3 (fun M4 r4 l4 => ?_), fun h => absurd ⟨Int32.not_lt.mp h3, h4⟩ (of_decide_eq_false h)⟩⟩
      unfold NX12_goes_35
      refine xlp_rel (fun _ V => (gDay P N V).2) (gThink (xu M 166 0 0)) n (fun k V a => a.1 = nI k ∧ RGd P N M4 V a.2) (0, M4) ⟨rfl, d0, r4, LO.refl M4⟩ ?_ ?_
      · rintro ⟨y, M5⟩ B2 ⟨hy, g5⟩
        have hy : y = nI n := hy
        subst hy
        rw [eW] at g5
        have g5 : RGd P N M4 W M5 := g5
        have r5 := g5.2.1
        have l5 : LO M2 M5 := (((LO.refl M2).up (by decide) _ _).trans l4).trans g5.2.2
        show lbX12_goes_35 _ 166 (nI n) b (fun l3 M => B2 (l3, M)) (nI n) M5
        unfold lbX12_goes_35
        refine ⟨fun _ => ?_, fun hc => absurd (nI_le (Nat.le_refl _) (by omega)) hc⟩
        have fin : ∀ y : Int32, x = y → NX12_goes_163 (fun r2 M2 => x = r2 ∧ Inv M2) 166 y M5 := by
          rintro y rfl
          unfold NX12_goes_163
          exact s12_ends r5 (fun M6 r6 l6 => ⟨rfl, think_end hI f2 n2 r6 (l5.trans l6)⟩)
        have last : ∀ y : Int32, y = (if W 167 83 = 0 then 0 else W 167 83 - 100) → NX12_goes_121 (fun r2 M2 => x = r2 ∧ Inv M2) 166 b (hun W N) y M5 := by
          rintro y rfl
          unfold NX12_goes_121
          refine ⟨fun c0 => ⟨fun c1 => ⟨fun c2 => fin _ (x3 c0 c1 c2), fun c2 => fin _ (x2 c2)⟩, fun c1 => ?_⟩, fun c0 => ?_⟩
          · rw [show M5 (166 + 1) 4 = W 167 4 from r5.r 4]; exact fin _ (x1 c1)
          · obtain ⟨m, m1, m2, m3⟩ := x0 c0
            refine s12_deadSet (N := N) ((r5.n 7).trans ha.1.2.1) h14 ?_
            rw [dset_congr (g := fun t => W 167 (49 + t)) (fun k _ => r5.r _), m2]
            exact s12_onesOf m1 (fin _ m3)
        unfold NX12_goes_56
        refine xlp_for (fun r a => ∃ k, k + r = N ∧ a.1 = hun W k ∧ a.2 = nI k) ?_ ?_ N (0, 0) ⟨0, by omega, rfl, rfl⟩
        · rintro ⟨x', y'⟩ B3 ⟨k, hk, hx', hy'⟩
          have hx' : x' = hun W k := hx'
          have hy' : y' = nI k := hy'
          subst hx' hy'
          have : k = N := by omega
          subst this
          show lbX12_goes_56 _ 166 b M5 (fun l1 l2 => B3 (l1, l2)) (hun W k) (nI k)
          unfold lbX12_goes_56
          rw [show M5 166 7 = nI k from (r5.n 7).trans ha.1.2.1, show M5 (166 + 1) 83 = W 167 83 from r5.r 83]
          exact ⟨fun _ => ⟨fun q => last _ (by rw [if_neg q]), fun q => last _ (by rw [if_pos q])⟩, fun hc => absurd (nI_le (Nat.le_refl _) (by omega)) hc⟩
        · rintro r ⟨x', y'⟩ B3 ⟨k, hk, hx', hy'⟩ hB
          have hx' : x' = hun W k := hx'
          have hy' : y' = nI k := hy'
          subst hx' hy'
          show lbX12_goes_56 _ 166 b M5 (fun l1 l2 => B3 (l1, l2)) (hun W k) (nI k)
          unfold lbX12_goes_56
          rw [show M5 166 7 = nI N from (r5.n 7).trans ha.1.2.1, nI_1, ix49 (by omega), ix35 (by omega), show M5 (166 + 1) (49 + k) = W 167 (49 + k) from r5.r _, show M5 (166 + 1) (35 + k) = W 167 (35 + k) from r5.r _]
          refine ⟨fun hc => absurd hc (nI_ge (by omega) (by omega)), fun _ => ⟨vp49 (by omega), fun hd => hB _ ⟨k + 1, by omega, ?_, rfl⟩, fun hd => ⟨vp35 (by omega), ?_⟩⟩⟩
          · simp only [hun]; rw [if_neg hd]
          · rintro y rfl
            refine hB _ ⟨k + 1, by omega, ?_, rfl⟩
            simp only [hun]; rw [if_pos hd]
      · rintro k ⟨y, M5⟩ B2 hk ⟨hy, g5⟩ hB
        have hy : y = nI k := hy
        subst hy
        show lbX12_goes_35 _ 166 (nI n) b (fun l3 M => B2 (l3, M)) (nI k) M5
        unfold lbX12_goes_35
        rw [nI_1]
        exact ⟨fun hc => absurd hc (nI_ge (by omega) (by omega)), fun _ => s12_goesBy g5 (fun M6 g6 => hB _ ⟨rfl, g6⟩)⟩
    have noe : ∀ {p : Prop} {k j : Int32}, b = k → k ≠ j → b = j → p := fun h1 h2 h3 => absurd (h1.symm.trans h3) h2
    show lbX11_goes_39 _ 0 (nI n) b (fun l3 M => B (l3, M)) (nI n) M2
    unfold lbX11_goes_39
    refine ⟨fun _ => ⟨fun b0 => ?_, fun b1 => ?_, fun b2 => ?_, fun m0 m1 m2 => ?_⟩, fun hc => absurd (nI_le (Nat.le_refl _) (by omega)) hc⟩
    · obtain ⟨m, m1, m2⟩ := dset_nI (f := fun t => W 167 (49 + t)) (n := 14) (by decide)
      rw [show M2 (0 + 67) 12 = nI m from cw.1.2.2.2.2.2.2.2.2.2.trans m2]
      refine s_bitCount (by omega) (ref _ (fun _ => ⟨m, by omega, ?_, rfl⟩) (noe b0 (by decide)) (noe b0 (by decide)) (fun q => absurd b0 q))
      rw [← m2]
      exact (dset_tail h14 (fun t z1 z2 => ha.2.2.2.2.2.2.2.1 t z1 z2)).symm
    · exact ref _ (noe b1 (by decide)) (fun _ => cw.1.2.2.2.2.2.2.1) (noe b1 (by decide)) (fun _ q => absurd b1 q)
    · exact s9_hunliv cw ha (ref _ (noe b2 (by decide)) (noe b2 (by decide)) (fun _ => rfl) (fun _ _ q => absurd b2 q))
    · unfold FX9_lastAdvice
      rw [show M2 (0 + 67) 10 = nI P from cw.1.1.trans ha.1.1, show M2 (0 + 67 + 3) 0 = W 167 83 - 100 from (cw.2.2 0 (by decide)).2.2, sub100]
      refine ⟨fun hp => ref _ (fun q => absurd q m0) (fun q => absurd q m1) (fun q => absurd q m2) (fun _ _ _ => ?_), fun hp => ⟨fun hz => ref _ (fun q => absurd q m0) (fun q => absurd q m1) (fun q => absurd q m2) (fun _ _ _ => by rw [if_neg hz]), fun hz => ref _ (fun q => absurd q m0) (fun q => absurd q m1) (fun q => absurd q m2) (fun _ _ _ => by rw [if_pos hz])⟩⟩
      have : P = 0 := (nI_eq (by omega) (by decide)).mp hp
      rw [if_pos (ha.2.2.2.2.2.2.2.2 this)]
  · rintro k ⟨x, M2⟩ B hk ⟨hx, g2, n2⟩ hB
    have hx : x = nI k := hx
    subst hx
    show lbX11_goes_39 _ 0 (nI n) b (fun l3 M => B (l3, M)) (nI k) M2
    unfold lbX11_goes_39
    rw [nI_1]
    refine ⟨fun hc => absurd hc (nI_ge (by omega) (by omega)), fun _ => s0_passDay g2 (Or.inr ⟨rfl, ?_⟩) (fun M3 g3 _ => hB _ ⟨rfl, g3, n2.trans gDay_GN⟩)⟩
    rw [n2.1 166 5 (by decide) (by decide)]; exact v5
