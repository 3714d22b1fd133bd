/-! lap: class and reference -/
theorem s_fill {Q : Mem → Prop} {c n : Nat} {v : Int32} {M : Mem} (hn : SHn c = n) (hb : n ≤ 600) (h : ∀ M', (∀ i, i < n → M' c i = v) → (∀ a i, a ≠ c → M' a i = M a i) → Q M') : FJ7_fill_53178 Q c v M := by
  unfold FJ7_fill_53178
  rintro y rfl
  rw [hn]
  show NJ7_fill_53178_5 Q c v 0 (nI n) M
  unfold NJ7_fill_53178_5
  refine xlp_for (fun r a => ∃ k, k + r = n ∧ a.1 = nI k ∧ (∀ i, i < k → a.2 c i = v) ∧ (∀ b i, b ≠ c → a.2 b i = M b i)) ?_ ?_ n (0, M) ⟨0, by omega, rfl, fun i hi => by omega, fun _ _ _ => rfl⟩
  · rintro ⟨x, M1⟩ B ⟨k, hk, hx, f1, f2⟩
    have hx : x = nI k := hx
    subst hx
    have : k = n := by omega
    subst this
    show lbJ7_fill_53178_5 Q c v (nI k) (fun l2 M => B (l2, M)) (nI k) M1
    unfold lbJ7_fill_53178_5
    exact ⟨fun _ => h M1 f1 f2, fun q => absurd (nI_le (Nat.le_refl _) (by omega)) q⟩
  · rintro r ⟨x, M1⟩ B ⟨k, hk, hx, f1, f2⟩ hB
    have hx : x = nI k := hx
    subst hx
    have f1 : ∀ i, i < k → M1 c i = v := f1
    have f2 : ∀ b i, b ≠ c → M1 b i = M b i := f2
    show lbJ7_fill_53178_5 Q c v (nI n) (fun l2 M => B (l2, M)) (nI k) M1
    unfold lbJ7_fill_53178_5
    rw [hn, ixn (by omega), nI_1]
    refine ⟨fun q => absurd q (nI_ge (by omega) (by omega)), fun _ => ⟨vp_in_nI (by omega) (by omega), ?_⟩⟩
    rintro M2 rfl
    refine hB _ ⟨k + 1, by omega, rfl, fun i hi => ?_, fun b i hb2 => ?_⟩
    · show xu M1 c k v c i = v
      rw [xu_if]
      split
      · rfl
      · next q => exact f1 i (by omega)
    · show xu M1 c k v b i = M b i
      rw [xu_ne _ _ (by omega)]; exact f2 b i hb2
theorem mod_prime {x y : Nat} (h : x + y < 1000000007) : (((nI x).toInt64 + (nI y).toInt64) - ((nI x).toInt64 + (nI y).toInt64) / 1000000007 * 1000000007).toInt32 = nI (x + y) := by
  rw [nI_l (by omega), nI_l (by omega), lN_add, show (1000000007 : Int64) = lN 1000000007 from rfl, pk_lRem (by omega) (by decide) (by decide), Nat.mod_eq_of_lt h, lN_i]
section LAP
variable {tl : Nat → Nat} {D P a : Nat}
theorem l4_int {p i : Nat} (h : p + i < 1000) : (nI (p + i) - 2).toInt = (p : Int) + i - 2 := by
  rw [show (2 : Int32) = nI 2 from rfl, pk_sub_toInt (by omega) (by decide)]; omega
theorem s1_spread {Q : Mem → Prop} {M0 M1 : Mem} {p s : Nat} (h10 : P ≤ 10) (hs : s ≤ 9) (hp : p < P) (hD : D ≤ 99) (ht : ∀ q, q < P → tl q ≤ 99) (e10 : M0 2 10 = nI P) (e3 : ∀ q, q < P → M0 3 q = nI (tl q)) (hf : FH tl D P a p s) (f1 : ∀ c i, c ≠ 163 → c ≠ 164 → M1 c i = M0 c i) (h1 : ∀ q, q < P → MD tl D P a s p q (M1 163 q) (M1 164 q)) (h : ∀ M', (∀ c i, c ≠ 163 → c ≠ 164 → M' c i = M0 c i) → (∀ q, q < P → MD tl D P a s (p + 1) q (M' 163 q) (M' 164 q)) → Q M') : FX1_spread Q 162 2 (nI p) (nI D) M1 := by
  have hfb : fhB tl D P a s p = true := fhB_iff.mpr hf
  have own : M1 163 p = nI s ∧ M1 164 p = nI (wk tl D P a s p) := by
    rcases h1 p hp with ⟨k, k1, k2, k3, k4⟩ | ⟨z, -⟩
    · have := FH_u k2 hf
      subst this; exact ⟨k3, k4⟩
    · have := z s (Nat.le_refl s); have := hf.1; omega
  have wb : ∀ k q, k ≤ 10 → q < P → wk tl D P a k q ≤ 1048576 := fun k q hk hq => Nat.le_trans (wk_le h10 k q (by omega)) (pow4 k hk)
  unfold FX1_spread NX1_spread_5
  refine xlp_for (fun r (x : Int32 × Mem) => ∃ i, i + r = 5 ∧ x.1 = nI (p + i) - 2 ∧ (∀ c i, c ≠ 163 → c ≠ 164 → x.2 c i = M0 c i) ∧ (x.2 163 p = nI s ∧ x.2 164 p = nI (wk tl D P a s p)) ∧ (∀ q, q < P → q + 2 < p + i → MD tl D P a s (p + 1) q (x.2 163 q) (x.2 164 q)) ∧ (∀ q, q < P → p + i ≤ q + 2 → MD tl D P a s p q (x.2 163 q) (x.2 164 q))) ?_ ?_ 5 (nI p - 2, M1) ⟨0, rfl, rfl, f1, own, fun q hq hlt => MD_same (fun z => ?_) (h1 q hq), fun q hq _ => h1 q hq⟩
  · rintro ⟨x, M2⟩ B ⟨i, hi, hx, f2, o2, d1, d2⟩
    have hx : x = nI (p + i) - 2 := hx
    subst hx
    have : i = 5 := by omega
    subst this
    show lbX1_spread_5 Q 162 2 (nI p) (nI D) (fun l4 M => B (l4, M)) (nI (p + 5) - 2) M2
    unfold lbX1_spread_5
    refine ⟨fun _ => h M2 f2 (fun q hq => ?_), fun hc => absurd ?_ hc⟩
    · rcases Nat.lt_or_ge (q + 2) (p + 5) with z | z
      · exact d1 q hq z
      · refine MD_same (fun w => ?_) (d2 q hq z)
        have := of_decide_eq_true w.2
        have := this.2.1
        unfold dN at this
        split at this <;> omega
    · rw [show nI p + 2 = nI (p + 2) from nI_add p 2, show nI (p + 5) - 2 = nI (p + 3) from pk_sub (b := 2) (by omega)]
      exact nI_lt (by omega) (by omega)
  · rintro r ⟨x, M2⟩ B ⟨i, hi, hx, f2, o2, d1, d2⟩ hB
    have hx : x = nI (p + i) - 2 := hx
    subst hx
    have f2 : ∀ c i, c ≠ 163 → c ≠ 164 → M2 c i = M0 c i := f2
    have o2 : M2 163 p = nI s ∧ M2 164 p = nI (wk tl D P a s p) := o2
    have d1 : ∀ q, q < P → q + 2 < p + i → MD tl D P a s (p + 1) q (M2 163 q) (M2 164 q) := d1
    have d2 : ∀ q, q < P → p + i ≤ q + 2 → MD tl D P a s p q (M2 163 q) (M2 164 q) := d2
    show lbX1_spread_5 Q 162 2 (nI p) (nI D) (fun l4 M => B (l4, M)) (nI (p + i) - 2) M2
    have nx : nI (p + i) - 2 + 1 = nI (p + (i + 1)) - 2 := by rw [show p + (i + 1) = p + i + 1 by omega, ← nI_1]; grind
    have fin : ∀ M3 : Mem, (∀ c k, c ≠ 163 → c ≠ 164 → M3 c k = M0 c k) → (M3 163 p = nI s ∧ M3 164 p = nI (wk tl D P a s p)) → (∀ q, q < P → q + 2 ≠ p + i → M3 163 q = M2 163 q ∧ M3 164 q = M2 164 q) → (∀ q, q < P → q + 2 = p + i → MD tl D P a s (p + 1) q (M3 163 q) (M3 164 q)) → B (nI (p + (i + 1)) - 2, M3) := by
      intro M3 g1 g2 g3 g4
      refine hB _ ⟨i + 1, by omega, rfl, g1, g2, fun q hq hlt => ?_, fun q hq hge => ?_⟩
      · by_cases e : q + 2 = p + i
        · exact g4 q hq e
        · have := g3 q hq e
          show MD tl D P a s (p + 1) q (M3 163 q) (M3 164 q)
          rw [this.1, this.2]; exact d1 q hq (by omega)
      · have := g3 q hq (by omega)
        show MD tl D P a s p q (M3 163 q) (M3 164 q)
        rw [this.1, this.2]; exact d2 q hq (by omega)
    have skip : (∀ q, q < P → q + 2 = p + i → ed tl D p q = false) → B (nI (p + (i + 1)) - 2, M2) := fun he => fin M2 f2 o2 (fun _ _ _ => ⟨rfl, rfl⟩) (fun q hq e => MD_same (fun z => by rw [he q hq e] at z; exact absurd z.2 (by decide)) (d2 q hq (by omega)))
    have ti := l4_int (p := p) (i := i) (by omega)
    unfold lbX1_spread_5
    rw [nx]
    refine ⟨fun hc => ?_, fun _ => ⟨fun e => skip (fun q hq e2 => ?_), fun ne => s9_isPillar (P := P) ((f2 2 10 (by decide) (by decide)).trans e10) (by omega) (fun k hk ek => ⟨fun z => (by cases z), fun _ => ?_⟩) (fun hno => ⟨fun _ => skip (fun q hq e2 => absurd ?_ (hno q hq)), fun z => (by cases z)⟩)⟩⟩
    · rw [show nI p + 2 = nI (p + 2) from nI_add p 2, Int32.lt_iff_toInt_lt, ti, nI_toInt (by omega)] at hc
      omega
    · have e3' := congrArg Int32.toInt e
      rw [ti, nI_toInt (by omega)] at e3'
      refine decide_eq_false (fun z => z.1 ?_)
      omega
    · have ek' := congrArg Int32.toInt ek
      rw [ti, nI_toInt (by omega)] at ek'
      have hki : k + 2 = p + i := by omega
      have hkp : k ≠ p := by
        rintro rfl
        exact ne ek
      rw [ek]
      clear ek ek' ti
      have hdn : dN p k ≤ 2 := by unfold dN; split <;> omega
      rw [ixn (by omega), ixn (by omega), show M2 (2 + 1) p = nI (tl p) from (f2 3 p (by decide) (by decide)).trans (e3 p hp), show M2 (2 + 1) k = nI (tl k) from (f2 3 k (by decide) (by decide)).trans (e3 k hk)]
      have t1 := ht p hp
      have t2 := ht k hk
      have t3 := dN_le t1 t2
      refine ⟨vp_in_nI (by omega) (by decide), vp_in_nI (by omega) (by decide), s_abs (by omega) (by omega) ?_⟩
      rw [nI_leI (by omega) (by omega)]
      refine ⟨fun hle => ⟨vp_in_nI (by omega) (by decide), ?_⟩, fun hgt => skip (fun q hq e2 => ?_)⟩
      · have he : ed tl D p k = true := decide_eq_true ⟨fun z => hkp z.symm, hdn, hle⟩
        -- behind the first part: the ways
        have tail : ∀ M3 : Mem, (∀ c j, c ≠ 163 → c ≠ 164 → M3 c j = M0 c j) → (M3 163 p = nI s ∧ M3 164 p = nI (wk tl D P a s p)) → (∀ q, q < P → q ≠ k → M3 163 q = M2 163 q ∧ M3 164 q = M2 164 q) → ((∃ j, j ≤ s ∧ M3 163 k = nI j ∧ MD tl D P a s (p + 1) k (M3 163 k) (M3 164 k)) ∨ ((∀ j, j ≤ s → wk tl D P a j k = 0) ∧ M3 163 k = nI (s + 1) ∧ M3 164 k = nI (Tw tl D P a s k p))) → NX1_spread_78 Q (fun l4 M => B (l4, M)) 162 2 (nI p) (nI D) (nI k) M3 := by
          intro M3 g1 g2 g3 g4
          unfold NX1_spread_78
          rw [ixn (by omega), ixn (by omega), show M3 (162 + 1) p = nI s from g2.1, show M3 (162 + 2) p = nI (wk tl D P a s p) from g2.2, nI_1 s, nI_1 k]
          have nk : nI (k + 1) = nI (p + (i + 1)) - 2 := by rw [show p + (i + 1) = (k + 1) + 2 by omega]; exact (pk_sub (a := k + 1 + 2) (b := 2) (by omega)).symm
          rw [nk]
          refine ⟨vp_in_nI (by omega) (by decide), vp_in_nI (by omega) (by decide), ?_⟩
          rcases g4 with ⟨j, j1, j2, j3⟩ | ⟨j1, j2, j3⟩
          · rw [show M3 (162 + 1) k = nI j from j2]
            refine ⟨fun _ => fin M3 g1 g2 (fun q hq hne => g3 q hq (by omega)) (fun q hq e => ?_), fun q => absurd ((nI_eq (by omega) (by omega)).mp q) (by omega)⟩
            have : q = k := by omega
            subst this; exact j3
          · rw [show M3 (162 + 1) k = nI (s + 1) from j2, show M3 (162 + 2) k = nI (Tw tl D P a s k p) from j3]
            have more := Tw_more (q := k) ⟨hfb, he⟩
            have le := Tw_le (tl := tl) (D := D) (a := a) (s := s) (q := k) (show p + 1 ≤ P by omega)
            have wl := wb (s + 1) k (by omega) hk
            have wp := wb s p (by omega) hp
            rw [mod_prime (by omega), ← more]
            refine ⟨fun q => absurd rfl q, fun _ => ⟨vp_in_nI (by omega) (by decide), vp_in_nI (by omega) (by decide), vp_in_nI (by omega) (by decide), ?_⟩⟩
            rintro M4 rfl
            refine fin _ (fun c j z1 z2 => ?_) ⟨?_, ?_⟩ (fun q hq hne => ⟨?_, ?_⟩) (fun q hq e => ?_)
            · show xu M3 164 k _ c j = _
              rw [xu_ne _ _ (by omega)]; exact g1 c j z1 z2
            · show xu M3 164 k _ 163 p = _
              rw [xu_ne _ _ (by omega)]; exact g2.1
            · show xu M3 164 k _ 164 p = _
              rw [xu_ne _ _ (by omega)]; exact g2.2
            · show xu M3 164 k _ 163 q = _
              rw [xu_ne _ _ (by omega)]; exact (g3 q hq (by omega)).1
            · show xu M3 164 k _ 164 q = _
              rw [xu_ne _ _ (by omega)]; exact (g3 q hq (by omega)).2
            · have : q = k := by omega
              subst this
              show MD tl D P a s (p + 1) q (xu M3 164 q _ 163 q) (xu M3 164 q _ 164 q)
              rw [xu_same, xu_ne _ _ (by omega), j2]
              have := hf.1
              exact Or.inr ⟨j1, Or.inr ⟨by omega, rfl, rfl⟩⟩
        have dk := d2 k hk (by omega)
        rw [show M2 (162 + 1) k = M2 163 k from rfl]
        rcases dk with ⟨j, j1, j2, j3, j4⟩ | ⟨j1, ⟨y1, y2, y3⟩ | ⟨y1, y2, y3⟩⟩
        · rw [j3]
          refine ⟨fun _ => tail M2 f2 o2 (fun _ _ _ => ⟨rfl, rfl⟩) (Or.inl ⟨j, j1, j3, Or.inl ⟨j, j1, j2, j3, j4⟩⟩), fun q => absurd q (m1_ne (by omega))⟩
        · rw [y2]
          refine ⟨fun q => absurd rfl q, fun _ => ⟨vp_in_nI (by omega) (by decide), vp_in_nI (by omega) (by decide), ?_⟩⟩
          rintro M3 rfl
          rw [show M2 (162 + 1) p = nI s from o2.1, nI_1]
          refine tail _ (fun c j z1 z2 => ?_) ⟨?_, ?_⟩ (fun q hq hne => ⟨?_, ?_⟩) (Or.inr ⟨j1, ?_, ?_⟩)
          · show xu M2 163 k _ c j = _
            rw [xu_ne _ _ (by omega)]; exact f2 c j z1 z2
          · show xu M2 163 k _ 163 p = _
            rw [xu_ne _ _ (by omega)]; exact o2.1
          · show xu M2 163 k _ 164 p = _
            rw [xu_ne _ _ (by omega)]; exact o2.2
          · show xu M2 163 k _ 163 q = _
            rw [xu_ne _ _ (by omega)]
          · show xu M2 163 k _ 164 q = _
            rw [xu_ne _ _ (by omega)]
          · exact xu_same _ _ _ _
          · show xu M2 163 k _ 164 k = _
            rw [xu_ne _ _ (by omega), y3, y1]; rfl
        · rw [y2]
          exact ⟨fun _ => tail M2 f2 o2 (fun _ _ _ => ⟨rfl, rfl⟩) (Or.inr ⟨j1, y2, y3⟩), fun q => absurd q (m1_ne (by omega))⟩
      · have : q = k := by omega
        subst this
        exact decide_eq_false (fun z => hgt z.2.2)
    · rw [show p + i = q + 2 by omega]; exact pk_sub (a := q + 2) (b := 2) (by omega)
  · have := of_decide_eq_true z.2
    have := this.2.1
    unfold dN at this
    split at this <;> omega
theorem s1_walk {Q : Mem → Prop} {M : Mem} (h10 : P ≤ 10) (ha : a < P) (hD : D ≤ 99) (ht : ∀ q, q < P → tl q ≤ 99) (e10 : M 2 10 = nI P) (e3 : ∀ q, q < P → M 3 q = nI (tl q)) (h : ∀ M', (∀ c i, c ≠ 163 → c ≠ 164 → M' c i = M c i) → (∀ q, q < P → MD tl D P a 10 0 q (M' 163 q) (M' 164 q)) → Q M') : FX1_walk Q 162 2 (nI a) (nI D) M := by
  unfold FX1_walk
  refine s_fill (c := 162 + 1) (n := 10) (by decide) (by decide) (fun M1 a1 f1 => s_fill (c := 162 + 2) (n := 10) (by decide) (by decide) (fun M2 a2 f2 => ?_))
  have g2 : ∀ c i, c ≠ 163 → c ≠ 164 → M2 c i = M c i := fun c i z1 z2 => (f2 c i z2).trans (f1 c i z1)
  refine s9_isPillar (P := P) ((g2 2 10 (by decide) (by decide)).trans e10) (by omega) (fun k hk ek => ⟨fun _ => ?_, fun z => (by cases z)⟩) (fun hno => absurd rfl (hno a ha))
  rw [ixn (by omega)]
  refine ⟨vp_in_nI (by omega) (by decide), ?_⟩
  rintro M3 rfl
  refine ⟨vp_in_nI (by omega) (by decide), ?_⟩
  rintro M4 rfl
  unfold NX1_walk_42
  refine xlp_for (fun r (x : Int32 × Mem) => ∃ s, s + r = 10 ∧ x.1 = nI s ∧ (∀ c i, c ≠ 163 → c ≠ 164 → x.2 c i = M c i) ∧ (∀ q, q < P → MD tl D P a s 0 q (x.2 163 q) (x.2 164 q))) ?_ ?_ 10 (0, _) ⟨0, rfl, rfl, fun c i z1 z2 => ?_, fun q hq => ?_⟩
  · rintro ⟨x, M5⟩ B ⟨s, hs, hx, f5, d5⟩
    have hx : x = nI s := hx
    subst hx
    have : s = 10 := by omega
    subst this
    show lbX1_walk_42 Q 162 2 (nI D) (fun l4 M => B (l4, M)) (nI 10) M5
    unfold lbX1_walk_42
    exact ⟨fun _ => h M5 f5 d5, fun q => absurd (by decide) q⟩
  · rintro r ⟨x, M5⟩ B ⟨s, hs, hx, f5, d5⟩ hB
    have hx : x = nI s := hx
    subst hx
    have f5 : ∀ c i, c ≠ 163 → c ≠ 164 → M5 c i = M c i := f5
    show lbX1_walk_42 Q 162 2 (nI D) (fun l4 M => B (l4, M)) (nI s) M5
    unfold lbX1_walk_42
    refine ⟨fun q => absurd q (nI_ge (b := 10) (by omega) (by decide)), fun _ => ?_⟩
    unfold NX1_walk_52
    refine xlp_for (fun r (x : Int32 × Mem) => ∃ p, p + r = P ∧ x.1 = nI p ∧ (∀ c i, c ≠ 163 → c ≠ 164 → x.2 c i = M c i) ∧ (∀ q, q < P → MD tl D P a s p q (x.2 163 q) (x.2 164 q))) ?_ ?_ P (0, M5) ⟨0, by omega, rfl, f5, d5⟩
    · rintro ⟨x, M6⟩ B2 ⟨p, hp, hx, f6, d6⟩
      have hx : x = nI p := hx
      subst hx
      have : p = P := by omega
      subst this
      show lbX1_walk_52 Q (fun l4 M => B (l4, M)) 162 2 (nI D) (nI s) (fun l5 M => B2 (l5, M)) (nI p) M6
      unfold lbX1_walk_52
      rw [show M6 2 10 = nI p from (f6 2 10 (by decide) (by decide)).trans e10, nI_1 s]
      exact ⟨fun _ => hB _ ⟨s + 1, by omega, rfl, f6, fun q hq => MD_next (d6 q hq)⟩, fun q => absurd (nI_le (Nat.le_refl _) (by omega)) q⟩
    · rintro r2 ⟨x, M6⟩ B2 ⟨p, hp, hx, f6, d6⟩ hB2
      have hx : x = nI p := hx
      subst hx
      have f6 : ∀ c i, c ≠ 163 → c ≠ 164 → M6 c i = M c i := f6
      have d6 : ∀ q, q < P → MD tl D P a s p q (M6 163 q) (M6 164 q) := d6
      show lbX1_walk_52 Q (fun l4 M => B (l4, M)) 162 2 (nI D) (nI s) (fun l5 M => B2 (l5, M)) (nI p) M6
      unfold lbX1_walk_52
      rw [show M6 2 10 = nI P from (f6 2 10 (by decide) (by decide)).trans e10, ixn (by omega), nI_1 p, show M6 (162 + 1) p = M6 163 p from rfl]
      have dp := d6 p (by omega)
      refine ⟨fun q => absurd q (nI_ge (by omega) (by omega)), fun _ => ⟨vp_in_nI (by omega) (by decide), fun ne => hB2 _ ⟨p + 1, by omega, rfl, f6, fun q hq => MD_same (fun z => ?_) (d6 q hq)⟩, fun e => ?_⟩⟩
      · have hf := fhB_iff.mp z.1
        rcases dp with ⟨k, k1, k2, k3, k4⟩ | ⟨k1, -⟩
        · have := FH_u k2 hf
          subst this; exact ne k3
        · have := k1 s (Nat.le_refl s); have := hf.1; omega
      · have hf : FH tl D P a p s := by
          rcases dp with ⟨k, k1, k2, k3, k4⟩ | ⟨k1, ⟨-, k2, -⟩ | ⟨-, k2, -⟩⟩
          · have : k = s := (nI_eq (by omega) (by omega)).mp (k3.symm.trans e)
            subst this; exact k2
          · rw [k2] at e; exact absurd e.symm (m1_ne (by omega))
          · rw [k2] at e
            have := (nI_eq (by omega) (by omega)).mp e
            omega
        exact s1_spread (M0 := M) h10 (by omega) (by omega) hD ht e10 e3 hf f6 d6 (fun M7 f7 d7 => hB2 _ ⟨p + 1, by omega, rfl, f7, d7⟩)
  · show xu (xu M2 163 a 0) 164 a 1 c i = M c i
    rw [xu_ne _ _ (by omega), xu_ne _ _ (by omega)]; exact g2 c i z1 z2
  · show MD tl D P a 0 0 q (xu (xu M2 163 a 0) 164 a 1 163 q) (xu (xu M2 163 a 0) 164 a 1 164 q)
    rw [xu_ne _ _ (by omega), xu_if, xu_if]
    by_cases e : q = a
    · subst e
      rw [if_pos ⟨rfl, rfl⟩, if_pos ⟨rfl, rfl⟩]
      have : wk tl D P q 0 q = 1 := by simp [wk]
      exact Or.inl ⟨0, Nat.le_refl _, ⟨by omega, fun j hj => by omega⟩, rfl, by rw [this]; rfl⟩
    · rw [if_neg (by omega), if_neg (by omega), xu_ne _ _ (by omega), show M2 163 q = -1 from (f2 163 q (by decide)).trans (a1 q (by omega)), show M2 164 q = 0 from a2 q (by omega)]
      refine Or.inr ⟨fun k hk => ?_, Or.inl ⟨rfl, rfl, rfl⟩⟩
      have : k = 0 := by omega
      subst this
      simp [wk, e]
theorem s12_canStep {Q : Bool → Prop} {V M : Mem} {q p : Nat} (h10 : P ≤ 10) (hR : RV V M) (hq : q < P) (hp : p < P) (hD : D ≤ 99) (ht : ∀ q, q < P → V 167 (63 + q) = nI (tl q) ∧ tl q ≤ 99) (h : Q (ed tl D q p)) : FX12_canStep Q 166 (nI q) (nI p) (nI D) M := by
  unfold FX12_canStep
  unfold ed at h
  have t1 := ht q hq
  have t2 := ht p hp
  have t3 := dN_le t1.2 t2.2
  have t4 : dN q p ≤ 10 := by unfold dN; split <;> omega
  rw [nI_eq (by omega) (by omega)]
  refine ⟨fun e => ?_, fun ne => s12_far (by omega) (by omega) ?_⟩
  · rwa [decide_eq_false (fun z => z.1 e)] at h
  · rw [show (2 : Int32) = nI 2 from rfl, nI_ltI (by omega) (by omega), ix63 (by omega), ix63 (by omega), show M (166 + 1) (63 + q) = nI (tl q) from (hR.r _).trans t1.1, show M (166 + 1) (63 + p) = nI (tl p) from (hR.r _).trans t2.1]
    refine ⟨fun z => ?_, fun z => ⟨vp63 (by omega), vp63 (by omega), s12_far (by omega) (by omega) ?_⟩⟩
    · rwa [decide_eq_false (fun y => by have := y.2.1; omega)] at h
    · rw [nI_ltI (by omega) (by omega)]
      refine ⟨fun y => ?_, fun y => ?_⟩
      · rwa [decide_eq_false (fun x => by have := x.2.2; omega)] at h
      · rwa [decide_eq_true ⟨ne, by omega, by omega⟩] at h
theorem s12_added {Q : Int32 → Prop} {x y l : Nat} {M : Mem} (h : x + y < 1000000007) (hq : Q (nI (x + y))) : FX12_added Q l (nI x) (nI y) M := by
  unfold FX12_added
  rw [show (1000000007 : Int32) = nI 1000000007 from rfl, pk_sub (by omega), nI_ltI (by omega) (by omega), nI_add]
  exact ⟨fun _ => hq, fun z => absurd (by omega) z⟩
/-- the reference: by numbers of walks -/
theorem s12_lap {Q : Int32 → Mem → Prop} {V M : Mem} {b : Nat} {x : Int32} (h10 : P ≤ 10) (hR : RV V M) (hP : V 166 6 = nI P) (ha : a < P) (hb : b < P) (hD : D ≤ 99) (ht : ∀ q, q < P → V 167 (63 + q) = nI (tl q) ∧ tl q ≤ 99) (h1 : ∀ k M', k < 10 → FH tl D P a b k → (∀ c i, c ≠ 189 → c ≠ 190 → M' c i = M c i) → (x = 0 → Q (nI k) M') ∧ (¬ x = 0 → Q (nI (wk tl D P a k b)) M')) (h2 : ∀ M', (∀ k, k < 10 → wk tl D P a k b = 0) → (∀ c i, c ≠ 189 → c ≠ 190 → M' c i = M c i) → Q (-1) M') : NX12_lap_48 Q 166 (nI a) (nI b) (nI D) x 0 M := by
  have wb : ∀ k q, k ≤ 10 → q < P → wk tl D P a k q ≤ 1048576 := fun k q hk hq => Nat.le_trans (wk_le h10 k q (by omega)) (pow4 k hk)
  have rv : ∀ M1 : Mem, (∀ c i, c ≠ 189 → c ≠ 190 → M1 c i = M c i) → M1 166 6 = nI P := fun M1 f => (f 166 6 (by decide) (by decide)).trans ((hR.n 6).trans hP)
  unfold NX12_lap_48
  refine xlp_for (fun r (y : Int32 × Mem) => ∃ p, p + r = 10 ∧ y.1 = nI p ∧ (∀ c i, c ≠ 189 → c ≠ 190 → y.2 c i = M c i) ∧ ∀ q, q < p → y.2 189 q = nI (wk tl D P a 0 q)) ?_ ?_ 10 (0, M) ⟨0, rfl, rfl, fun _ _ _ _ => rfl, fun q hq => by omega⟩
  · rintro ⟨y, M1⟩ B ⟨p, hp, hy, f1, w1⟩
    have hy : y = nI p := hy
    subst hy
    have : p = 10 := by omega
    subst this
    show lbX12_lap_48 Q 166 (nI a) (nI b) (nI D) x (fun l5 M => B (l5, M)) (nI 10) M1
    unfold lbX12_lap_48
    refine ⟨fun _ => ?_, fun q => absurd (by decide) q⟩
    unfold NX12_lap_82
    refine xlp_for (fun r (y : Int32 × Mem) => ∃ n, n + r = 10 ∧ y.1 = nI n ∧ (∀ c i, c ≠ 189 → c ≠ 190 → y.2 c i = M c i) ∧ (∀ q, q < P → y.2 189 q = nI (wk tl D P a n q)) ∧ ∀ k, k < n → wk tl D P a k b = 0) ?_ ?_ 10 (0, M1) ⟨0, rfl, rfl, f1, fun q hq => w1 q (by omega), fun k hk => by omega⟩
    · rintro ⟨y, M2⟩ B2 ⟨n, hn, hy, f2, w2, z2⟩
      have hy : y = nI n := hy
      subst hy
      have : n = 10 := by omega
      subst this
      show lbX12_lap_82 Q 166 (nI b) (nI D) x (fun l5 M => B2 (l5, M)) (nI 10) M2
      unfold lbX12_lap_82
      exact ⟨fun _ => h2 M2 z2 f2, fun q => absurd (by decide) q⟩
    · rintro r ⟨y, M2⟩ B2 ⟨n, hn, hy, f2, w2, z2⟩ hB
      have hy : y = nI n := hy
      subst hy
      have f2 : ∀ c i, c ≠ 189 → c ≠ 190 → M2 c i = M c i := f2
      have w2 : ∀ q, q < P → M2 189 q = nI (wk tl D P a n q) := w2
      show lbX12_lap_82 Q 166 (nI b) (nI D) x (fun l5 M => B2 (l5, M)) (nI n) M2
      have wl := wb n b (by omega) hb
      unfold lbX12_lap_82
      rw [ixn (by omega), show M2 (166 + 23) b = nI (wk tl D P a n b) from w2 b hb]
      refine ⟨fun q => absurd q (nI_ge (b := 10) (by omega) (by decide)), fun _ => ⟨vp_in_nI (by omega) (by decide), fun hz => ?_, fun hz => ?_⟩⟩
      · have hz : wk tl D P a n b = 0 := by
          rcases Nat.eq_zero_or_pos (wk tl D P a n b) with w | w
          · exact w
          · exact absurd hz (nI_nle w (by omega))
        unfold NX12_lap_118
        refine xlp_for (fun r (y : Int32 × Mem) => ∃ p, p + r = P ∧ y.1 = nI p ∧ (∀ c i, c ≠ 189 → c ≠ 190 → y.2 c i = M c i) ∧ (∀ q, q < P → y.2 189 q = nI (wk tl D P a n q)) ∧ ∀ q, q < p → y.2 190 q = nI (wk tl D P a (n + 1) q)) ?_ ?_ P (0, M2) ⟨0, by omega, rfl, f2, w2, fun q hq => by omega⟩
        · rintro ⟨y, M3⟩ B3 ⟨p, hp, hy, f3, w3, v3⟩
          have hy : y = nI p := hy
          subst hy
          have : p = P := by omega
          subst this
          show lbX12_lap_118 Q (fun l5 M => B2 (l5, M)) 166 (nI b) (nI D) x (nI n) (fun l6 M => B3 (l6, M)) (nI p) M3
          unfold lbX12_lap_118
          rw [rv M3 f3]
          refine ⟨fun _ => ?_, fun q => absurd (nI_le (Nat.le_refl _) (by omega)) q⟩
          unfold NX12_lap_193
          refine xlp_for (fun r (y : Int32 × Mem) => ∃ j, j + r = p ∧ y.1 = nI j ∧ (∀ c i, c ≠ 189 → c ≠ 190 → y.2 c i = M c i) ∧ (∀ q, q < j → y.2 189 q = nI (wk tl D p a (n + 1) q)) ∧ ∀ q, q < p → y.2 190 q = nI (wk tl D p a (n + 1) q)) ?_ ?_ p (0, M3) ⟨0, by omega, rfl, f3, fun q hq => by omega, v3⟩
          · rintro ⟨y, M4⟩ B4 ⟨j, hj, hy, f4, w4, v4⟩
            have hy : y = nI j := hy
            subst hy
            have : j = p := by omega
            subst this
            show lbX12_lap_193 Q (fun l5 M => B2 (l5, M)) 166 (nI b) (nI D) x (nI n) (fun l6 M => B4 (l6, M)) (nI j) M4
            unfold lbX12_lap_193
            rw [rv M4 f4, nI_1 n]
            refine ⟨fun _ => hB _ ⟨n + 1, by omega, rfl, f4, w4, fun k hk => ?_⟩, fun q => absurd (nI_le (Nat.le_refl _) (by omega)) q⟩
            by_cases e : k = n
            · subst e; exact hz
            · exact z2 k (by omega)
          · rintro r4 ⟨y, M4⟩ B4 ⟨j, hj, hy, f4, w4, v4⟩ hB4
            have hy : y = nI j := hy
            subst hy
            have f4 : ∀ c i, c ≠ 189 → c ≠ 190 → M4 c i = M c i := f4
            have w4 : ∀ q, q < j → M4 189 q = nI (wk tl D p a (n + 1) q) := w4
            have v4 : ∀ q, q < p → M4 190 q = nI (wk tl D p a (n + 1) q) := v4
            show lbX12_lap_193 Q (fun l5 M => B2 (l5, M)) 166 (nI b) (nI D) x (nI n) (fun l6 M => B4 (l6, M)) (nI j) M4
            unfold lbX12_lap_193
            rw [rv M4 f4, nI_1 j, ixn (by omega), show M4 (166 + 24) j = nI (wk tl D p a (n + 1) j) from v4 j (by omega)]
            refine ⟨fun q => absurd q (nI_ge (by omega) (by omega)), fun _ => ⟨vp_in_nI (by omega) (by decide), vp_in_nI (by omega) (by decide), ?_⟩⟩
            rintro M5 rfl
            refine hB4 _ ⟨j + 1, by omega, rfl, fun c i y1 y2 => ?_, fun q hq => ?_, fun q hq => ?_⟩
            · show xu M4 189 j _ c i = _
              rw [xu_ne _ _ (by omega)]; exact f4 c i y1 y2
            · show xu M4 189 j _ 189 q = _
              rw [xu_if]
              by_cases e : q = j
              · subst e; rw [if_pos ⟨rfl, rfl⟩]
              · rw [if_neg (by omega)]; exact w4 q (by omega)
            · show xu M4 189 j (nI (wk tl D p a (n + 1) j)) 190 q = _
              rw [xu_ne _ _ (by omega)]; exact v4 q hq
        · rintro r3 ⟨y, M3⟩ B3 ⟨p, hp, hy, f3, w3, v3⟩ hB3
          have hy : y = nI p := hy
          subst hy
          have f3 : ∀ c i, c ≠ 189 → c ≠ 190 → M3 c i = M c i := f3
          have w3 : ∀ q, q < P → M3 189 q = nI (wk tl D P a n q) := w3
          have v3 : ∀ q, q < p → M3 190 q = nI (wk tl D P a (n + 1) q) := v3
          show lbX12_lap_118 Q (fun l5 M => B2 (l5, M)) 166 (nI b) (nI D) x (nI n) (fun l6 M => B3 (l6, M)) (nI p) M3
          unfold lbX12_lap_118
          rw [rv M3 f3]
          refine ⟨fun q => absurd q (nI_ge (by omega) (by omega)), fun _ => ?_⟩
          have wl2 := wb (n + 1) p (by omega) (by omega)
          have r3' : RV V (fun c i => if c = 189 ∨ c = 190 then V c i else M3 c i) := fun c i y1 y2 y3 => by
            dsimp only
            split
            · rfl
            · rw [f3 c i (by omega) (by omega)]; exact hR c i y1 y2 y3
          unfold NX12_lap_133
          refine xlp_for (fun r (y : Int32 × Int32) => ∃ q, q + r = P ∧ y.1 = nI (sm (fun q => if ed tl D q p = true then wk tl D P a n q else 0) q) ∧ y.2 = nI q) ?_ ?_ P (0, 0) ⟨0, by omega, rfl, rfl⟩
          · rintro ⟨y, z⟩ B4 ⟨q, hq, hy, hz2⟩
            have hy : y = nI (sm (fun q => if ed tl D q p = true then wk tl D P a n q else 0) q) := hy
            have hz2 : z = nI q := hz2
            subst hy hz2
            have : q = P := by omega
            subst this
            show lbX12_lap_133 Q (fun l5 M => B2 (l5, M)) (fun l6 M => B3 (l6, M)) 166 (nI b) (nI D) x (nI n) (nI p) M3 (fun l7 l8 => B4 (l7, l8)) _ (nI q)
            unfold lbX12_lap_133
            rw [rv M3 f3, ixn (by omega), nI_1 p]
            refine ⟨fun _ => ⟨vp_in_nI (by omega) (by decide), ?_⟩, fun y => absurd (nI_le (Nat.le_refl _) (by omega)) y⟩
            rintro M4 rfl
            refine hB3 _ ⟨p + 1, by omega, rfl, fun c i y1 y2 => ?_, fun j hj => ?_, fun j hj => ?_⟩
            · show xu M3 190 p _ c i = _
              rw [xu_ne _ _ (by omega)]; exact f3 c i y1 y2
            · exact w3 j hj
            · show xu M3 190 p _ 190 j = _
              rw [xu_if]
              by_cases e : j = p
              · subst e; rw [if_pos ⟨rfl, rfl⟩]; rfl
              · rw [if_neg (by omega)]; exact v3 j (by omega)
          · rintro r4 ⟨y, z⟩ B4 ⟨q, hq, hy, hz2⟩ hB4
            have hy : y = nI (sm (fun q => if ed tl D q p = true then wk tl D P a n q else 0) q) := hy
            have hz2 : z = nI q := hz2
            subst hy hz2
            show lbX12_lap_133 Q (fun l5 M => B2 (l5, M)) (fun l6 M => B3 (l6, M)) 166 (nI b) (nI D) x (nI n) (nI p) M3 (fun l7 l8 => B4 (l7, l8)) _ (nI q)
            unfold lbX12_lap_133
            rw [rv M3 f3, ixn (k := q) (by omega), nI_1 q, show M3 (166 + 23) q = nI (wk tl D P a n q) from w3 q (by omega)]
            have sl : sm (fun q => if ed tl D q p = true then wk tl D P a n q else 0) (q + 1) ≤ wk tl D P a (n + 1) p := by
              show _ ≤ sm (fun q => if ed tl D q p = true then wk tl D P a n q else 0) P
              exact sm_mono (by omega) (fun _ _ => Nat.le_refl _)
            have s1 : sm (fun q => if ed tl D q p = true then wk tl D P a n q else 0) (q + 1) = sm (fun q => if ed tl D q p = true then wk tl D P a n q else 0) q + (if ed tl D q p = true then wk tl D P a n q else 0) := rfl
            refine ⟨fun y => absurd y (nI_ge (by omega) (by omega)), fun _ => ?_⟩
            have cs : ∀ Q' : Bool → Prop, Q' (ed tl D q p) → FX12_canStep Q' 166 (nI q) (nI p) (nI D) M3 := by
              intro Q' hq'
              unfold FX12_canStep
              have t1 := ht q (by omega)
              have t2 := ht p (by omega)
              have t3 := dN_le t1.2 t2.2
              have t4 : dN q p ≤ 10 := by unfold dN; split <;> omega
              unfold ed at hq'
              rw [nI_eq (by omega) (by omega)]
              refine ⟨fun e => ?_, fun ne => s12_far (by omega) (by omega) ?_⟩
              · rwa [decide_eq_false (fun z => z.1 e)] at hq'
              · rw [show (2 : Int32) = nI 2 from rfl, nI_ltI (by omega) (by omega), ix63 (by omega), ix63 (by omega), show M3 (166 + 1) (63 + q) = nI (tl q) from (f3 167 _ (by decide) (by decide)).trans ((hR.r _).trans t1.1), show M3 (166 + 1) (63 + p) = nI (tl p) from (f3 167 _ (by decide) (by decide)).trans ((hR.r _).trans t2.1)]
                refine ⟨fun z => ?_, fun z => ⟨vp63 (by omega), vp63 (by omega), s12_far (by omega) (by omega) ?_⟩⟩
                · rwa [decide_eq_false (fun y => by have := y.2.1; omega)] at hq'
                · rw [nI_ltI (by omega) (by omega)]
                  refine ⟨fun y => ?_, fun y => ?_⟩
                  · rwa [decide_eq_false (fun x => by have := x.2.2; omega)] at hq'
                  · rwa [decide_eq_true ⟨ne, by omega, by omega⟩] at hq'
            refine cs _ ⟨fun e => hB4 _ ⟨q + 1, by omega, ?_, rfl⟩, fun e => ⟨vp_in_nI (by omega) (by decide), s12_added ?_ (hB4 _ ⟨q + 1, by omega, ?_, rfl⟩)⟩⟩
            · show nI _ = nI _
              rw [s1, if_neg (by rw [e]; decide)]; rfl
            · rw [if_pos e] at s1; omega
            · show nI _ = nI _
              rw [s1, if_pos e]
      · have hpos : 0 < wk tl D P a n b := by
          rcases Nat.eq_zero_or_pos (wk tl D P a n b) with w | w
          · rw [w] at hz; exact absurd (by decide) hz
          · exact w
        obtain ⟨q1, q2⟩ := h1 n M2 (by omega) ⟨hpos, z2⟩ f2
        exact ⟨fun y => ⟨vp_in_nI (by omega) (by decide), q2 y⟩, q1⟩
  · rintro r ⟨y, M1⟩ B ⟨p, hp, hy, f1, w1⟩ hB
    have hy : y = nI p := hy
    subst hy
    have f1 : ∀ c i, c ≠ 189 → c ≠ 190 → M1 c i = M c i := f1
    have w1 : ∀ q, q < p → M1 189 q = nI (wk tl D P a 0 q) := w1
    show lbX12_lap_48 Q 166 (nI a) (nI b) (nI D) x (fun l5 M => B (l5, M)) (nI p) M1
    unfold lbX12_lap_48
    have put : ∀ v : Int32, v = nI (wk tl D P a 0 p) → NX12_lap_72 Q (fun l5 M => B (l5, M)) 166 (nI a) (nI b) (nI D) x (nI p) (166 + 23) (nI p) v M1 := by
      rintro v rfl
      unfold NX12_lap_72
      rw [show SHn (166 + 23) = 10 by decide, ixn (by omega), nI_1]
      refine ⟨vp_in_nI (by omega) (by decide), ?_⟩
      rintro M2 rfl
      refine hB _ ⟨p + 1, by omega, rfl, fun c i y1 y2 => ?_, fun q hq => ?_⟩
      · show xu M1 189 p _ c i = _
        rw [xu_ne _ _ (by omega)]; exact f1 c i y1 y2
      · show xu M1 189 p _ 189 q = _
        rw [xu_if]
        by_cases e : q = p
        · subst e; rw [if_pos ⟨rfl, rfl⟩]
        · rw [if_neg (by omega)]; exact w1 q (by omega)
    rw [nI_eq (by omega) (by omega)]
    refine ⟨fun q => absurd q (nI_ge (b := 10) (by omega) (by decide)), fun _ => ⟨fun ne => put 0 ?_, fun e => put 1 ?_⟩⟩
    · simp only [wk]; rw [if_neg ne]; rfl
    · simp only [wk]; rw [if_pos e]; rfl
end LAP
theorem q_lap : lq_lap Inv := by
  intro M a b D x hI
  obtain ⟨P, N, ⟨g, wa, wb⟩, -, -, -, -, -⟩ := WW_now hI
  have cw := (CB_now hI).1
  have h10 := wa.1.2.2.2.1
  have I1 := Inv_told hI 0
  have r0 : RV (xu M 166 0 0) (xu M 166 0 0) := RV.refl _
  have no : ((∀ k, k < P → a ≠ nI k) ∨ (∀ k, k < P → b ≠ nI k) ∨ ¬ (0 ≤ D ∧ D ≤ 99) ∨ ¬ (0 ≤ x ∧ x ≤ 1)) → FX12_lap (fun r2 M2 => (-1 : Int32) = r2 ∧ Inv M2) 166 a b D x M := by
    intro hno
    unfold FX12_lap
    rintro M1 rfl
    refine s12_isPillar (P := P) wa.1.1 (by omega) (fun k hk e => ⟨fun h => (by cases h), fun _ => s12_isPillar (P := P) wa.1.1 (by omega) (fun k2 hk2 e2 => ⟨fun h => (by cases h), fun _ => s12_isIn ⟨fun _ => ⟨rfl, I1⟩, fun h3 => s12_isIn ⟨fun h4 => ?_, fun _ => ⟨rfl, I1⟩⟩⟩⟩) (fun _ => ⟨fun _ => ⟨rfl, I1⟩, fun h => (by cases h)⟩)⟩) (fun _ => ⟨fun _ => ⟨rfl, I1⟩, fun h => (by cases h)⟩)
    rcases hno with z | z | z | z
    · exact absurd e (z k hk)
    · exact absurd e2 (z k2 hk2)
    · exact absurd (of_decide_eq_true h3) z
    · exact absurd (of_decide_eq_true h4) z
  have e10 : M 2 10 = nI P := cw.1.1.trans wa.1.1
  have tls : ∀ q, q < P → xu M 166 0 0 167 (63 + q) = nI (ix (xu M 166 0 0 167 (63 + q))) ∧ ix (xu M 166 0 0 167 (63 + q)) ≤ 99 := fun q hq => by
    obtain ⟨t, t1, t2, t3⟩ := wa.2.2.2.1 q hq
    rw [t3, ixn (by omega)]; exact ⟨rfl, t2⟩
  unfold FX11_lap
  refine s9_isPillar (w := 2) (P := P) e10 (by omega) (fun ka hka ea => ⟨fun h => (by cases h), fun _ => s9_isPillar (w := 2) (P := P) e10 (by omega) (fun kb hkb eb => ⟨fun h => (by cases h), fun _ => s11_within ⟨fun h => no (Or.inr (Or.inr (Or.inl (of_decide_eq_false h)))), fun h3 => ⟨fun h => no (Or.inr (Or.inr (Or.inr (fun q => absurd q.1 (Int32.not_le.mpr h))))), fun h4 => ⟨fun h5 => ?_, fun h => no (Or.inr (Or.inr (Or.inr (fun q => h q.2))))⟩⟩⟩⟩) (fun hno => ⟨fun _ => no (Or.inr (Or.inl hno)), fun h => (by cases h)⟩)⟩) (fun hno => ⟨fun _ => no (Or.inl hno), fun h => (by cases h)⟩)
  have h3 := of_decide_eq_true h3
  obtain ⟨d, d0, d99, rfl⟩ := inNat (lo := 0) (hi := 99) (by decide) h3.1 h3.2 (by decide)
  subst ea eb
  generalize htl : (fun q => ix (xu M 166 0 0 167 (63 + q))) = tl
  have tl1 : ∀ q, q < P → xu M 166 0 0 167 (63 + q) = nI (tl q) ∧ tl q ≤ 99 := fun q hq => by rw [← htl]; exact tls q hq
  refine s1_walk (tl := tl) (P := P) h10 hka d99 (fun q hq => (tl1 q hq).2) e10 (fun q hq => (cw.2.2 q (by omega)).1.trans (tl1 q hq).1) (fun M1 f1 m1 => ?_)
  have ref : ∀ y : Int32, (∀ k, k < 10 → FH tl d P ka kb k → (x = 0 → y = nI k) ∧ (¬ x = 0 → y = nI (wk tl d P ka k kb))) → ((∀ k, k < 10 → wk tl d P ka k kb = 0) → y = -1) → FX12_lap (fun r2 M2 => y = r2 ∧ Inv M2) 166 (nI ka) (nI kb) (nI d) x M1 := by
    intro y y1 y2
    unfold FX12_lap
    rintro M2 rfl
    have r1 : RV (xu M 166 0 0) (xu M1 166 0 0) := RV_now (fun c i h => f1 c i (by omega) (by omega))
    have I2 : ∀ M3 : Mem, (∀ c i, c ≠ 189 → c ≠ 190 → M3 c i = xu M1 166 0 0 c i) → Inv M3 := by
      intro M3 f3
      refine Inv_congr (fun c i h => ?_) hI
      have n1 : c ≠ 163 := by rintro rfl; simp [sc] at h
      have n2 : c ≠ 164 := by rintro rfl; simp [sc] at h
      have n3 : c ≠ 189 := by rintro rfl; simp [sc, vr] at h
      have n4 : c ≠ 190 := by rintro rfl; simp [sc, vr] at h
      have n0 : ¬ (c = 166 ∧ i = 0) := by rintro ⟨rfl, rfl⟩; simp [sc] at h
      rw [f3 c i n3 n4, xu_ne _ _ n0, f1 c i n1 n2]
    have eP : xu M1 166 0 0 166 6 = nI P := (r1.n 6).trans wa.1.1
    refine s12_isPillar (P := P) eP (by omega) (fun _ _ _ => ⟨fun h => (by cases h), fun _ => s12_isPillar (P := P) eP (by omega) (fun _ _ _ => ⟨fun h => (by cases h), fun _ => s12_isIn ⟨fun h => absurd h3 (of_decide_eq_false h), fun _ => s12_isIn ⟨fun _ => ?_, fun h => absurd ⟨Int32.not_lt.mp h4, h5⟩ (of_decide_eq_false h)⟩⟩⟩) (fun q => absurd rfl (q kb hkb))⟩) (fun q => absurd rfl (q ka hka))
    exact s12_lap h10 r1 wa.1.1 hka hkb d99 tl1 (fun k M3 k1 k2 f3 => ⟨fun q => ⟨(y1 k k1 k2).1 q, I2 M3 f3⟩, fun q => ⟨(y1 k k1 k2).2 q, I2 M3 f3⟩⟩) (fun M3 k1 f3 => ⟨y2 k1, I2 M3 f3⟩)
  rw [ixn (by omega), show M1 (0 + 162 + 1) kb = M1 163 kb from rfl, show M1 (0 + 162 + 2) kb = M1 164 kb from rfl]
  refine ⟨vp_in_nI (by omega) (by decide), ?_⟩
  rcases m1 kb hkb with ⟨k, k1, k2, k3, k4⟩ | ⟨k1, k2⟩
  · have kl := FH_le hkb k2
    have un : ∀ j, FH tl d P ka kb j → j = k := fun j hj => FH_u hj k2
    rw [k3, k4]
    refine ⟨fun _ => ⟨fun q => ⟨vp_in_nI (by omega) (by decide), ref _ (fun j j1 j2 => ?_) (fun z => ?_)⟩, fun q => ⟨vp_in_nI (by omega) (by decide), ref _ (fun j j1 j2 => ?_) (fun z => ?_)⟩⟩, fun q => absurd q (m1_ne (by omega))⟩
    · rw [un j j2]; exact ⟨fun e => absurd e q, fun _ => rfl⟩
    · have := z k (by omega); have := k2.1; omega
    · rw [un j j2]; exact ⟨fun _ => rfl, fun e => absurd q e⟩
    · have := z k (by omega); have := k2.1; omega
  · have x1 : M1 163 kb = -1 := by
      rcases k2 with ⟨-, z, -⟩ | ⟨z, -, -⟩
      · exact z
      · exact absurd z (by simp [Tw, sm])
    rw [x1]
    refine ⟨fun q => absurd rfl q, fun _ => ref _ (fun j j1 j2 => ?_) (fun _ => rfl)⟩
    have := k1 j (by omega)
    have := j2.1
    omega
