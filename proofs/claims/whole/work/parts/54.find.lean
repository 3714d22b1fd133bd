/-! who sits where, who is highest, who goes down -/
theorem cnt_pos {f : Nat → Bool} {j : Nat} : ∀ {n : Nat}, j < n → f j = true → 0 < cnt f n
  | 0, h, _ => by omega
  | n + 1, h, hf => by
    simp only [cnt]
    by_cases e : j = n
    · subst e; rw [hf]; simp
    · have := cnt_pos (n := n) (by omega) hf
      omega
/-- the first place ahead of the n-th where f holds -/
def fnd (f : Nat → Bool) : Nat → Nat → Option Nat
  | 0, _ => none
  | r + 1, k => if f k then some k else fnd f r (k + 1)
theorem fnd_some {f : Nat → Bool} : ∀ {r k q : Nat}, fnd f r k = some q → k ≤ q ∧ q < k + r ∧ f q = true ∧ ∀ j, k ≤ j → j < q → f j = false
  | 0, k, q, h => by cases h
  | r + 1, k, q, h => by
    simp only [fnd] at h
    split at h
    · next h0 =>
      cases h
      exact ⟨by omega, by omega, h0, fun j h1 h2 => by omega⟩
    · next h0 =>
      obtain ⟨a, b, c, d⟩ := fnd_some h
      refine ⟨by omega, by omega, c, fun j h1 h2 => ?_⟩
      by_cases e : j = k
      · subst e; simpa using h0
      · exact d j (by omega) h2
theorem fnd_none {f : Nat → Bool} : ∀ {r k : Nat}, fnd f r k = none → ∀ j, k ≤ j → j < k + r → f j = false
  | 0, k, _, j, h1, h2 => by omega
  | r + 1, k, h, j, h1, h2 => by
    simp only [fnd] at h
    split at h
    · cases h
    · next h0 =>
      by_cases e : j = k
      · subst e; simpa using h0
      · exact fnd_none h j (by omega) (by omega)
theorem fnd_congr {f g : Nat → Bool} : ∀ {r k : Nat}, (∀ j, k ≤ j → j < k + r → f j = g j) → fnd f r k = fnd g r k
  | 0, k, _ => rfl
  | r + 1, k, h => by
    simp only [fnd]
    rw [h k (by omega) (by omega), fnd_congr (r := r) (k := k + 1) (fun j h1 h2 => h j (by omega) (by omega))]
theorem fnd_is {f : Nat → Bool} {n q : Nat} (hq : q < n) (h1 : f q = true) (h2 : ∀ j, j < n → f j = true → j = q) : fnd f n 0 = some q := by
  cases e : fnd f n 0 with
  | none => exact absurd h1 (by rw [fnd_none e q (by omega) (by omega)]; decide)
  | some j =>
    obtain ⟨a, b, c, -⟩ := fnd_some e
    rw [h2 j (by omega) c]
theorem fnd_no {f : Nat → Bool} {n : Nat} (h : ∀ j, j < n → f j = false) : fnd f n 0 = none := by
  cases e : fnd f n 0 with
  | none => rfl
  | some j =>
    obtain ⟨a, b, c, -⟩ := fnd_some e
    rw [h j (by omega)] at c; cases c
def sat (V : Mem) (x : Int32) (p : Nat) : Bool := decide (V 167 (73 + p) - 1 = x)
def pof (V : Mem) (P : Nat) (x : Int32) : Option Nat := fnd (sat V x) P 0
theorem s12_pillarOf {Q : Int32 → Prop} {V M : Mem} {P : Nat} {x : Int32} (hR : RV V M) (hP : V 166 6 = nI P) (h10 : P ≤ 10) (h : Q (oI (pof V P x))) : FX12_pillarOf Q 166 x M := by
  unfold FX12_pillarOf NX12_pillarOf_2
  refine xlp_for (fun r a => ∃ k, k + r = P ∧ a = nI k ∧ fnd (sat V x) r k = pof V P x) ?_ ?_ P _ ⟨0, by omega, rfl, rfl⟩
  · rintro a B ⟨k, hk, rfl, e⟩
    unfold lbX12_pillarOf_2
    rw [hR.n, hP]
    have : k = P := by omega
    subst this
    refine ⟨fun _ => ?_, fun hc => absurd (nI_le (Nat.le_refl _) (by omega)) hc⟩
    rw [← e] at h; exact h
  · rintro r a B ⟨k, hk, rfl, e⟩ hB
    unfold lbX12_pillarOf_2
    rw [hR.n, hP]
    refine ⟨fun hc => absurd hc (nI_ge (by omega) (by omega)), fun _ => s12_sitterOf (by omega) ?_⟩
    rw [hR.r, nI_1]
    simp only [fnd] at e
    refine ⟨fun h0 => hB _ ⟨k + 1, by omega, rfl, ?_⟩, fun h0 => ?_⟩
    · rw [if_neg (by simp [sat, h0])] at e; exact e
    · rw [if_pos (by simp [sat, h0])] at e; rw [← e] at h; exact h
theorem s9_pillarOf {Q : Int32 → Prop} {w : Nat} {V M : Mem} {P : Nat} {x : Int32} (hC : CW w V M) (hP : V 166 6 = nI P) (h10 : P ≤ 10) (hx : x ≠ -1) (h : Q (oI (pof V P x))) : FX9_pillarOf Q w x M := by
  unfold FX9_pillarOf NX9_pillarOf_2
  have e10 : M w 10 = nI P := hC.1.1.trans hP
  refine xlp_for (fun r a => ∃ k, k + r = P ∧ a = nI k ∧ fnd (sat V x) r k = pof V P x) ?_ ?_ P _ ⟨0, by omega, rfl, rfl⟩
  · rintro a B ⟨k, hk, rfl, e⟩
    unfold lbX9_pillarOf_2
    rw [e10]
    have : k = P := by omega
    subst this
    refine ⟨fun _ => ?_, fun hc => absurd (nI_le (Nat.le_refl _) (by omega)) hc⟩
    rw [← e] at h; exact h
  · rintro r a B ⟨k, hk, rfl, e⟩ hB
    unfold lbX9_pillarOf_2
    rw [e10, ixn (by omega), show M (w + 2) k = V 167 (73 + k) - 1 from (hC.2.2 k (by omega)).2.1, nI_1]
    simp only [fnd] at e
    refine ⟨fun hc => absurd hc (nI_ge (by omega) (by omega)), fun _ => ⟨vp_in_nI (by omega) (by decide), fun h0 => hB _ ⟨k + 1, by omega, rfl, ?_⟩, fun h0 => ⟨fun hc => absurd hc hx, fun _ => ?_⟩⟩⟩
    · rw [if_neg (by simp [sat, h0])] at e; exact e
    · rw [if_pos (by simp [sat, h0])] at e; rw [← e] at h; exact h
theorem s9_pillarOf1 {Q : Int32 → Prop} {w : Nat} {V M : Mem} {P : Nat} (hC : CW w V M) (hP : V 166 6 = nI P) (h10 : P ≤ 10) (h : Q (-1)) : FX9_pillarOf Q w (-1) M := by
  unfold FX9_pillarOf NX9_pillarOf_2
  have e10 : M w 10 = nI P := hC.1.1.trans hP
  refine xlp_for (fun r a => ∃ k, k + r = P ∧ a = nI k) ?_ ?_ P _ ⟨0, by omega, rfl⟩
  · rintro a B ⟨k, hk, rfl⟩
    unfold lbX9_pillarOf_2
    rw [e10]
    have : k = P := by omega
    subst this
    exact ⟨fun _ => h, fun hc => absurd (nI_le (Nat.le_refl _) (by omega)) hc⟩
  · rintro r a B ⟨k, hk, rfl⟩ hB
    unfold lbX9_pillarOf_2
    rw [e10, nI_1]
    exact ⟨fun hc => absurd hc (nI_ge (by omega) (by omega)), fun _ => ⟨vp_in_nI (by omega) (by decide), fun h0 => hB _ ⟨k + 1, by omega, rfl⟩, fun h0 => ⟨fun hc => hB _ ⟨k + 1, by omega, rfl⟩, fun hc => absurd rfl hc⟩⟩⟩
def hgh (V : Mem) (P : Nat) : Option Nat := nbl (fun q => V 167 (73 + q)) P
theorem s12_highest {Q : Int32 → Prop} {V M : Mem} {P : Nat} (hR : RV V M) (hP : V 166 6 = nI P) (h10 : P ≤ 10) (h : Q (oI (hgh V P))) : FX12_highest Q 166 M := by
  unfold FX12_highest NX12_highest_7
  rw [hR.n, hP]
  refine xlp_for (fun r a => r ≤ P ∧ a = nI r - 1 ∧ nbl (fun q => V 167 (73 + q)) r = hgh V P) ?_ ?_ P _ ⟨Nat.le_refl _, rfl, rfl⟩
  · rintro a B ⟨-, rfl, e⟩
    unfold lbX12_highest_7
    exact ⟨fun _ => by rw [← e] at h; exact h, fun hc => absurd (by decide) hc⟩
  · rintro r a B ⟨h1, rfl, e⟩ hB
    unfold lbX12_highest_7
    rw [nI_s1]
    refine ⟨fun hc => absurd hc (nI_pos (by omega)), fun _ => s12_sitterOf (by omega) ?_⟩
    rw [hR.r, sub1_m1, i32_m1]
    simp only [nbl] at e
    refine ⟨fun h0 => hB _ ⟨by omega, rfl, ?_⟩, fun h0 => ?_⟩
    · rw [if_pos h0] at e; exact e
    · rw [if_neg h0] at e; rw [← e] at h; exact h
theorem s9_highest {Q : Int32 → Prop} {w : Nat} {V M : Mem} {P : Nat} (hC : CW w V M) (hP : V 166 6 = nI P) (h10 : P ≤ 10) (h : Q (oI (hgh V P))) : FX9_highest Q w M := by
  unfold FX9_highest NX9_highest_7
  rw [show M w 10 = nI P from hC.1.1.trans hP]
  refine xlp_for (fun r a => r ≤ P ∧ a = nI r - 1 ∧ nbl (fun q => V 167 (73 + q)) r = hgh V P) ?_ ?_ P _ ⟨Nat.le_refl _, rfl, rfl⟩
  · rintro a B ⟨-, rfl, e⟩
    unfold lbX9_highest_7
    exact ⟨fun _ => by rw [← e] at h; exact h, fun hc => absurd (by decide) hc⟩
  · rintro r a B ⟨h1, rfl, e⟩ hB
    unfold lbX9_highest_7
    rw [nI_s1, ixn (by omega), show M (w + 2) r = V 167 (73 + r) - 1 from (hC.2.2 r (by omega)).2.1, sub1_m1, i32_m1]
    simp only [nbl] at e
    refine ⟨fun hc => absurd hc (nI_pos (by omega)), fun _ => ⟨vp_in_nI (by omega) (by decide), fun h0 => hB _ ⟨by omega, rfl, ?_⟩, fun h0 => ?_⟩⟩
    · rw [if_pos h0] at e; exact e
    · rw [if_neg h0] at e; rw [← e] at h; exact h
theorem hgh_lt {V : Mem} {P q : Nat} (h : hgh V P = some q) : q < P := (nbl_some h).1
theorem oI_ne {q : Nat} (h : q < 2 ^ 31) : oI (some q) ≠ -1 := m1_ne h
theorem nI_p1m1 (t : Nat) : nI (t + 1) - 1 = nI t := nI_s1 t
theorem pof_some {V : Mem} {P t p : Nat} (h : pof V P (nI t) = some p) : p < P ∧ V 167 (73 + p) = nI (t + 1) := by
  obtain ⟨-, h1, h2, -⟩ := fnd_some h
  have h2 := of_decide_eq_true h2
  refine ⟨by omega, ?_⟩
  rw [← nI_1, ← h2]; exact (sub_add1 _).symm
/-- the places of a world's row that are put: they don't meet what a note reads and writes -/
theorem xu_comm (M : Mem) {c i c2 i2 : Nat} (v v2 : Int32) (h : ¬ (c = c2 ∧ i = i2)) : xu (xu M c i v) c2 i2 v2 = xu (xu M c2 i2 v2) c i v := by
  funext a j
  simp only [xu_if]
  by_cases h1 : a = c ∧ j = i
  · rw [if_pos h1, if_pos h1, if_neg (by rintro ⟨rfl, rfl⟩; exact h ⟨h1.1.symm, h1.2.symm⟩)]
  · rw [if_neg h1, if_neg h1]
theorem gNote_xu (a b c : Int32) (V : Mem) {j : Nat} (v : Int32) (h0 : j ≠ 0) (h2 : j ≠ 2) : gNote a b c (xu V 167 j v) = xu (gNote a b c V) 167 j v := by
  unfold gNote
  rw [xu_ne V v (c := 167) (a := 166) (by omega), xu_ne V v (c := 167) (a := 167) (j := 2) (by omega), xu_ne V v (c := 167) (a := 167) (j := 0) (by omega)]
  split
  · rw [xu_comm V _ _ (c2 := 171) (by omega), xu_comm _ _ _ (c2 := 171) (c := 167) (by omega), xu_comm _ _ _ (c2 := 171) (c := 167) (by omega), xu_comm _ _ _ (c2 := 171) (c := 167) (by omega), xu_comm _ _ _ (c2 := 167) (i2 := 2) (c := 167) (i := j) (by omega)]
  · rfl
def gDown (P g p t : Nat) (V : Mem) : Mem := gClimb P (gNote 3 (nI t) (nI p) (xu (xu (xu V 167 (73 + p) 0) 167 (93 + g) (nI t)) 167 6 (nI (g + 1))))
theorem gDown_alt (P g p t : Nat) (V : Mem) : gDown P g p t V = gClimb P (xu (xu (xu (gNote 3 (nI t) (nI p) V) 167 (73 + p) 0) 167 (93 + g) (nI t)) 167 6 (nI (g + 1))) := by
  unfold gDown
  rw [gNote_xu _ _ _ _ _ (by decide) (by decide), gNote_xu _ _ _ _ _ (by omega) (by omega), gNote_xu _ _ _ _ _ (by omega) (by omega)]
theorem GF_down (P g p t : Nat) (V : Mem) : GF V (gDown P g p t V) := ((((GF.refl V).up _ _).up _ _).up _ _).trans ((GF_note _ _ _ _).trans (GF_climb _ _))
theorem WW_down0 {V : Mem} {P N g p t : Nat} (ha : WFa V P N g) (hb : WFb V P N g) (hp : p < P) (ht : t < N) (sp : V 167 (73 + p) = nI (t + 1)) : g < N ∧ WW (xu (xu (xu V 167 (73 + p) 0) 167 (93 + g) (nI t)) 167 6 (nI (g + 1))) P N := by
  have h10 := ha.1.2.2.2.1
  have h14 := ha.1.2.2.2.2.1
  have hgN := ha.2.2.2.2.1
  have hlt : g < N := by
    have h7 := hb.2.2.2.2.2.2
    have := cnt_pos (f := fun p => decide (V 167 (73 + p) ≠ 0)) (n := P) (j := p) hp (by simp [sp]; exact nI_ne0 (by omega) (by omega))
    omega
  have g14 : g < 14 := by omega
  refine ⟨hlt, g + 1, WFa_sit ha ?_ ?_ (fun i h1 h2 h3 => ?_) (xu_same _ _ _ _) (by omega) (fun j hj => ?_) (fun k hk => ?_), WB_iff.mpr (WB_down (by omega) hgN ha.2.2.1 hp ht sp ?_ (fun k h0 h1 => ?_) (fun k hk => ?_) ?_ (WB_congr (s := fun p => V 167 (73 + p)) (gr := fun k => V 167 (93 + k)) (dd := fun t => V 167 (49 + t)) (fun _ _ => rfl) (fun k hk => rfl) (fun t ht => ?_) (WB_iff.mp hb)))⟩
  · rw [xu_ne _ _ (by omega), xu_ne _ _ (by omega), xu_ne _ _ (by omega)]
  · rw [xu_ne _ _ (by omega), xu_ne _ _ (by omega), xu_ne _ _ (by omega)]
  · rw [xu_ne _ _ (by omega), xu_ne _ _ (by omega), xu_ne _ _ (by omega)]
  · rw [xu_ne _ _ (by omega), xu_ne _ _ (by omega), xu_if]
    split
    · exact ⟨0, by omega, rfl⟩
    · exact ha.2.2.1 j hj
  · rw [xu_ne _ _ (by omega), xu_if]
    split
    · exact ⟨t, ht, rfl⟩
    · next q =>
      rw [xu_ne _ _ (by omega)]
      exact hgN k (by omega)
  · show xu _ _ _ _ _ _ = _
    rw [xu_ne _ _ (by omega), xu_ne _ _ (by omega), xu_same]
  · show xu _ _ _ _ _ _ = _
    rw [xu_ne _ _ (by omega), xu_ne _ _ (by omega), xu_ne _ _ (by omega)]
  · show xu _ _ _ _ _ _ = _
    rw [xu_ne _ _ (by omega), xu_ne _ _ (by omega), xu_ne _ _ (by omega)]
  · show xu _ _ _ _ _ _ = _
    rw [xu_ne _ _ (by omega), xu_same]
  · show xu _ _ _ _ _ _ = _
    rw [xu_ne _ _ (by omega), xu_ne _ _ (by omega), xu_ne _ _ (by omega)]
theorem WW_down {V : Mem} {P N g p t : Nat} (ha : WFa V P N g) (hb : WFb V P N g) (hp : p < P) (ht : t < N) (sp : V 167 (73 + p) = nI (t + 1)) : WW (gDown P g p t V) P N ∧ WFz (gDown P g p t V) P := by
  obtain ⟨hlt, g2, w1, w2⟩ := WW_down0 ha hb hp ht sp
  have w3 := WF_note (a := 3) (b := nI t) (c := nI p) w1 w2
  exact ⟨WW_climb (Nat.le_refl P) ⟨g2, w3⟩, WFz_climb ⟨g2, w3⟩⟩
theorem s12_isDown {Q : Mem → Prop} {V M : Mem} {P N g p t : Nat} (hR : RV V M) (ha : WFa V P N g) (hb : WFb V P N g) (ht : t < N) (hp : pof V P (nI t) = some p) (h : ∀ M', RV (gDown P g p t V) M' → LO M M' → Q M') : FX12_isDown Q 166 (nI t) M := by
  obtain ⟨p1, p2⟩ := pof_some hp
  have h10 := ha.1.2.2.2.1
  have h14 := ha.1.2.2.2.2.1
  obtain ⟨hlt, w⟩ := WW_down0 ha hb p1 ht p2
  unfold FX12_isDown
  refine s12_pillarOf hR ha.1.1 h10 ?_
  rw [hp]
  show vp_in (73 + nI p) 107 ∧ _
  refine ⟨vp73 (by omega), ?_⟩
  rintro M2 rfl
  show FX12_comesBehind _ 166 (nI t) (xu M (166 + 1) (ix (73 + nI p)) 0)
  rw [ix73 (by omega)]
  unfold FX12_comesBehind
  have e6 : xu M (166 + 1) (73 + p) 0 (166 + 1) 6 = nI g := by rw [xu_ne _ _ (by omega)]; exact (hR.r 6).trans ha.1.2.2.1
  rw [e6, ix93 (by omega)]
  refine ⟨vp93 (by omega), ?_⟩
  rintro M3 rfl M4 rfl
  rw [xu_ne _ _ (by omega), e6, nI_1]
  have w' := w
  obtain ⟨g2, w1, w2⟩ := w'
  refine s12_notes (((hR.up 167 (73 + p) 0).up 167 (93 + g) (nI t)).up 167 6 (nI (g + 1))) w1.n2 (fun M5 r5 l5 => ?_)
  refine s12_allClimb r5 ⟨g2, WF_note w1 w2⟩ (fun M6 r6 l6 => h M6 r6 (LO.trans ?_ (l5.trans l6)))
  exact (((LO.refl M).up (by decide) _ _).up (by decide) _ _).up (by decide) _ _
theorem s9_goDown {Q : Mem → Prop} {w : Nat} {V M : Mem} {P N g p t : Nat} (hC : CB w V M) (ha : WFa V P N g) (hb : WFb V P N g) (ht : t < N) (hp : pof V P (nI t) = some p) (h : ∀ M', CB w (gDown P g p t V) M' → FR w M M' → Q M') : FX9_goDown Q w (nI t) M := by
  obtain ⟨p1, p2⟩ := pof_some hp
  have h10 := ha.1.2.2.2.1
  have h14 := ha.1.2.2.2.2.1
  obtain ⟨hlt, w0⟩ := WW_down0 ha hb p1 ht p2
  obtain ⟨g2, wa, wb⟩ := w0
  have w3 := WF_note (a := 3) (b := nI t) (c := nI p) wa wb
  unfold FX9_goDown
  refine s9_pillarOf hC.1 ha.1.1 h10 (fun q => m1_ne (j := t) (by omega) q) ?_
  rw [hp]
  refine ⟨fun hc => absurd hc (oI_ne (by omega)), fun _ => ?_⟩
  show FX9_note _ w 3 (nI t) (nI p) M
  refine s9_note hC ha.n2 (fun M2 c2 f2 => ?_)
  show vp_in (nI p) 10 ∧ ∀ M3 : Mem, M3 = xu M2 (w + 2) (ix (nI p)) (-1) → _
  rw [ixn (by omega)]
  refine ⟨vp_in_nI (by omega) (by decide), ?_⟩
  rintro M3 rfl
  have c3 := CB_up (d := 2) (i := p) (v := -1) (v2 := 0) c2 (by simp [wdom]; omega) (by decide)
  unfold FX9_joinGround
  have e9 : xu M2 (w + 2) p (-1) w 9 = nI g := by
    refine c3.1.1.2.2.2.2.2.2.2.2.1.trans ?_
    show xu (gNote 3 (nI t) (nI p) V) 167 (73 + p) 0 167 6 = nI g
    rw [xu_ne _ _ (by omega), gNote_r _ _ _ _ (by decide)]; exact ha.1.2.2.1
  rw [e9, ixn (by omega)]
  refine ⟨fun hc => absurd hc (nI_ge (b := 14) (by omega) (by decide)), fun _ => ⟨vp_in_nI (by omega) (by decide), ?_⟩⟩
  rintro M4 rfl M5 rfl
  rw [xu_ne _ _ (by omega), e9, nI_1]
  have c5 := CB_up (d := 0) (i := 9) (v := nI (g + 1)) (CB_up (d := 8) (i := g) (v := nI t) c3 (by simp [wdom]; omega) (sub0 _)) rfl (sub0 _)
  refine s9_climb (V := xu (xu (xu (gNote 3 (nI t) (nI p) V) 167 (73 + p) 0) 167 (93 + g) (nI t)) 167 6 (nI (g + 1))) (P := P) (N := N) c5 ⟨g2, ?_⟩ (fun M6 c6 f6 => h M6 (by rw [gDown_alt]; exact c6) (FR.trans ?_ f6))
  · rw [gNote_xu _ _ _ _ _ (by decide) (by decide), gNote_xu _ _ _ _ _ (by omega) (by omega), gNote_xu _ _ _ _ _ (by omega) (by omega)] at w3
    exact w3
  · exact FR.up (d := 0) (FR.up (d := 8) (FR.up (d := 2) f2 (by decide) _ _) (by decide) _ _) (by decide) _ _
