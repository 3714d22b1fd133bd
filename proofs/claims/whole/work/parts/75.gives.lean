/-! gives -/
theorem sub_step {F p w r : Nat} (h : F - p ≤ r + 1) (h2 : p < w) : F - w ≤ r := by omega
def Fg (V : Mem) (m t s : Nat) : Bool := (cl (tG V) (tT V) m (-1) s).testBit t
/-- the smallest set, the least of them -/
def BST (V : Mem) (m t b : Nat) : Prop := b < 65536 ∧ b.testBit t = false ∧ Fg V m t b = true ∧ ∀ s, s < 65536 → s.testBit t = false → Fg V m t s = true → popf 16 b < popf 16 s ∨ (popf 16 b = popf 16 s ∧ b ≤ s)
theorem BST_u {V : Mem} {m t a b : Nat} (ha : BST V m t a) (hb : BST V m t b) : a = b := by
  have h1 := ha.2.2.2 b hb.1 hb.2.1 hb.2.2.1
  have h2 := hb.2.2.2 a ha.1 ha.2.1 ha.2.2.1
  omega
def usf (V : Mem) (m t : Nat) : Nat := adn (lead (tG V) (tT V) m (2 ^ t)) (2 ^ t)
def mst (V : Mem) (m t : Nat) (j s : Nat) : Nat := if (usf V m t).testBit j = true then (if Fg V m t (adn (usf V m t) (2 ^ j)) = true then s else s ||| 2 ^ j) else s
theorem TH.T {V : Mem} {m : Nat} (h : TH V m) : ∀ l, l < m → tT V l < 16 := fun l q => (h.2.2 l q).2.2.2.2
theorem TH.G {V : Mem} {m : Nat} (h : TH V m) : ∀ l, l < m → tG V l < 65536 := fun l q => (h.2.2 l q).2.2.1
theorem ne_m1 {m l : Nat} (hm : m ≤ 16) (hl : l < m) : nI l ≠ (-1 : Int32) := m1_ne (by omega)
theorem Fg_mono {V : Mem} {m t a b : Nat} (h : TH V m) (hb : b < 65536) (hs : Sb a b) (hf : Fg V m t a = true) : Fg V m t b = true := Sb_iff.mp (cl_mono h.T hb hs) t hf
theorem usf_lt {V : Mem} {m t : Nat} (h : TH V m) (ht : t < 16) : usf V m t < 65536 := adn_lt (lead_ok h.G (pow_lt ht)).2
theorem usf_bit {V : Mem} {m t j : Nat} : (usf V m t).testBit j = ((lead (tG V) (tT V) m (2 ^ t)).testBit j && !decide (t = j)) := by
  unfold usf; rw [adn_bit, bit_pow]
/-- what doesn't lead to the goal is of no use -/
theorem Fg_use {V : Mem} {m t s : Nat} (h : TH V m) (ht : t < 16) (hs : s < 65536) (h0 : s.testBit t = false) (hf : Fg V m t s = true) : Fg V m t (s &&& usf V m t) = true := by
  have hlt : (s &&& usf V m t) < 65536 := Nat.lt_of_le_of_lt Nat.and_le_left hs
  have tl : (lead (tG V) (tT V) m (2 ^ t)).testBit t = true := Sb_iff.mp (lead_ok h.G (pow_lt ht)).1 t (by rw [bit_pow]; simp)
  have key := cl_least (G := tG V) (T := tT V) (m := m) (w := -1) (y := fun j => (lead (tG V) (tT V) m (2 ^ t)).testBit j = true → (cl (tG V) (tT V) m (-1) (s &&& usf V m t)).testBit j = true) (s := s) (fun l hl hw hG hT => ?_) (fun j hj hl => ?_)
  · exact key t hf tl
  · refine cl_closed h.T hlt hl hw (Sb_iff.mpr (fun j hj => hG j hj (Sb_iff.mp (lead_closed h.G (pow_lt ht) hl hT) j hj)))
  · refine Sb_iff.mp (cl_ok h.T hlt).1 j ?_
    rw [Nat.testBit_and, hj, usf_bit, hl]
    have : t ≠ j := by rintro rfl; rw [h0] at hj; cases hj
    simp [this]
theorem mst_bit {V : Mem} {m t : Nat} : ∀ k, k ≤ 16 → ∀ j, (fo (mst V m t) 0 k).testBit j = decide (j < k ∧ (usf V m t).testBit j = true ∧ Fg V m t (adn (usf V m t) (2 ^ j)) = false)
  | 0, _, j => by simp [fo]
  | k + 1, hk, j => by
    have ih := mst_bit (V := V) (m := m) (t := t) k (by omega) j
    show (mst V m t k (fo (mst V m t) 0 k)).testBit j = _
    unfold mst
    split
    · next h1 =>
      split
      · next h2 =>
        rw [show fo (fun j s => if (usf V m t).testBit j = true then (if Fg V m t (adn (usf V m t) (2 ^ j)) = true then s else s ||| 2 ^ j) else s) 0 k = fo (mst V m t) 0 k from rfl, ih]
        by_cases e : j = k
        · subst e; simp [h2]
        · congr 1
          have : (j < k ↔ j < k + 1) := by omega
          rw [this]
      · next h2 =>
        rw [show fo (fun j s => if (usf V m t).testBit j = true then (if Fg V m t (adn (usf V m t) (2 ^ j)) = true then s else s ||| 2 ^ j) else s) 0 k = fo (mst V m t) 0 k from rfl, Nat.testBit_or, ih, bit_pow]
        by_cases e : j = k
        · subst e
          have h2 : Fg V m t (adn (usf V m t) (2 ^ j)) = false := by simpa using h2
          simp [h1, h2]
        · rw [decide_eq_false (show ¬ k = j by omega), Bool.or_false]
          congr 1
          have : (j < k ↔ j < k + 1) := by omega
          rw [this]
    · next h1 =>
      rw [show fo (fun j s => if (usf V m t).testBit j = true then (if Fg V m t (adn (usf V m t) (2 ^ j)) = true then s else s ||| 2 ^ j) else s) 0 k = fo (mst V m t) 0 k from rfl, ih]
      by_cases e : j = k
      · subst e; simp [h1]
      · congr 1
        have : (j < k ↔ j < k + 1) := by omega
        rw [this]
/-- disjoint sets: the greater number -/
theorem or_add : ∀ {n a b : Nat}, a &&& b = 0 → a < 2 ^ n → b < 2 ^ n → a ||| b = a + b
  | 0, a, b, _, ha, hb => by
    simp at ha hb
    subst ha hb; rfl
  | n + 1, a, b, h, ha, hb => by
    rw [Nat.pow_succ] at ha hb
    have e := and_bit (a / 2) (b / 2) (a % 2) (b % 2) (by omega) (by omega)
    rw [show 2 * (a / 2) + a % 2 = a by omega, show 2 * (b / 2) + b % 2 = b by omega, h] at e
    have ih := or_add (n := n) (a := a / 2) (b := b / 2) (by omega) (by omega) (by omega)
    have e1 : (a ||| b) / 2 = a / 2 ||| b / 2 := Nat.or_div_two
    have e2 : (a ||| b) % 2 = a % 2 + b % 2 := by
      have q : (a ||| b) % 2 ^ 1 = (a % 2 ^ 1) ||| (b % 2 ^ 1) := Nat.or_mod_two_pow
      simp only [Nat.pow_one] at q
      rw [q]
      rcases (show a % 2 = 0 ∨ a % 2 = 1 by omega) with x | x <;> rcases (show b % 2 = 0 ∨ b % 2 = 1 by omega) with y | y <;> rw [x, y] <;> first | rfl | omega
    omega
theorem s7_lead {Q : Int32 → Prop} {V M : Mem} {m s : Nat} (hT : TH V m) (hc : CT 27 V M) (hs : s < 65536) (h : Q (nI (lead (tG V) (tT V) m s))) : FX7_leadingTo Q 27 (nI s) M := by
  obtain ⟨em, m16, hl⟩ := id hT
  have e2 : M 27 2 = nI m := hc.1.trans em
  have bnd : ∀ k, fo (fun _ x => fo (rl2 (tG V) (tT V)) x m) s k < 65536 := fun k => (fo_grow (n := k) (fun l s _ hs => rnd2_ok hT.G hs) hs k (Nat.le_refl k)).2
  unfold FX7_leadingTo NX7_leadingTo_7
  refine xlp_for (fun r a => ∃ k, k + r = 17 ∧ a.1 = nI (fo (fun _ x => fo (rl2 (tG V) (tT V)) x m) s k) ∧ a.2.2 = nI k ∧ (a.2.1 = 1 ∨ (a.2.1 = 0 ∧ fo (fun _ x => fo (rl2 (tG V) (tT V)) x m) s k = lead (tG V) (tT V) m s))) ?_ ?_ 17 (nI s, 1, 0) ⟨0, rfl, rfl, rfl, Or.inl rfl⟩
  · rintro ⟨x, y, z⟩ B ⟨k, hk, hx, hz, hy⟩
    have hx : x = nI (fo (fun _ x => fo (rl2 (tG V) (tT V)) x m) s k) := hx
    have hz : z = nI k := hz
    subst hx hz
    have : k = 17 := by omega
    subst this
    show lbX7_leadingTo_7 Q 27 M (fun l3 l4 l5 => B (l3, l4, l5)) _ y (nI 17)
    unfold lbX7_leadingTo_7
    exact ⟨fun _ => h, fun hc => absurd (by decide) hc⟩
  · rintro r ⟨x, y, z⟩ B ⟨k, hk, hx, hz, hy⟩ hB
    have hx : x = nI (fo (fun _ x => fo (rl2 (tG V) (tT V)) x m) s k) := hx
    have hz : z = nI k := hz
    subst hx hz
    show lbX7_leadingTo_7 Q 27 M (fun l3 l4 l5 => B (l3, l4, l5)) _ y (nI k)
    unfold lbX7_leadingTo_7
    have bk := bnd k
    have bk1 := bnd (k + 1)
    have fixd : fo (fun _ x => fo (rl2 (tG V) (tT V)) x m) s (k + 1) = fo (fun _ x => fo (rl2 (tG V) (tT V)) x m) s k → fo (fun _ x => fo (rl2 (tG V) (tT V)) x m) s (k + 1) = lead (tG V) (tT V) m s := by
      intro e
      have := fo_fix (R := fun x => fo (rl2 (tG V) (tT V)) x m) e (17 - k)
      rw [show k + (17 - k) = 17 by omega] at this
      rw [e]; exact this.symm
    refine ⟨fun hc => absurd hc (nI_nlt (a := 16) (by omega) (by decide)), fun _ => ⟨fun y0 => ?_, fun y1 => ?_⟩⟩
    · rcases hy with q | ⟨-, q⟩
      · have q : y = 1 := q
        rw [q] at y0; exact absurd y0 (by decide)
      · rw [q]; exact h
    · have fin : ∀ b : Int32, (b = 1 ∨ (b = 0 ∧ fo (fun _ x => fo (rl2 (tG V) (tT V)) x m) s (k + 1) = lead (tG V) (tT V) m s)) → B (nI (fo (fun _ x => fo (rl2 (tG V) (tT V)) x m) s (k + 1)), b, nI (k + 1)) := fun b hb => hB _ ⟨k + 1, by omega, rfl, rfl, hb⟩
      have eX : fo (fun _ x => fo (rl2 (tG V) (tT V)) x m) s (k + 1) = fo (rl2 (tG V) (tT V)) (fo (fun _ x => fo (rl2 (tG V) (tT V)) x m) s k) m := rfl
      rw [eX] at fin fixd bk1
      generalize fo (fun _ x => fo (rl2 (tG V) (tT V)) x m) s k = X at fin fixd bk bk1
      unfold NX7_leadingTo_24
      refine xlp_for (fun r a => ∃ l, l + r = m ∧ a.1 = nI (fo (rl2 (tG V) (tT V)) X l) ∧ a.2 = nI l) ?_ ?_ m (nI X, 0) ⟨0, by omega, rfl, rfl⟩
      · rintro ⟨x, y⟩ B2 ⟨l, hl2, hx, hy⟩
        have hx : x = nI (fo (rl2 (tG V) (tT V)) X l) := hx
        have hy : y = nI l := hy
        subst hx hy
        have : l = m := by omega
        subst this
        show lbX7_leadingTo_24 Q (fun l3 l4 l5 => B (l3, l4, l5)) 27 (nI k) (nI X) M (fun l3 l7 => B2 (l3, l7)) _ (nI l)
        unfold lbX7_leadingTo_24
        rw [e2, nI_eq (by omega) (by omega), nI_1]
        exact ⟨fun _ => ⟨fun q => fin 0 (Or.inr ⟨rfl, fixd q⟩), fun q => fin 1 (Or.inl rfl)⟩, fun hc => absurd (nI_le (Nat.le_refl _) (by omega)) hc⟩
      · rintro r ⟨x, y⟩ B2 ⟨l, hl2, hx, hy⟩ hB2
        have hx : x = nI (fo (rl2 (tG V) (tT V)) X l) := hx
        have hy : y = nI l := hy
        subst hx hy
        show lbX7_leadingTo_24 Q (fun l3 l4 l5 => B (l3, l4, l5)) 27 (nI k) (nI X) M (fun l3 l7 => B2 (l3, l7)) _ (nI l)
        unfold lbX7_leadingTo_24
        obtain ⟨g1, g2, g3, t1, t2⟩ := hl l (by omega)
        obtain ⟨c1, c2⟩ := hc.2 l (by omega) (by rw [em]; exact nI_lt (by omega) (by omega))
        have bl : fo (rl2 (tG V) (tT V)) X l < 65536 := (fo_grow (n := m) (fun l s hl hs => rl2_ok (hT.G l hl) hs) bk l (by omega)).2
        rw [e2, ixn (by omega), nI_1 l, show M (27 + 1) l = nI (tG V l) from c1.trans g1, show M (27 + 2) l = nI (2 ^ tT V l) from c2.trans (by rw [t1]; exact sh1 _ t2), Int32.and_comm, nI_hit bl]
        have go : ∀ x, x = rl2 (tG V) (tT V) l (fo (rl2 (tG V) (tT V)) X l) → B2 (nI x, nI (l + 1)) := by
          rintro x rfl
          exact hB2 _ ⟨l + 1, by omega, rfl, rfl⟩
        generalize fo (rl2 (tG V) (tT V)) X l = Y at bl go
        refine ⟨fun hc => absurd hc (nI_ge (by omega) (by omega)), fun _ => ⟨vp_in_nI (by omega) (by decide), fun q => go _ (by unfold rl2; rw [if_neg (by rw [q]; decide)]), fun q => ⟨vp_in_nI (by omega) (by decide), ?_⟩⟩⟩
        rintro y rfl
        rw [nI_or]
        exact go _ (by unfold rl2; rw [if_pos (by simpa using q)])
theorem s7_needed {Q : Int32 → Prop} {V M : Mem} {m t : Nat} (hT : TH V m) (hc : CT 27 V M) (ht : t < 16) (h : Q (nI (fo (mst V m t) 0 16))) : FX7_neededOf Q 27 (nI (usf V m t)) (nI (2 ^ t)) M := by
  have hu := usf_lt hT ht
  unfold FX7_neededOf NX7_neededOf_5
  refine xlp_for (fun r a => ∃ j, j + r = 16 ∧ a.1 = nI (fo (mst V m t) 0 j) ∧ a.2 = nI j) ?_ ?_ 16 (0, 0) ⟨0, rfl, rfl, rfl⟩
  · rintro ⟨x, y⟩ B ⟨j, hj, hx, hy⟩
    have hx : x = nI (fo (mst V m t) 0 j) := hx
    have hy : y = nI j := hy
    subst hx hy
    have : j = 16 := by omega
    subst this
    show lbX7_neededOf_5 Q 27 _ _ M (fun l3 l4 => B (l3, l4)) _ (nI 16)
    unfold lbX7_neededOf_5
    exact ⟨fun _ => h, fun hc => absurd (by decide) hc⟩
  · rintro r ⟨x, y⟩ B ⟨j, hj, hx, hy⟩ hB
    have hx : x = nI (fo (mst V m t) 0 j) := hx
    have hy : y = nI j := hy
    subst hx hy
    show lbX7_neededOf_5 Q 27 _ _ M (fun l3 l4 => B (l3, l4)) _ (nI j)
    unfold lbX7_neededOf_5
    have go : ∀ x, x = mst V m t j (fo (mst V m t) 0 j) → B (nI x, nI (j + 1)) := by
      rintro x rfl
      exact hB _ ⟨j + 1, by omega, rfl, rfl⟩
    generalize fo (mst V m t) 0 j = Y at go
    refine ⟨fun hc => absurd hc (nI_ge (b := 16) (by omega) (by decide)), fun _ => ?_⟩
    rintro y rfl
    rw [sh1 j (by omega), nI_hit hu, nI_adn, nI_1]
    refine ⟨fun q => go _ (by unfold mst; rw [if_neg (by rw [q]; decide)]), fun q => s7_closure hT hc (adn_lt hu) ?_⟩
    have q : (usf V m t).testBit j = true := by simpa using q
    rw [nI_hit (cl_ok hT.T (adn_lt hu)).2]
    refine ⟨fun z => go _ ?_, fun z => ?_⟩
    · have z : Fg V m t (adn (usf V m t) (2 ^ j)) = true := by unfold Fg; simpa using z
      unfold mst; rw [if_pos q, if_pos z]
    · rw [nI_or]
      refine go _ ?_
      have z : Fg V m t (adn (usf V m t) (2 ^ j)) = false := z
      unfold mst; rw [if_pos q, if_neg (by rw [z]; decide)]
theorem nxs32 {p f : Nat} (hp : p ≤ f) (hf : f < 65536) : (nI p - nI f) &&& nI f = nI (nxs 32 p f) := by
  have e : nI p - nI f = nI ((p + 2 ^ 32 - f) % 2 ^ 32) := by
    apply Int32.toBitVec_inj.mp
    rw [Int32.toBitVec_sub, nI_bits, nI_bits, nI_bits]
    apply BitVec.eq_of_toNat_eq
    rw [BitVec.toNat_sub, BitVec.toNat_ofNat, BitVec.toNat_ofNat, BitVec.toNat_ofNat]
    omega
  rw [e, nI_and]
  rfl
/-- the least of the smallest sets from which a tenet follows -/
theorem s7_fewest {Q : Int32 → Prop} {V M : Mem} {m t : Nat} (hT : TH V m) (hc : CT 27 V M) (ht : t < 16) (h0 : Fg V m t (usf V m t) = false → Q 0) (h1 : ∀ b, BST V m t b → Q (nI b)) : FX7_fewestFor Q 27 (nI t) M := by
  have hu := usf_lt hT ht
  have hp := pow_lt ht
  unfold FX7_fewestFor
  rintro y rfl
  rw [sh1 t ht]
  refine s7_lead hT hc hp ?_
  rintro y rfl
  rw [nI_adn]
  show FX7_closure _ 27 (nI (usf V m t)) (-1) M
  refine s7_closure hT hc hu ?_
  rw [nI_hit (cl_ok hT.T hu).2]
  refine ⟨fun hF => ?_, fun hF => h0 hF⟩
  have hF : Fg V m t (usf V m t) = true := by unfold Fg; simpa using hF
  show FX7_neededOf _ 27 (nI (usf V m t)) (nI (2 ^ t)) M
  refine s7_needed hT hc ht ?_
  rintro y rfl
  have hmb := mst_bit (V := V) (m := m) (t := t) 16 (by omega)
  have hms : Sb (fo (mst V m t) 0 16) (usf V m t) := Sb_iff.mpr (fun j hj => by rw [hmb j] at hj; exact (of_decide_eq_true hj).2.1)
  have hml : fo (mst V m t) 0 16 < 65536 := Nat.lt_of_le_of_lt (Sb_le hms) hu
  show NX7_fewestFor_52 Q 27 (nI (2 ^ t)) (nI (fo (mst V m t) 0 16)) (nI (usf V m t) &&& (nI (fo (mst V m t) 0 16) ^^^ -1)) (nI (usf V m t)) 0 0 M
  rw [nI_adn]
  generalize fo (mst V m t) 0 16 = X at hmb hms hml
  generalize hfr : adn (usf V m t) X = F
  have hFl : F < 65536 := by rw [← hfr]; exact adn_lt hu
  have hFb : ∀ j, F.testBit j = ((usf V m t).testBit j && !X.testBit j) := fun j => by rw [← hfr, adn_bit]
  have dis : ∀ p, Sb p F → X &&& p = 0 := fun p h => by
    apply Nat.eq_of_testBit_eq
    intro j
    rw [Nat.testBit_and, Nat.zero_testBit]
    cases hx : X.testBit j with
    | false => rfl
    | true =>
      cases hq : p.testBit j with
      | false => rfl
      | true =>
        have := Sb_iff.mp h j hq
        rw [hFb, hx] at this
        simp at this
  have add : ∀ p, Sb p F → X ||| p = X + p := fun p h => or_add (n := 16) (dis p h) hml (Nat.lt_of_le_of_lt (Sb_le h) hFl)
  have sub : ∀ p, Sb p F → Sb (X ||| p) (usf V m t) := fun p h => Sb_iff.mpr (fun j hj => by
    rw [Nat.testBit_or] at hj
    simp at hj
    rcases hj with hj | hj
    · exact Sb_iff.mp hms j hj
    · have := Sb_iff.mp h j hj
      rw [hFb] at this
      simp at this
      exact this.1)
  have ut : (usf V m t).testBit t = false := by rw [usf_bit]; simp
  -- when all parts are tried
  have fin : ∀ b, Sb b (usf V m t) → Fg V m t b = true → (∀ p, Sb p F → Fg V m t (X ||| p) = true → popf 16 b < popf 16 (X ||| p) ∨ (popf 16 b = popf 16 (X ||| p) ∧ b ≤ X ||| p)) → BST V m t b := by
    intro b hb hfb hall
    have hbl := Nat.lt_of_le_of_lt (Sb_le hb) hu
    refine ⟨hbl, ?_, hfb, fun s hs s0 sf => ?_⟩
    · cases q : b.testBit t with
      | false => rfl
      | true => rw [Sb_iff.mp hb t q] at ut; cases ut
    · have sf' := Fg_use hT ht hs s0 sf
      have hsl : (s &&& usf V m t) < 65536 := Nat.lt_of_le_of_lt Nat.and_le_left hs
      have hsub : Sb (s &&& usf V m t) s := Sb_iff.mpr (fun j hj => by rw [Nat.testBit_and] at hj; simp at hj; exact hj.1)
      have must : Sb X (s &&& usf V m t) := Sb_iff.mpr (fun j hj => by
        rw [hmb j] at hj
        obtain ⟨z1, z2, z3⟩ := of_decide_eq_true hj
        rw [Nat.testBit_and, z2, Bool.and_true]
        cases q : s.testBit j with
        | true => rfl
        | false =>
          have : Fg V m t (adn (usf V m t) (2 ^ j)) = true := by
            refine Fg_mono hT (adn_lt hu) (Sb_iff.mpr (fun i hi => ?_)) sf'
            rw [Nat.testBit_and] at hi
            simp at hi
            rw [adn_bit, hi.2, bit_pow]
            have : j ≠ i := by rintro rfl; rw [q] at hi; exact absurd hi.1 (by decide)
            simp [this]
          rw [this] at z3; cases z3)
      have pF : Sb (adn (s &&& usf V m t) X) F := Sb_iff.mpr (fun j hj => by
        rw [adn_bit] at hj
        simp at hj
        rw [hFb]
        simp [hj])
      have eq : X ||| adn (s &&& usf V m t) X = s &&& usf V m t := by
        apply Nat.eq_of_testBit_eq
        intro j
        rw [Nat.testBit_or, adn_bit]
        cases q : X.testBit j with
        | true => rw [Sb_iff.mp must j q]; rfl
        | false => simp
      have r := hall _ pF (by rw [eq]; exact sf')
      rw [eq] at r
      have mo := popf_mono (k := 16) hsub hsl hs
      rcases Nat.lt_or_ge (popf 16 (s &&& usf V m t)) (popf 16 s) with z | z
      · left; omega
      · have : (s &&& usf V m t) = s := mo.2 (by omega)
        rw [this] at r; exact r
  have proc : ∀ (B : Int32 → Int32 → Int32 → Prop) (b p i : Nat), i ≤ p → Sb p F → Sb b (usf V m t) → Fg V m t b = true → (b = usf V m t ∨ ∃ q, q < p ∧ Sb q F ∧ b = X ||| q) → (∀ q, q < p → Sb q F → Fg V m t (X ||| q) = true → popf 16 b < popf 16 (X ||| q) ∨ (popf 16 b = popf 16 (X ||| q) ∧ b ≤ X ||| q)) → (∀ c, Sb c (usf V m t) → Fg V m t c = true → (c = usf V m t ∨ ∃ q, q ≤ p ∧ Sb q F ∧ c = X ||| q) → (∀ q, q ≤ p → Sb q F → Fg V m t (X ||| q) = true → popf 16 c < popf 16 (X ||| q) ∨ (popf 16 c = popf 16 (X ||| q) ∧ c ≤ X ||| q)) → NX7_fewestFor_107 Q B 27 (nI (2 ^ t)) (nI X) (nI F) (nI c) (nI p) (nI i) M) → lbX7_fewestFor_52 Q 27 (nI (2 ^ t)) (nI X) (nI F) M B (nI b) (nI p) (nI i) := by
    intro B b p i hip hpF hbU hbf hbq hall hq
    have hpl := Sb_le hpF
    have hbl := Nat.lt_of_le_of_lt (Sb_le hbU) hu
    have hXp : (X ||| p) < 65536 := or_bnd hml (by omega)
    have p1 := popf_le 16 b
    have p2 := popf_le 16 (X ||| p)
    have keep : (Fg V m t (X ||| p) = true → popf 16 b ≤ popf 16 (X ||| p)) → NX7_fewestFor_107 Q B 27 (nI (2 ^ t)) (nI X) (nI F) (nI b) (nI p) (nI i) M := by
      intro hk
      refine hq b hbU hbf ?_ (fun q h1 h2 h3 => ?_)
      · rcases hbq with z | ⟨q, z1, z2, z3⟩
        · exact Or.inl z
        · exact Or.inr ⟨q, by omega, z2, z3⟩
      · rcases Nat.lt_or_ge q p with z | z
        · exact hall q z h2 h3
        · have : q = p := by omega
          subst this
          have hk := hk h3
          rcases hbq with z | ⟨q', z1, z2, z3⟩
          · have mo := popf_mono (k := 16) (sub q hpF) hXp hu
            rw [← z] at mo
            have : X ||| q = b := mo.2 (by omega)
            rw [this]; right; exact ⟨rfl, Nat.le_refl _⟩
          · have a1 := add q hpF
            have a2 := add q' z2
            have hle : X ||| q' ≤ X ||| q := by rw [a1, a2]; omega
            rw [z3] at hk ⊢
            rcases Nat.lt_or_ge (popf 16 (X ||| q')) (popf 16 (X ||| q)) with y | y
            · exact Or.inl y
            · exact Or.inr ⟨Nat.le_antisymm hk y, hle⟩
    unfold lbX7_fewestFor_52
    refine ⟨fun hc => absurd hc (nI_ge (b := 65536) (by omega) (by decide)), fun _ => ?_⟩
    rw [nI_or]
    refine s_bitCount hXp (s_bitCount hbl ?_)
    rw [nI_leI (by omega) (by omega)]
    unfold NX7_fewestFor_84
    refine ⟨fun z => ⟨fun _ => keep (fun _ => z), fun hc => absurd rfl hc⟩, fun z => ⟨fun hc => absurd hc (by decide), fun _ => s7_closure hT hc hXp ?_⟩⟩
    rw [nI_hit (cl_ok hT.T hXp).2]
    refine ⟨fun y => keep (fun y2 => ?_), fun y => ?_⟩
    · have y : Fg V m t (X ||| p) = false := y
      rw [y] at y2; cases y2
    · have y : Fg V m t (X ||| p) = true := by unfold Fg; simpa using y
      refine hq _ (sub p hpF) y (Or.inr ⟨p, Nat.le_refl _, hpF, rfl⟩) (fun q h1 h2 h3 => ?_)
      rcases Nat.lt_or_ge q p with w | w
      · have := hall q w h2 h3
        left; omega
      · have : q = p := by omega
        subst this
        right; exact ⟨rfl, Nat.le_refl _⟩
  unfold NX7_fewestFor_52
  refine xlp_for (fun r a => ∃ b p i, a.1 = nI b ∧ a.2.1 = nI p ∧ a.2.2 = nI i ∧ i ≤ p ∧ Sb p F ∧ F - p ≤ r ∧ Sb b (usf V m t) ∧ Fg V m t b = true ∧ (b = usf V m t ∨ ∃ q, q < p ∧ Sb q F ∧ b = X ||| q) ∧ (∀ q, q < p → Sb q F → Fg V m t (X ||| q) = true → popf 16 b < popf 16 (X ||| q) ∨ (popf 16 b = popf 16 (X ||| q) ∧ b ≤ X ||| q))) ?_ ?_ F (nI (usf V m t), 0, 0) ⟨usf V m t, 0, 0, rfl, rfl, rfl, Nat.le_refl 0, by simp [Sb], by omega, Sb_refl _, hF, Or.inl rfl, fun q hq => by omega⟩
  · rintro ⟨x, y, z⟩ B ⟨b, p, i, hx, hy, hz, hip, hpF, hr, hbU, hbf, hbq, hall⟩
    have hx : x = nI b := hx
    have hy : y = nI p := hy
    have hz : z = nI i := hz
    subst hx hy hz
    have hpl := Sb_le hpF
    have : p = F := by omega
    refine proc (fun l6 l7 l8 => B (l6, l7, l8)) b p i hip hpF hbU hbf hbq hall (fun c c1 c2 c3 c4 => ?_)
    unfold NX7_fewestFor_107
    refine ⟨fun hc => absurd (by rw [this]) hc, fun _ => h1 c (fin c c1 c2 (fun q hq hf => c4 q ?_ hq hf))⟩
    have := Sb_le hq
    omega
  · rintro r ⟨x, y, z⟩ B ⟨b, p, i, hx, hy, hz, hip, hpF, hr, hbU, hbf, hbq, hall⟩ hB
    have hx : x = nI b := hx
    have hy : y = nI p := hy
    have hz : z = nI i := hz
    subst hx hy hz
    have hpl := Sb_le hpF
    refine proc (fun l6 l7 l8 => B (l6, l7, l8)) b p i hip hpF hbU hbf hbq hall (fun c c1 c2 c3 c4 => ?_)
    unfold NX7_fewestFor_107
    rw [nI_eq (by omega) (by omega)]
    refine ⟨fun hne => ?_, fun e => h1 c (fin c c1 c2 (fun q hq hf => c4 q (by have := Sb_le hq; omega) hq hf))⟩
    rw [nxs32 hpl hFl, nI_1]
    have nl : ∀ q, Sb q F → p < q → p < nxs 32 p F ∧ nxs 32 p F ≤ q ∧ Sb (nxs 32 p F) F := fun q hq hlt => nxs_least hpF hq (by omega) hlt
    have n1 := nl F (Sb_refl F) (by omega)
    generalize nxs 32 p F = w at nl n1
    have n2 : i + 1 ≤ w := by have := n1.1; omega
    have n3 : F - w ≤ r := sub_step hr n1.1
    refine hB _ ⟨c, w, i + 1, rfl, rfl, rfl, n2, n1.2.2, n3, c1, c2, ?_, fun q h1 h2 h3 => c4 q ?_ h2 h3⟩
    · rcases c3 with z | ⟨q, z1, z2, z3⟩
      · exact Or.inl z
      · exact Or.inr ⟨q, by omega, z2, z3⟩
    · rcases Nat.lt_or_ge p q with z | z
      · have := nl q h2 z
        omega
      · exact z
theorem s12_gives {Q : Int32 → Mem → Prop} {V M : Mem} {m t : Nat} {b : Int32} (hT : TH V m) (hR : RV V M) (ht : t < 16) (hex : ∃ s, s < 65536 ∧ s.testBit t = false ∧ Fg V m t s = true) (h : ∀ x, BST V m t x → (b = 1 → Q (nI x) M) ∧ (¬ b = 1 → Q (nI (popf 16 x)) M)) : NX12_gives_65 Q 166 (nI t) b (-1) 0 M := by
  unfold NX12_gives_65
  refine xlp_for (fun r a => ∃ k, k + r = 65536 ∧ a.2 = nI k ∧ ((a.1 = -1 ∧ ∀ s, s < k → s.testBit t = false → Fg V m t s = false) ∨ ∃ x, a.1 = nI x ∧ x < k ∧ x.testBit t = false ∧ Fg V m t x = true ∧ ∀ s, s < k → s.testBit t = false → Fg V m t s = true → popf 16 x < popf 16 s ∨ (popf 16 x = popf 16 s ∧ x ≤ s))) ?_ ?_ 65536 (-1, 0) ⟨0, by omega, rfl, Or.inl ⟨rfl, fun s hs => by omega⟩⟩
  · rintro ⟨x, y⟩ B ⟨k, hk, hy, hx⟩
    have hy : y = nI k := hy
    subst hy
    have : k = 65536 := by omega
    subst this
    show lbX12_gives_65 Q 166 (nI t) b M (fun l3 l4 => B (l3, l4)) x (nI 65536)
    unfold lbX12_gives_65
    refine ⟨fun _ => ?_, fun hc => absurd (by decide) hc⟩
    rcases hx with ⟨-, hno⟩ | ⟨z, hz, z1, z2, z3, z4⟩
    · obtain ⟨s, s1, s2, s3⟩ := hex
      rw [hno s s1 s2] at s3; cases s3
    · have hz : x = nI z := hz
      subst hz
      obtain ⟨q1, q2⟩ := h z ⟨z1, z2, z3, z4⟩
      exact ⟨fun hc => absurd hc (m1_ne (by omega)), fun _ => ⟨fun q => s12_onesOf z1 (q2 q), q1⟩⟩
  · rintro r ⟨x, y⟩ B ⟨k, hk, hy, hx⟩ hB
    have hy : y = nI k := hy
    subst hy
    show lbX12_gives_65 Q 166 (nI t) b M (fun l3 l4 => B (l3, l4)) x (nI k)
    unfold lbX12_gives_65
    rw [nI_1]
    refine ⟨fun hc => absurd hc (nI_ge (b := 65536) (by omega) (by decide)), fun _ => s12_has (by omega) ht ?_⟩
    rcases hx with ⟨hx, hno⟩ | ⟨z, hz, z1, z2, z3, z4⟩
    · have hx : x = -1 := hx
      subst hx
      refine ⟨fun q => hB _ ⟨k + 1, by omega, rfl, Or.inl ⟨rfl, fun s h1 h2 => ?_⟩⟩, fun q => ⟨fun _ => ?_, fun hc => absurd rfl hc⟩⟩
      · rcases Nat.lt_or_ge s k with w | w
        · exact hno s w h2
        · have : s = k := by omega
          subst this; rw [q] at h2; cases h2
      · unfold NX12_gives_102
        rw [nI_1]
        refine s12_followsBut hT hR (by omega) (s12_has (cl_ok hT.T (by omega)).2 ht ⟨fun f => hB _ ⟨k + 1, by omega, rfl, Or.inl ⟨rfl, fun s h1 h2 => ?_⟩⟩, fun f => hB _ ⟨k + 1, by omega, rfl, Or.inr ⟨k, rfl, by omega, q, f, fun s h1 h2 h3 => ?_⟩⟩⟩)
        · rcases Nat.lt_or_ge s k with w | w
          · exact hno s w h2
          · have : s = k := by omega
            subst this; exact f
        · rcases Nat.lt_or_ge s k with w | w
          · rw [hno s w h2] at h3; cases h3
          · have : s = k := by omega
            subst this; right; exact ⟨rfl, Nat.le_refl _⟩
    · have hz : x = nI z := hz
      subst hz
      have p1 := popf_le 16 z
      have p2 := popf_le 16 k
      refine ⟨fun q => hB _ ⟨k + 1, by omega, rfl, Or.inr ⟨z, rfl, by omega, z2, z3, fun s h1 h2 h3 => ?_⟩⟩, fun q => ⟨fun hc => absurd hc (m1_ne (by omega)), fun _ => s12_onesOf (by omega) (s12_onesOf (by omega) ?_)⟩⟩
      · rcases Nat.lt_or_ge s k with w | w
        · exact z4 s w h2 h3
        · have : s = k := by omega
          subst this; rw [q] at h2; cases h2
      · rw [nI_leI (by omega) (by omega)]
        refine ⟨fun le => hB _ ⟨k + 1, by omega, rfl, Or.inr ⟨z, rfl, by omega, z2, z3, fun s h1 h2 h3 => ?_⟩⟩, fun gt => ?_⟩
        · rcases Nat.lt_or_ge s k with w | w
          · exact z4 s w h2 h3
          · have : s = k := by omega
            subst this; omega
        · unfold NX12_gives_102
          rw [nI_1]
          refine s12_followsBut hT hR (by omega) (s12_has (cl_ok hT.T (by omega)).2 ht ⟨fun f => hB _ ⟨k + 1, by omega, rfl, Or.inr ⟨z, rfl, by omega, z2, z3, fun s h1 h2 h3 => ?_⟩⟩, fun f => hB _ ⟨k + 1, by omega, rfl, Or.inr ⟨k, rfl, by omega, q, f, fun s h1 h2 h3 => ?_⟩⟩⟩)
          · rcases Nat.lt_or_ge s k with w | w
            · exact z4 s w h2 h3
            · have : s = k := by omega
              subst this
              have f : Fg V m t s = false := f
              rw [f] at h3; cases h3
          · rcases Nat.lt_or_ge s k with w | w
            · have := z4 s w h2 h3
              left; omega
            · have : s = k := by omega
              subst this; right; exact ⟨rfl, Nat.le_refl _⟩
def idl (V : Mem) (m : Nat) : Nat → Int32
  | 0 => 0
  | k + 1 => if (cl (tG V) (tT V) m (nI k) (tG V k)).testBit (tT V k) = true then idl V m k + 1 else idl V m k
theorem q_gives : lq_gives Inv := by
  intro M a b hI
  obtain ⟨m, th⟩ := TH_now hI
  have ct := CT_now hI
  obtain ⟨em, m16, hl⟩ := id th
  have I1 := Inv_told hI 0
  have r0 : RV (xu M 166 0 0) (xu M 166 0 0) := RV.refl _
  have e2 : M 27 2 = nI m := ct.1.trans em
  unfold FX11_gives
  refine ⟨fun nb => ?_, fun b2 => ?_⟩
  · have no : (¬ (0 ≤ a ∧ a ≤ 15) ∨ ¬ (0 ≤ b ∧ b ≤ 1)) → FX12_gives (fun r2 M2 => (-1 : Int32) = r2 ∧ Inv M2) 166 a b M := by
      intro hno
      unfold FX12_gives
      rintro M1 rfl
      refine ⟨fun _ => s12_isIn ⟨fun _ => ⟨rfl, I1⟩, fun h1 => s12_isIn ⟨fun _ => ⟨rfl, I1⟩, fun h2 => ?_⟩⟩, fun q => absurd q nb⟩
      rcases hno with z | z
      · exact absurd (of_decide_eq_true h1) z
      · exact absurd (of_decide_eq_true h2) z
    have l15 : a ≤ 15 ↔ ¬ 16 ≤ a := by
      rw [Int32.le_iff_toInt_le, Int32.le_iff_toInt_le, show (15 : Int32).toInt = 15 from rfl, show (16 : Int32).toInt = 16 from rfl]; omega
    refine ⟨fun h => no (Or.inl (fun q => absurd q.1 (Int32.not_le.mpr h))), fun h1 => ⟨fun h => no (Or.inl (fun q => absurd h (l15.mp q.2))), fun h2 => ⟨fun h => no (Or.inr (fun q => absurd q.1 (Int32.not_le.mpr h))), fun h3 => ⟨fun h4 => ?_, fun h => no (Or.inr (fun q => h q.2))⟩⟩⟩⟩
    have ina : 0 ≤ a ∧ a ≤ 15 := ⟨Int32.not_lt.mp h1, l15.mpr h2⟩
    have inb : 0 ≤ b ∧ b ≤ 1 := ⟨Int32.not_lt.mp h3, h4⟩
    obtain ⟨t, t0, t15, rfl⟩ := inNat (lo := 0) (hi := 15) (by decide) ina.1 ina.2 (by decide)
    have ht : t < 16 := by omega
    have hu := usf_lt th ht
    have hall : adn 65535 (2 ^ t) < 65536 := adn_lt (by decide)
    have at0 : (adn 65535 (2 ^ t)).testBit t = false := by rw [adn_bit, bit_pow]; simp
    have usub : Sb (usf (xu M 166 0 0) m t) (adn 65535 (2 ^ t)) := Sb_iff.mpr (fun j hj => by
      have jl : j < 16 := by
        rcases Nat.lt_or_ge j 16 with z | z
        · exact z
        · rw [bit_hi hu z] at hj; cases hj
      rw [adn_bit, bit_pow]
      rw [usf_bit] at hj
      simp at hj
      have : ∀ j, j < 16 → (65535 : Nat).testBit j = true := by decide +kernel
      rw [this j jl]
      simp [hj.2])
    have iff : Fg (xu M 166 0 0) m t (adn 65535 (2 ^ t)) = true ↔ Fg (xu M 166 0 0) m t (usf (xu M 166 0 0) m t) = true := by
      constructor
      · intro hf
        have := Fg_use th ht hall at0 hf
        refine Fg_mono th hu (Sb_iff.mpr (fun j hj => ?_)) this
        rw [Nat.testBit_and] at hj
        simp at hj
        exact hj.2
      · exact Fg_mono th hall usub
    have ref : ∀ x : Int32, (Fg (xu M 166 0 0) m t (usf (xu M 166 0 0) m t) = false → x = -1) → (∀ z, BST (xu M 166 0 0) m t z → (b = 1 → x = nI z) ∧ (¬ b = 1 → x = nI (popf 16 z))) → FX12_gives (fun r2 M2 => x = r2 ∧ Inv M2) 166 (nI t) b M := by
      intro x x0 x1
      unfold FX12_gives
      rintro M1 rfl
      refine ⟨fun _ => s12_isIn ⟨fun h => absurd ina (of_decide_eq_false h), fun _ => s12_isIn ⟨fun h => absurd inb (of_decide_eq_false h), fun _ => ?_⟩⟩, fun q => absurd q nb⟩
      rw [sh1 t ht, show (65535 : Int32) = nI 65535 from rfl, nI_adn]
      refine s12_followsBut th r0 hall (s12_has (cl_ok th.T hall).2 ht ⟨fun f => ?_, fun f => ⟨x0 ?_, I1⟩⟩)
      · exact s12_gives th r0 ht ⟨_, hall, at0, f⟩ (fun z hz => ⟨fun q => ⟨(x1 z hz).1 q, I1⟩, fun q => ⟨(x1 z hz).2 q, I1⟩⟩)
      · cases q : Fg (xu M 166 0 0) m t (usf (xu M 166 0 0) m t) with
        | false => rfl
        | true =>
          have f : Fg (xu M 166 0 0) m t (adn 65535 (2 ^ t)) = false := f
          rw [iff.mpr q] at f; cases f
    refine s7_fewest th ct ht (fun hf => ⟨fun q => absurd rfl q, fun _ => ref _ (fun _ => rfl) (fun z hz => ?_)⟩) (fun z hz => ?_)
    · have := Fg_use th ht hz.1 hz.2.1 hz.2.2.1
      rw [Fg_mono th hu (Sb_iff.mpr (fun j hj => by rw [Nat.testBit_and] at hj; simp at hj; exact hj.2)) this] at hf
      cases hf
    · have zl := hz.1
      have z0 : z ≠ 0 := by
        rintro rfl
        have key := cl_least (G := tG (xu M 166 0 0)) (T := tT (xu M 166 0 0)) (m := m) (w := -1) (y := fun _ => False) (s := 0) (fun l hl' _ hG => ?_) (fun j hj => by rw [Nat.zero_testBit] at hj; cases hj)
        · exact key t hz.2.2.1
        · have g := (hl l hl').2.1
          obtain ⟨j, hj⟩ := Nat.exists_testBit_of_ne_zero (by omega : tG (xu M 166 0 0) l ≠ 0)
          exact hG j hj
      have hF : ¬ Fg (xu M 166 0 0) m t (usf (xu M 166 0 0) m t) = false := by
        have := Fg_use th ht hz.1 hz.2.1 hz.2.2.1
        rw [Fg_mono th hu (Sb_iff.mpr (fun j hj => by rw [Nat.testBit_and] at hj; simp at hj; exact hj.2)) this]
        decide
      refine ⟨fun _ => ⟨fun nb0 => ref _ (fun q => absurd q hF) (fun y hy => ?_), fun b0 => s_bitCount zl (ref _ (fun q => absurd q hF) (fun y hy => ?_))⟩, fun q => absurd q (nI_ne0 (by omega) (by omega))⟩
      · rw [BST_u hy hz]
        refine ⟨fun _ => rfl, fun q => absurd ?_ q⟩
        obtain ⟨j, j1, rfl⟩ := nI_le_of (k := 1) (Int32.not_lt.mpr inb.1) (Int32.not_lt.mpr inb.2) (by decide)
        rcases (show j = 0 ∨ j = 1 by omega) with rfl | rfl
        · exact absurd rfl nb0
        · rfl
      · rw [BST_u hy hz]
        exact ⟨fun q => by rw [b0] at q; exact absurd q (by decide), fun _ => rfl⟩
  · subst b2
    unfold FX7_idle NX7_idle_4
    refine xlp_for (fun r a => ∃ k, k + r = m ∧ a.1 = idl (xu M 166 0 0) m k ∧ a.2 = nI k) ?_ ?_ m (0, 0) ⟨0, by omega, rfl, rfl⟩
    · rintro ⟨x, y⟩ B ⟨k, hk, hx, hy⟩
      have hx : x = idl (xu M 166 0 0) m k := hx
      have hy : y = nI k := hy
      subst hx hy
      have : k = m := by omega
      subst this
      show lbX7_idle_4 _ 27 M (fun l1 l2 => B (l1, l2)) _ (nI k)
      unfold lbX7_idle_4
      rw [e2]
      refine ⟨fun _ => ?_, fun hc => absurd (nI_le (Nat.le_refl _) (by omega)) hc⟩
      unfold FX12_gives
      rintro M1 rfl
      refine ⟨fun q => absurd rfl q, fun _ => ?_⟩
      unfold FX12_idle NX12_idle_4
      refine xlp_for (fun r a => ∃ j, j + r = k ∧ a.1 = idl (xu M 166 0 0) k j ∧ a.2 = nI j) ?_ ?_ k (0, 0) ⟨0, by omega, rfl, rfl⟩
      · rintro ⟨x, y⟩ B2 ⟨j, hj, hx, hy⟩
        have hx : x = idl (xu M 166 0 0) k j := hx
        have hy : y = nI j := hy
        subst hx hy
        have : j = k := by omega
        subst this
        show lbX12_idle_4 _ 166 _ (fun l1 l2 => B2 (l1, l2)) _ (nI j)
        unfold lbX12_idle_4
        rw [show xu M 166 0 0 166 37 = nI j from em]
        exact ⟨fun _ => ⟨rfl, I1⟩, fun hc => absurd (nI_le (Nat.le_refl _) (by omega)) hc⟩
      · rintro r ⟨x, y⟩ B2 ⟨j, hj, hx, hy⟩ hB
        have hx : x = idl (xu M 166 0 0) k j := hx
        have hy : y = nI j := hy
        subst hx hy
        show lbX12_idle_4 _ 166 _ (fun l1 l2 => B2 (l1, l2)) _ (nI j)
        unfold lbX12_idle_4
        obtain ⟨g1, g2, g3, t1, t2⟩ := hl j (by omega)
        rw [show xu M 166 0 0 166 37 = nI k from em, ix2k (by omega), ix2k1 (by omega), nI_1, show xu M 166 0 0 (166 + 18) (2 * j) = nI (tG (xu M 166 0 0) j) from g1, show xu M 166 0 0 (166 + 18) (2 * j + 1) = nI (tT (xu M 166 0 0) j) from t1]
        refine ⟨fun hc => absurd hc (nI_ge (by omega) (by omega)), fun _ => ⟨vp2k (by omega) (by decide), s12_followsBut th r0 g3 ⟨vp2k1 (by omega) (by decide), s12_has (cl_ok th.T g3).2 t2 ⟨fun f => hB _ ⟨j + 1, by omega, ?_, rfl⟩, fun f => hB _ ⟨j + 1, by omega, ?_, rfl⟩⟩⟩⟩⟩
        · simp only [idl]; rw [if_neg (by rw [f]; decide)]
        · simp only [idl]; rw [if_pos f]
    · rintro r ⟨x, y⟩ B ⟨k, hk, hx, hy⟩ hB
      have hx : x = idl (xu M 166 0 0) m k := hx
      have hy : y = nI k := hy
      subst hx hy
      show lbX7_idle_4 _ 27 M (fun l1 l2 => B (l1, l2)) _ (nI k)
      unfold lbX7_idle_4
      obtain ⟨g1, g2, g3, t1, t2⟩ := hl k (by omega)
      obtain ⟨c1, c2⟩ := ct.2 k (by omega) (by rw [em]; exact nI_lt (by omega) (by omega))
      rw [e2, ixn (by omega), nI_1, show M (27 + 1) k = nI (tG (xu M 166 0 0) k) from c1.trans g1, show M (27 + 2) k = nI (2 ^ tT (xu M 166 0 0) k) from c2.trans (by rw [t1]; exact sh1 _ t2)]
      refine ⟨fun hc => absurd hc (nI_ge (by omega) (by omega)), fun _ => ⟨vp_in_nI (by omega) (by decide), s7_closure th ct g3 ⟨vp_in_nI (by omega) (by decide), ?_⟩⟩⟩
      rw [nI_hit (cl_ok th.T g3).2]
      refine ⟨fun f => hB _ ⟨k + 1, by omega, ?_, rfl⟩, fun f => hB _ ⟨k + 1, by omega, ?_, rfl⟩⟩
      · simp only [idl]; rw [if_neg (by rw [f]; decide)]
      · simp only [idl]; rw [if_pos (by simpa using f)]
