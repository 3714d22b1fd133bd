/-! follows -/
theorem rl_w {G T : Nat → Nat} {w : Int32} {l s : Nat} (h : nI l = w) : rl G T w l s = s := by unfold rl; rw [if_pos h]
theorem rl_n {G T : Nat → Nat} {w : Int32} {l s : Nat} (h : ¬ nI l = w) (h2 : ¬ G l &&& s = G l) : rl G T w l s = s := by unfold rl; rw [if_neg h, if_neg h2]
theorem rl_y {G T : Nat → Nat} {w : Int32} {l s : Nat} (h : ¬ nI l = w) (h2 : G l &&& s = G l) : rl G T w l s = s ||| 2 ^ T l := by unfold rl; rw [if_neg h, if_pos h2]
theorem bit_hi {a j : Nat} (ha : a < 65536) (hj : 16 ≤ j) : a.testBit j = false := Nat.testBit_lt_two_pow (Nat.lt_of_lt_of_le ha (Nat.pow_le_pow_right (n := 2) (by decide) hj))
theorem m1_bit : ∀ j, j < 32 → (-1 : Int32).toBitVec.getLsbD j = true := by decide +kernel
theorem z_bit : ∀ j, j < 32 → (0 : Int32).toBitVec.getLsbD j = false := by decide +kernel
def adn (a b : Nat) : Nat := a ^^^ (a &&& b)
theorem adn_bit (a b j : Nat) : (adn a b).testBit j = (a.testBit j && !b.testBit j) := by
  unfold adn
  rw [Nat.testBit_xor, Nat.testBit_and]
  cases a.testBit j <;> cases b.testBit j <;> rfl
theorem nI_adn (a b : Nat) : nI a &&& (nI b ^^^ (-1)) = nI (adn a b) := by
  apply i32_ext
  intro j hj
  rw [Int32.toBitVec_and, BitVec.getLsbD_and, Int32.toBitVec_xor, BitVec.getLsbD_xor, nI_bit _ _ hj, nI_bit _ _ hj, nI_bit _ _ hj, m1_bit j hj, adn_bit]
  cases a.testBit j <;> cases b.testBit j <;> rfl
theorem adn_sb (a b : Nat) : Sb (adn a b) a := Sb_iff.mpr (fun j h => by rw [adn_bit] at h; simp at h; exact h.1)
theorem adn_lt {a b : Nat} (ha : a < 65536) : adn a b < 65536 := Nat.lt_of_le_of_lt (Sb_le (adn_sb a b)) ha
theorem adn_zero {a b : Nat} : adn a b = 0 ↔ Sb a b := by
  constructor
  · intro h
    refine Sb_iff.mpr (fun j hj => ?_)
    have := adn_bit a b j
    rw [h, hj] at this
    simp at this
    exact this
  · intro h
    apply Nat.eq_of_testBit_eq
    intro j
    rw [adn_bit, Nat.zero_testBit]
    cases hj : a.testBit j with
    | false => rfl
    | true => rw [Sb_iff.mp h j hj]; rfl
theorem nand_iff {a b : Nat} (ha : a < 65536) : nI a &&& (nI b ^^^ (-1)) = 0 ↔ a &&& b = a := by
  rw [nI_adn, show (0 : Int32) = nI 0 from rfl, nI_eq (by have := adn_lt (b := b) ha; omega) (by decide), adn_zero]
  rfl
theorem sh1 : ∀ k, k < 16 → (1 : Int32) <<< (nI k &&& 31) = nI (2 ^ k) := by decide +kernel
theorem pow_lt {k : Nat} (h : k < 16) : 2 ^ k < 65536 := Nat.pow_lt_pow_right (a := 2) (n := 16) (by decide) h
theorem and_pow {a t : Nat} : a &&& 2 ^ t = 0 ↔ a.testBit t = false := by
  constructor
  · intro h
    have : (a &&& 2 ^ t).testBit t = false := by rw [h, Nat.zero_testBit]
    rw [Nat.testBit_and, bit_pow] at this
    simpa using this
  · intro h
    apply Nat.eq_of_testBit_eq
    intro j
    rw [Nat.testBit_and, bit_pow, Nat.zero_testBit]
    by_cases e : t = j
    · subst e; rw [h]; rfl
    · simp [e]
theorem nI_hit {a t : Nat} (ha : a < 65536) : nI a &&& nI (2 ^ t) = 0 ↔ a.testBit t = false := by
  rw [nI_and, show (0 : Int32) = nI 0 from rfl, nI_eq (Nat.lt_of_le_of_lt Nat.and_le_left (by omega)) (by decide), and_pow]
theorem sm16 : ∀ t, t < 16 → ((nI t &&& 31).toBitVec.smod 32).toNat = t := by decide +kernel
theorem s12_has {Q : Bool → Prop} {l a t : Nat} {M : Mem} (ha : a < 65536) (ht : t < 16) (h : Q (a.testBit t)) : FX12_has Q l (nI a) (nI t) M := by
  unfold FX12_has
  rw [pk_shrN (by omega) _ t (sm16 t ht), show (1 : Int32) = nI 1 from rfl, nI_and, Nat.and_one_is_mod, nI_eq (by omega) (by decide)]
  rw [Nat.testBit_eq_decide_div_mod_eq] at h
  refine ⟨fun q => ?_, fun q => ?_⟩
  · rwa [decide_eq_false q] at h
  · rwa [decide_eq_true q] at h
def tG (V : Mem) (l : Nat) : Nat := ix (V 184 (2 * l))
def tT (V : Mem) (l : Nat) : Nat := ix (V 184 (2 * l + 1))
def TH (V : Mem) (m : Nat) : Prop := V 166 37 = nI m ∧ m ≤ 16 ∧ ∀ l, l < m → V 184 (2 * l) = nI (tG V l) ∧ 0 < tG V l ∧ tG V l < 65536 ∧ V 184 (2 * l + 1) = nI (tT V l) ∧ tT V l < 16
theorem TH_of {V : Mem} (h : WFt V) : ∃ m, TH V m := by
  obtain ⟨n, h1, h2, h3⟩ := h
  refine ⟨n, h2, h1, fun l hl => ?_⟩
  obtain ⟨a, b, z1, z2, z3, z4, z5⟩ := h3 l hl
  unfold tG tT
  rw [z4, z5, ixn (by omega), ixn (by omega)]
  exact ⟨rfl, z1, z2, rfl, z3⟩
theorem s7_closure {Q : Int32 → Prop} {V M : Mem} {m s : Nat} {w : Int32} (hT : TH V m) (hc : CT 27 V M) (hs : s < 65536) (h : Q (nI (cl (tG V) (tT V) m w s))) : FX7_closure Q 27 (nI s) w M := by
  obtain ⟨em, m16, hl⟩ := hT
  have hTT : ∀ l, l < m → tT V l < 16 := fun l q => (hl l q).2.2.2.2
  have e2 : M 27 2 = nI m := hc.1.trans em
  have bnd : ∀ k, fo (fun _ x => rnd (tG V) (tT V) m w x) s k < 65536 := fun k => (fo_grow (n := k) (fun l s _ hs => rnd_ok hTT hs) hs k (Nat.le_refl k)).2
  unfold FX7_closure NX7_closure_8
  refine xlp_for (fun r a => ∃ k, k + r = 17 ∧ a.1 = nI (fo (fun _ x => rnd (tG V) (tT V) m w x) s k) ∧ a.2.2 = nI k ∧ (a.2.1 = 1 ∨ (a.2.1 = 0 ∧ fo (fun _ x => rnd (tG V) (tT V) m w x) s k = cl (tG V) (tT V) m w s))) ?_ ?_ 17 (nI s, 1, 0) ⟨0, rfl, rfl, rfl, Or.inl rfl⟩
  · rintro ⟨x, y, z⟩ B ⟨k, hk, hx, hz, hy⟩
    have hx : x = nI (fo (fun _ x => rnd (tG V) (tT V) m w x) s k) := hx
    have hz : z = nI k := hz
    subst hx hz
    have : k = 17 := by omega
    subst this
    show lbX7_closure_8 Q 27 w M (fun l3 l4 l5 => B (l3, l4, l5)) _ y (nI 17)
    unfold lbX7_closure_8
    exact ⟨fun _ => h, fun hc => absurd (by decide) hc⟩
  · rintro r ⟨x, y, z⟩ B ⟨k, hk, hx, hz, hy⟩ hB
    have hx : x = nI (fo (fun _ x => rnd (tG V) (tT V) m w x) s k) := hx
    have hz : z = nI k := hz
    subst hx hz
    show lbX7_closure_8 Q 27 w M (fun l3 l4 l5 => B (l3, l4, l5)) _ y (nI k)
    unfold lbX7_closure_8
    have bk := bnd k
    have bk1 := bnd (k + 1)
    have fixd : fo (fun _ x => rnd (tG V) (tT V) m w x) s (k + 1) = fo (fun _ x => rnd (tG V) (tT V) m w x) s k → fo (fun _ x => rnd (tG V) (tT V) m w x) s (k + 1) = cl (tG V) (tT V) m w s := by
      intro e
      have := fo_fix e (17 - k)
      rw [show k + (17 - k) = 17 by omega] at this
      rw [e]; exact this.symm
    refine ⟨fun hc => absurd hc (nI_nlt (a := 16) (by omega) (by decide)), fun _ => ⟨fun y0 => ?_, fun y1 => ?_⟩⟩
    · rcases hy with q | ⟨-, q⟩
      · have q : y = 1 := q
        rw [q] at y0; exact absurd y0 (by decide)
      · rw [q]; exact h
    · have fin : ∀ b : Int32, (b = 1 ∨ (b = 0 ∧ fo (fun _ x => rnd (tG V) (tT V) m w x) s (k + 1) = cl (tG V) (tT V) m w s)) → B (nI (fo (fun _ x => rnd (tG V) (tT V) m w x) s (k + 1)), b, nI (k + 1)) := fun b hb => hB _ ⟨k + 1, by omega, rfl, rfl, hb⟩
      have eX : fo (fun _ x => rnd (tG V) (tT V) m w x) s (k + 1) = fo (rl (tG V) (tT V) w) (fo (fun _ x => rnd (tG V) (tT V) m w x) s k) m := rfl
      rw [eX] at fin fixd bk1
      generalize fo (fun _ x => rnd (tG V) (tT V) m w x) s k = X at fin fixd bk bk1
      unfold NX7_closure_26
      refine xlp_for (fun r a => ∃ l, l + r = m ∧ a.1 = nI (fo (rl (tG V) (tT V) w) X l) ∧ a.2 = nI l) ?_ ?_ m (nI X, 0) ⟨0, by omega, rfl, rfl⟩
      · rintro ⟨x, y⟩ B2 ⟨l, hl2, hx, hy⟩
        have hx : x = nI (fo (rl (tG V) (tT V) w) X l) := hx
        have hy : y = nI l := hy
        subst hx hy
        have : l = m := by omega
        subst this
        show lbX7_closure_26 Q (fun l3 l4 l5 => B (l3, l4, l5)) 27 w (nI k) (nI X) M (fun l3 l7 => B2 (l3, l7)) _ (nI l)
        unfold lbX7_closure_26
        rw [e2, nI_eq (by omega) (by omega), nI_1]
        exact ⟨fun _ => ⟨fun q => fin 0 (Or.inr ⟨rfl, fixd q⟩), fun q => fin 1 (Or.inl rfl)⟩, fun hc => absurd (nI_le (Nat.le_refl _) (by omega)) hc⟩
      · rintro r ⟨x, y⟩ B2 ⟨l, hl2, hx, hy⟩ hB2
        have hx : x = nI (fo (rl (tG V) (tT V) w) X l) := hx
        have hy : y = nI l := hy
        subst hx hy
        show lbX7_closure_26 Q (fun l3 l4 l5 => B (l3, l4, l5)) 27 w (nI k) (nI X) M (fun l3 l7 => B2 (l3, l7)) _ (nI l)
        unfold lbX7_closure_26
        obtain ⟨g1, g2, g3, t1, t2⟩ := hl l (by omega)
        obtain ⟨c1, c2⟩ := hc.2 l (by omega) (by rw [em]; exact nI_lt (by omega) (by omega))
        rw [e2, ixn (by omega), nI_1 l, show M (27 + 1) l = nI (tG V l) from c1.trans g1, show M (27 + 2) l = nI (2 ^ tT V l) from c2.trans (by rw [t1]; exact sh1 _ t2), nand_iff g3]
        have go : ∀ x, x = rl (tG V) (tT V) w l (fo (rl (tG V) (tT V) w) X l) → B2 (nI x, nI (l + 1)) := by
          rintro x rfl
          exact hB2 _ ⟨l + 1, by omega, rfl, rfl⟩
        refine ⟨fun hc => absurd hc (nI_ge (by omega) (by omega)), fun _ => ⟨fun q => go _ (rl_w q).symm, fun q => ⟨vp_in_nI (by omega) (by decide), fun q2 => go _ (rl_n q q2).symm, fun q2 => ⟨vp_in_nI (by omega) (by decide), ?_⟩⟩⟩⟩
        rintro y rfl
        rw [nI_or]
        exact go _ (rl_y q q2).symm
theorem s12_followsBut {Q : Int32 → Prop} {V M : Mem} {m s : Nat} {w : Int32} (hT : TH V m) (hR : RV V M) (hs : s < 65536) (h : Q (nI (cl (tG V) (tT V) m w s))) : FX12_followsBut Q 166 (nI s) w M := by
  obtain ⟨em, m16, hl⟩ := hT
  have hTT : ∀ l, l < m → tT V l < 16 := fun l q => (hl l q).2.2.2.2
  have e2 : M 166 37 = nI m := (hR.n 37).trans em
  have bnd : ∀ k, fo (fun _ x => rnd (tG V) (tT V) m w x) s k < 65536 := fun k => (fo_grow (n := k) (fun l s _ hs => rnd_ok hTT hs) hs k (Nat.le_refl k)).2
  have fixd : ∀ k, k ≤ 16 → fo (fun _ x => rnd (tG V) (tT V) m w x) s (k + 1) = fo (fun _ x => rnd (tG V) (tT V) m w x) s k → fo (fun _ x => rnd (tG V) (tT V) m w x) s (k + 1) = cl (tG V) (tT V) m w s := by
    intro k hk e
    have := fo_fix e (17 - k)
    rw [show k + (17 - k) = 17 by omega] at this
    rw [e]; exact this.symm
  unfold FX12_followsBut NX12_followsBut_5
  refine xlp_for (fun r a => ∃ k, k + r = 17 ∧ a.1 = nI (fo (fun _ x => rnd (tG V) (tT V) m w x) s k) ∧ ((k = 0 ∧ a.2 = -1) ∨ ∃ j, k = j + 1 ∧ a.2 = nI (fo (fun _ x => rnd (tG V) (tT V) m w x) s j))) ?_ ?_ 17 (nI s, -1) ⟨0, rfl, rfl, Or.inl ⟨rfl, rfl⟩⟩
  · rintro ⟨x, y⟩ B ⟨k, hk, hx, hy⟩
    have hx : x = nI (fo (fun _ x => rnd (tG V) (tT V) m w x) s k) := hx
    subst hx
    have : k = 17 := by omega
    subst this
    rcases hy with ⟨q, -⟩ | ⟨j, q1, q2⟩
    · omega
    · have : j = 16 := by omega
      subst this
      have q2 : y = nI (fo (fun _ x => rnd (tG V) (tT V) m w x) s 16) := q2
      subst q2
      show lbX12_followsBut_5 Q 166 w M (fun l3 l4 => B (l3, l4)) _ _
      unfold lbX12_followsBut_5
      exact ⟨fun _ => h, fun hc => absurd (by rw [settled (fun s hs => rnd_ok hTT hs) hs]) hc⟩
  · rintro r ⟨x, y⟩ B ⟨k, hk, hx, hy⟩ hB
    have hx : x = nI (fo (fun _ x => rnd (tG V) (tT V) m w x) s k) := hx
    subst hx
    show lbX12_followsBut_5 Q 166 w M (fun l3 l4 => B (l3, l4)) _ y
    unfold lbX12_followsBut_5
    have bk := bnd k
    refine ⟨fun q => ?_, fun q => ?_⟩
    · rcases hy with ⟨z1, z2⟩ | ⟨j, z1, z2⟩
      · have z2 : y = -1 := z2
        rw [z2] at q; exact absurd q.symm (m1_ne (by omega))
      · have z3 : y = nI (fo (fun _ x => rnd (tG V) (tT V) m w x) s j) := z2
        have q3 : y = nI (fo (fun _ x => rnd (tG V) (tT V) m w x) s k) := q
        clear z2 q
        subst z1
        have bj := bnd j
        have e := (nI_eq (by omega) (by omega)).mp (z3.symm.trans q3)
        show Q (nI (fo (fun _ x => rnd (tG V) (tT V) m w x) s (j + 1)))
        rw [fixd j (by omega) e.symm]; exact h
    · have fin : B (nI (fo (fun _ x => rnd (tG V) (tT V) m w x) s (k + 1)), nI (fo (fun _ x => rnd (tG V) (tT V) m w x) s k)) := hB _ ⟨k + 1, by omega, rfl, Or.inr ⟨k, rfl, rfl⟩⟩
      have eX : fo (fun _ x => rnd (tG V) (tT V) m w x) s (k + 1) = fo (rl (tG V) (tT V) w) (fo (fun _ x => rnd (tG V) (tT V) m w x) s k) m := rfl
      rw [eX] at fin
      generalize fo (fun _ x => rnd (tG V) (tT V) m w x) s k = X at fin bk
      unfold NX12_followsBut_17
      refine xlp_for (fun r a => ∃ l, l + r = m ∧ a.1 = nI (fo (rl (tG V) (tT V) w) X l) ∧ a.2 = nI l) ?_ ?_ m (nI X, 0) ⟨0, by omega, rfl, rfl⟩
      · rintro ⟨x, y⟩ B2 ⟨l, hl2, hx, hy⟩
        have hx : x = nI (fo (rl (tG V) (tT V) w) X l) := hx
        have hy : y = nI l := hy
        subst hx hy
        have : l = m := by omega
        subst this
        show lbX12_followsBut_17 Q (fun l3 l4 => B (l3, l4)) 166 w (nI X) M (fun l3 l7 => B2 (l3, l7)) _ (nI l)
        unfold lbX12_followsBut_17
        rw [e2]
        exact ⟨fun _ => fin, fun hc => absurd (nI_le (Nat.le_refl _) (by omega)) hc⟩
      · rintro r ⟨x, y⟩ B2 ⟨l, hl2, hx, hy⟩ hB2
        have hx : x = nI (fo (rl (tG V) (tT V) w) X l) := hx
        have hy : y = nI l := hy
        subst hx hy
        show lbX12_followsBut_17 Q (fun l3 l4 => B (l3, l4)) 166 w (nI X) M (fun l3 l7 => B2 (l3, l7)) _ (nI l)
        unfold lbX12_followsBut_17
        obtain ⟨g1, g2, g3, t1, t2⟩ := hl l (by omega)
        rw [e2, ix2k (by omega), ix2k1 (by omega), nI_1, show M (166 + 18) (2 * l) = nI (tG V l) from (hR 184 _ (by decide) (by decide) (by decide)).trans g1, show M (166 + 18) (2 * l + 1) = nI (tT V l) from (hR 184 _ (by decide) (by decide) (by decide)).trans t1, sh1 _ t2, nand_iff g3]
        have go : ∀ x, x = rl (tG V) (tT V) w l (fo (rl (tG V) (tT V) w) X l) → B2 (nI x, nI (l + 1)) := by
          rintro x rfl
          exact hB2 _ ⟨l + 1, by omega, rfl, rfl⟩
        refine ⟨fun hc => absurd hc (nI_ge (by omega) (by omega)), fun _ => ⟨fun q => go _ (rl_w q).symm, fun q => ⟨vp2k (by omega) (by decide), fun q2 => go _ (rl_n q q2).symm, fun q2 => ⟨vp2k1 (by omega) (by decide), ?_⟩⟩⟩⟩
        rintro y rfl
        rw [nI_or]
        exact go _ (rl_y q q2).symm
theorem CT_now {M : Mem} (hI : Inv M) : CT 27 (xu M 166 0 0) M := CT_c (fun c i h => told_ne (by simp [pT] at h; omega)) (fun _ _ _ _ => rfl) hI.2.1.2.2.2.2.1
theorem TH_now {M : Mem} (hI : Inv M) : ∃ m, TH (xu M 166 0 0) m := TH_of (WFt_c (fun c i h => told_ne (by simp [pT] at h; omega)) hI.1.2.2.2.1)
theorem q_follows : lq_follows Inv := by
  intro M a hI
  obtain ⟨m, th⟩ := TH_now hI
  have ct := CT_now hI
  have lt : a ≤ 65535 ↔ a < 65536 := by
    rw [Int32.le_iff_toInt_le, Int32.lt_iff_toInt_lt, show (65535 : Int32).toInt = 65535 from rfl, show (65536 : Int32).toInt = 65536 from rfl]; omega
  have no : ¬ (0 ≤ a ∧ a ≤ 65535) → FX12_follows (fun r2 M2 => (-1 : Int32) = r2 ∧ Inv M2) 166 a M := by
    intro hno
    unfold FX12_follows
    rintro M1 rfl
    exact s12_isIn ⟨fun _ => ⟨rfl, Inv_told hI 0⟩, fun h1 => absurd (of_decide_eq_true h1) hno⟩
  unfold FX11_follows
  refine ⟨fun h => no (fun q => absurd q.1 (Int32.not_le.mpr h)), fun h1 => ⟨fun h2 => ?_, fun h => no (fun q => h (lt.mp q.2))⟩⟩
  have hin : 0 ≤ a ∧ a ≤ 65535 := ⟨Int32.not_lt.mp h1, lt.mpr h2⟩
  obtain ⟨s, s0, s1, rfl⟩ := inNat (lo := 0) (hi := 65535) (by decide) hin.1 hin.2 (by decide)
  refine s7_closure th ct (by omega) ?_
  unfold FX12_follows
  rintro M1 rfl
  exact s12_isIn ⟨fun h => absurd hin (of_decide_eq_false h), fun _ => s12_followsBut th (RV.refl _) (by omega) ⟨rfl, Inv_told hI 0⟩⟩
