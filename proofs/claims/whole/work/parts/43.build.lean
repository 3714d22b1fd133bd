/-! build, feed, gone -/
theorem inNat {x : Int32} {lo hi : Nat} (hh : hi < 2 ^ 31) (h1 : nI lo ≤ x) (h2 : x ≤ nI hi) (hl : lo ≤ hi) : ∃ j, lo ≤ j ∧ j ≤ hi ∧ x = nI j := by
  have h0 : ¬ x < 0 := fun q => by
    have := Int32.lt_of_le_of_lt h1 q
    exact nI_pos (by omega) this
  obtain ⟨j, hj, rfl⟩ := nI_of h0
  exact ⟨j, (nI_leI (by omega) hj).mp h1, (nI_leI hj hh).mp h2, rfl⟩
/-- what is not the yard's -/
def nY (c i : Nat) : Bool := !(c == 30 || c == 31 || c == 32 || (c == 166 && (i == 0 || i == 41)) || c == 187 || c == 188)
theorem Inv_yard {M M2 : Mem} (hI : Inv M) (hs : ∀ c i, nY c i = true → M2 c i = M c i) (hy : WFy M2) (cy : CY 30 M2 M2) : Inv M2 := by
  obtain ⟨⟨-, v1, v2, v3, -⟩, ⟨-, c2, c3, c4, c5, -, -⟩, -, ⟨⟨n, t1, t2, t3, t4⟩, t5, t6⟩, -, -⟩ := id hI
  have hso : ∀ c i, so c i = false → nY c i = true := by
    intro c i h
    simp [so] at h
    simp [nY]
    have := h.1.1.1.1
    by_cases hc : c = 166
    · subst hc
      have : ¬ i = 0 := by rintro rfl; simp [sc] at this
      omega
    · omega
  refine Inv_other hI (fun c i h _ _ => hs c i (hso c i h)) (Or.inl ⟨hs 166 3 rfl, hs 77 1 rfl⟩) (fun P N g _ hp => WFp_c (fun c i h => hs c i (by simp [pP] at h; simp [nY]; omega)) hp) (WFl_c (fun c i h => hs c i (by simp [pL] at h; simp [nY]; omega)) v1) (WFs_c (fun c i h => hs c i (by simp [pS] at h; simp [nY]; omega)) v2) (WFt_c (fun c i h => hs c i (by simp [pT] at h; simp [nY]; omega)) v3) hy (CL_c (fun c i h => hs c i (by simp [pL] at h; simp [nY]; omega)) (fun c i h1 h2 => hs c i (by simp [nY]; omega)) c2) (CS_c (fun c i h => hs c i (by simp [pS] at h; simp [nY]; omega)) (fun c i h1 h2 => hs c i (by simp [nY]; omega)) c3) (CP_c (fun c i h => hs c i (by simp [pP] at h; simp [nY]; omega)) (fun c i h1 h2 => hs c i (by simp [nY]; omega)) c4) (CT_c (fun c i h => hs c i (by simp [pT] at h; simp [nY]; omega)) (fun c i h1 h2 => hs c i (by simp [nY]; omega)) c5) cy ⟨⟨n, t1, by rw [hs 0 7 rfl]; exact t2, by rw [hs 166 11 rfl]; exact t3, fun i hi => ?_⟩, by rw [hs 139 10 rfl, hs 166 31 rfl]; exact t5, by rw [hs 139 11 rfl, hs 166 32 rfl]; exact t6⟩
  rw [hs 172 i rfl, hs 165 i rfl]
  exact t4 i hi
theorem q_build : lq_build Inv := by
  intro M a1 a2 hI
  obtain ⟨n, y1, y2, y3⟩ := hI.1.2.2.2.2
  obtain ⟨z1, z2⟩ : CY 30 M M := hI.2.1.2.2.2.2.2.1
  have z1 : M 30 3 = nI n := by rw [z1]; exact y2
  have no : ¬ a1 = -1 → (¬ (1 ≤ a1 ∧ a1 ≤ 30) ∨ ¬ (1 ≤ a2 ∧ a2 ≤ 30) ∨ n = 7) → FX12_build (fun r2 M2 => (-1 : Int32) = r2 ∧ Inv M2) 166 a1 a2 M := by
    intro h0 hno
    unfold FX12_build
    rintro M1 rfl
    refine ⟨fun _ => s12_isIn ⟨fun _ => ⟨rfl, Inv_told hI 0⟩, fun h1 => s12_isIn ⟨fun _ => ⟨rfl, Inv_told hI 0⟩, fun h2 => ?_⟩⟩, fun h => absurd h h0⟩
    rw [told_ne (by decide), y2]
    refine ⟨fun h3 => ?_, fun _ => ⟨rfl, Inv_told hI 0⟩⟩
    rcases hno with h | h | h
    · exact absurd (of_decide_eq_true h1) h
    · exact absurd (of_decide_eq_true h2) h
    · exact absurd (by rw [h]; rfl) h3
  unfold FX11_build
  refine ⟨fun h0 => s11_within ⟨fun h1 => no h0 (Or.inl (of_decide_eq_false h1)), fun h1 => s11_within ⟨fun h2 => ?_, fun h2 => no h0 (Or.inr (Or.inl (of_decide_eq_false h2)))⟩⟩, fun h0 => ?_⟩
  · have h1 := of_decide_eq_true h1
    have h2 := of_decide_eq_true h2
    obtain ⟨a, ha1, ha2, rfl⟩ := inNat (lo := 1) (hi := 30) (by decide) h1.1 h1.2 (by decide)
    obtain ⟨b, hb1, hb2, rfl⟩ := inNat (lo := 1) (hi := 30) (by decide) h2.1 h2.2 (by decide)
    unfold FX10_tell
    rw [show M (0 + 1 + 29) 3 = nI n from z1]
    refine ⟨fun h3 => ?_, fun h3 => no h0 (Or.inr (Or.inr ?_))⟩
    · have hn : n < 7 := (nI_ltI (b := 7) (by omega) (by decide)).mp h3
      refine ⟨vp_in_nI hn (by decide), ?_⟩
      rintro M1 rfl
      have e1 : xu M 31 n (nI a) 30 3 = nI n := by rw [xu_ne _ _ (by omega)]; exact z1
      rw [ixn (by omega), show xu M (0 + 1 + 29 + 1) n (nI a) (0 + 1 + 29) 3 = nI n from e1]
      refine ⟨vp_in_nI hn (by decide), ?_⟩
      rintro M2 rfl M3 rfl
      rw [ixn (by omega)]
      unfold FX12_build
      rintro M4 rfl
      refine ⟨fun _ => s12_isIn ⟨fun h => absurd h1 (of_decide_eq_false h), fun _ => s12_isIn ⟨fun h => absurd h2 (of_decide_eq_false h), fun _ => ?_⟩⟩, fun h => absurd h h0⟩
      have e2 : xu (xu (xu (xu M 31 n (nI a)) 32 n (nI b)) 30 3 (xu (xu M 31 n (nI a)) 32 n (nI b) 30 3 + 1)) 166 0 0 166 41 = nI n := by simp [xu_if]; exact y2
      rw [show xu (xu (xu (xu M (0 + 1 + 29 + 1) n (nI a)) (0 + 1 + 29 + 2) n (nI b)) (0 + 1 + 29) 3 _) 166 0 0 166 41 = nI n from e2]
      refine ⟨fun _ => ⟨vp_in_nI hn (by decide), ?_⟩, fun h => absurd ((nI_eq (b := 7) (by omega) (by decide)).mp h) (by omega)⟩
      rintro M5 rfl
      rw [ixn (by omega), xu_ne _ _ (by omega), e2]
      refine ⟨vp_in_nI hn (by decide), ?_⟩
      rintro M6 rfl M7 rfl
      rw [ixn (by omega)]
      refine ⟨?_, Inv_yard hI (fun c i h => ?_) ⟨n + 1, by omega, ?_, fun l hl => ?_⟩ ⟨?_, fun l hl hl2 => ?_⟩⟩
      · simp [xu_if, z1, y2]
      · simp [nY] at h
        simp only [xu_if]
        repeat rw [if_neg (by omega)]
      · simp [xu_if, y2]; exact nI_1 n
      · by_cases e : l = n
        · subst e
          exact ⟨a, b, ha1, ha2, hb1, hb2, by simp [xu_if], by simp [xu_if]⟩
        · obtain ⟨a', b', q1, q2, q3, q4, q5, q6⟩ := y3 l (by omega)
          exact ⟨a', b', q1, q2, q3, q4, by simp [xu_if, e]; exact q5, by simp [xu_if, e]; exact q6⟩
      · simp [xu_if, z1, y2]
      · by_cases e : l = n
        · subst e
          simp [xu_if]
        · have hl3 : l < n := by
            have e3 : nI l < nI (n + 1) := by rw [← nI_1]; simp [xu_if, y2] at hl2; exact hl2
            have := (nI_ltI (by omega) (by omega)).mp e3
            omega
          have := z2 l hl (by rw [y2]; exact nI_lt hl3 (by omega))
          simp [xu_if, e]
          exact this
    · have := mt (nI_lt (a := n) (b := 7)) (fun q => h3 (q (by decide)))
      omega
  · rintro M5 rfl
    unfold FX12_build
    rintro M4 rfl
    refine ⟨fun h => absurd h0 h, fun _ => ?_⟩
    rintro M7 rfl
    refine ⟨rfl, Inv_yard hI (fun c i h => ?_) ⟨0, by omega, ?_, fun l hl => by omega⟩ ⟨?_, fun l hl hl2 => ?_⟩⟩
    · simp [nY] at h
      simp only [xu_if]
      repeat rw [if_neg (by omega)]
    · simp [xu_if]; rfl
    · simp [xu_if]
    · simp [xu_if] at hl2
      exact absurd hl2 (nI_pos (by omega))
def shI (i : Nat) : Int32 := nI (24 - 8 * i)
def cB (x : Int32) (i : Nat) : Int32 := vp_nar .byte (((x.toUInt32 >>> ((shI i : Int32).toUInt32 &&& Int32.toUInt32 31)).toInt32).toInt8.toInt32)
def rB (x : Int32) (i : Nat) : Int32 := (x >>> (shI i &&& 31)) &&& 255
theorem toInt8_mod (z : Int32) : z.toInt8 = (nI (z.toBitVec.toNat % 256)).toInt8 := by
  apply Int8.toBitVec_inj.mp
  apply BitVec.eq_of_toNat_eq
  have e : (nI (z.toBitVec.toNat % 256)).toBitVec.toNat = z.toBitVec.toNat % 256 := pk_tn (by omega)
  simp only [Int32.toBitVec_toInt8]
  rw [BitVec.signExtend_eq_setWidth_of_le _ (by decide), BitVec.signExtend_eq_setWidth_of_le _ (by decide), BitVec.toNat_setWidth, BitVec.toNat_setWidth, e]
  omega
theorem rB_k (x s : Int32) (k : Nat) (hk : k = 0 ∨ k = 8 ∨ k = 16 ∨ k = 24) (hs : (s.toBitVec.smod 32).toNat = k) : (x >>> s) &&& 255 = nI (x.toBitVec.toNat / 2 ^ k % 256) := by
  rw [pk_and _ 8 (by decide)]
  have e := pk_shr x s k hs
  congr 1
  have e1 : (x >>> s).toBitVec.toInt = x.toBitVec.toInt >>> k := e
  rw [Int.shiftRight_eq_div_pow] at e1
  have l1 := BitVec.toInt_eq_toNat_cond (x >>> s).toBitVec
  have l2 := BitVec.toInt_eq_toNat_cond x.toBitVec
  have b1 := (x >>> s).toBitVec.isLt
  have b2 := x.toBitVec.isLt
  generalize (x >>> s).toBitVec.toNat = A at *
  generalize x.toBitVec.toNat = C at *
  rw [l1, l2] at e1
  rcases hk with rfl | rfl | rfl | rfl <;> (split at e1 <;> split at e1 <;> omega)
theorem byteAt (x : Int32) (i : Nat) (hi : i < 4) : ∃ b, b < 256 ∧ rB x i = nI b ∧ cB x i = (nI b).toInt8.toInt32 := by
  have key : ∀ k, (k = 0 ∨ k = 8 ∨ k = 16 ∨ k = 24) → ((shI i &&& 31).toBitVec.smod 32).toNat = k → (((shI i).toUInt32 &&& Int32.toUInt32 31).toBitVec % 32).toNat = k → ∃ b, b < 256 ∧ rB x i = nI b ∧ cB x i = (nI b).toInt8.toInt32 := by
    intro k hk h1 h2
    refine ⟨x.toBitVec.toNat / 2 ^ k % 256, by omega, rB_k x _ k hk h1, ?_⟩
    unfold cB
    rw [pk_vb, toInt8_mod, pk_ushr x _ k h2]
  rcases (show i = 0 ∨ i = 1 ∨ i = 2 ∨ i = 3 by omega) with rfl | rfl | rfl | rfl
  · exact key 24 (by decide) (by decide) (by decide)
  · exact key 16 (by decide) (by decide) (by decide)
  · exact key 8 (by decide) (by decide) (by decide)
  · exact key 0 (by decide) (by decide) (by decide)
def PC (M0 : Mem) (x : Nat → Int32) (n m : Nat) (M : Mem) : Prop := M 0 7 = nI (n + m) ∧ (∀ c i, ¬ (c = 0 ∧ i = 7) → ¬ (c = 165 ∧ n ≤ i ∧ i < n + m) → M c i = M0 c i) ∧ ∀ i, i < m → M 165 (n + i) = cB (x (i / 4)) (i % 4)
def PR (M0 : Mem) (x : Nat → Int32) (n m : Nat) (M : Mem) : Prop := M 166 11 = nI (n + m) ∧ (∀ c i, ¬ (c = 166 ∧ i = 11) → ¬ (c = 172 ∧ n ≤ i ∧ i < n + m) → M c i = M0 c i) ∧ ∀ i, i < m → M 172 (n + i) = rB (x (i / 4)) (i % 4)
theorem shI_step (j : Nat) (hj : j < 3) : shI j + (-8) = shI (j + 1) := by
  rcases (show j = 0 ∨ j = 1 ∨ j = 2 by omega) with rfl | rfl | rfl <;> decide
theorem s_put {Q : Mem → Prop} {M0 M : Mem} {x : Nat → Int32} {n q : Nat} (hn : n + (4 * q + 4) ≤ 400) (hm : PC M0 x n (4 * q) M) (h : ∀ M', PC M0 x n (4 * q + 4) M' → Q M') : FX11_putNumber Q 0 (x q) M := by
  unfold FX11_putNumber NX11_putNumber_3
  refine xlp_for (fun r a => ∃ j, j + r = 4 ∧ ((j < 4 ∧ a.1 = shI j) ∨ (j = 4 ∧ a.1 = -8)) ∧ PC M0 x n (4 * q + j) a.2) ?_ ?_ 4 (24, M) ⟨0, rfl, Or.inl ⟨by decide, rfl⟩, hm⟩
  · rintro ⟨z, M1⟩ B ⟨j, hj, hz, hp⟩
    have : j = 4 := by omega
    subst this
    have hz : z = -8 := by rcases hz with h | h; exact absurd h.1 (by decide); exact h.2
    subst hz
    exact ⟨fun _ => h _ hp, fun hc => absurd (show (-8 : Int32) < 0 by decide) hc⟩
  · rintro r ⟨z, M1⟩ B ⟨j, hj, hz, hp⟩ hB
    have hz : z = shI j := by rcases hz with h | h; exact h.2; omega
    subst hz
    show lbX11_putNumber_3 Q 0 (x q) (fun l2 M => B (l2, M)) (shI j) M1
    unfold lbX11_putNumber_3
    obtain ⟨p1, p2, p3⟩ := hp
    have p1 : M1 0 7 = nI (n + (4 * q + j)) := p1
    rw [p1]
    refine ⟨fun hc => absurd hc (nI_pos (by omega)), fun _ => ⟨fun hc => absurd hc (nI_ge (b := 400) (by omega) (by decide)), fun _ => ⟨vp_in_nI (by omega) (by decide), ?_⟩⟩⟩
    rintro M2 rfl M3 rfl
    rw [ixn (by omega)]
    refine hB _ ⟨j + 1, by omega, ?_, ?_, ?_, ?_⟩
    · rcases Nat.lt_or_ge j 3 with h3 | h3
      · exact Or.inl ⟨by omega, shI_step j h3⟩
      · have : j = 3 := by omega
        subst this
        exact Or.inr ⟨rfl, by show shI 3 + (-8) = -8; decide⟩
    · dsimp only
      rw [xu_same, xu_ne _ _ (by omega), p1, nI_1]
      rfl
    · intro c i h1 h2
      dsimp only
      rw [xu_ne _ _ h1, xu_ne _ _ (by omega)]
      exact p2 c i h1 (by omega)
    · intro i hi
      dsimp only
      rw [xu_ne _ _ (by omega)]
      rcases Nat.lt_or_ge i (4 * q + j) with h3 | h3
      · rw [xu_ne _ _ (by omega)]
        exact p3 i h3
      · have : i = 4 * q + j := by omega
        subst this
        rw [xu_same, show (4 * q + j) / 4 = q by omega, show (4 * q + j) % 4 = j by omega]
        rfl
theorem s_types {Q : Mem → Prop} {M0 M : Mem} {x : Nat → Int32} {n q : Nat} (hn : n + (4 * q + 4) ≤ 400) (hm : PR M0 x n (4 * q) M) (h : ∀ M', PR M0 x n (4 * q + 4) M' → Q M') : FX12_types Q 166 (x q) M := by
  unfold FX12_types NX12_types_3
  refine xlp_for (fun r a => ∃ j, j + r = 4 ∧ ((j < 4 ∧ a.1 = shI j) ∨ (j = 4 ∧ a.1 = -8)) ∧ PR M0 x n (4 * q + j) a.2) ?_ ?_ 4 (24, M) ⟨0, rfl, Or.inl ⟨by decide, rfl⟩, hm⟩
  · rintro ⟨z, M1⟩ B ⟨j, hj, hz, hp⟩
    have : j = 4 := by omega
    subst this
    have hz : z = -8 := by rcases hz with h | h; exact absurd h.1 (by decide); exact h.2
    subst hz
    exact ⟨fun _ => h _ hp, fun hc => absurd (show (-8 : Int32) < 0 by decide) hc⟩
  · rintro r ⟨z, M1⟩ B ⟨j, hj, hz, hp⟩ hB
    have hz : z = shI j := by rcases hz with h | h; exact h.2; omega
    subst hz
    show lbX12_types_3 Q 166 (x q) (fun l2 M => B (l2, M)) (shI j) M1
    unfold lbX12_types_3
    obtain ⟨p1, p2, p3⟩ := hp
    have p1 : M1 166 11 = nI (n + (4 * q + j)) := p1
    rw [p1]
    refine ⟨fun hc => absurd hc (nI_pos (by omega)), fun _ => ⟨vp_in_nI (by omega) (by decide), ?_⟩⟩
    rintro M2 rfl M3 rfl
    rw [ixn (by omega)]
    refine hB _ ⟨j + 1, by omega, ?_, ?_, ?_, ?_⟩
    · rcases Nat.lt_or_ge j 3 with h3 | h3
      · exact Or.inl ⟨by omega, shI_step j h3⟩
      · have : j = 3 := by omega
        subst this
        exact Or.inr ⟨rfl, by show shI 3 + (-8) = -8; decide⟩
    · dsimp only
      rw [xu_same, xu_ne _ _ (by omega), p1, nI_1]
      rfl
    · intro c i h1 h2
      dsimp only
      rw [xu_ne _ _ h1, xu_ne _ _ (by omega)]
      exact p2 c i h1 (by omega)
    · intro i hi
      dsimp only
      rw [xu_ne _ _ (by omega)]
      rcases Nat.lt_or_ge i (4 * q + j) with h3 | h3
      · rw [xu_ne _ _ (by omega)]
        exact p3 i h3
      · have : i = 4 * q + j := by omega
        subst this
        rw [xu_same, show (4 * q + j) / 4 = q by omega, show (4 * q + j) % 4 = j by omega]
        rfl
theorem q_feed : lq_feed Inv := by
  intro M a b c d e hI
  obtain ⟨hV, hD, hP, ⟨⟨n, t1, t2, t3, t4⟩, t5, t6⟩, hX, hi⟩ := id hI
  unfold FX11_feed
  rw [t2]
  refine ⟨fun h => ?_, fun h => ?_⟩
  · have hn : n ≤ 380 := (nI_leI (b := 380) (by omega) (by decide)).mp h
    let x : Nat → Int32 := fun q => if q = 0 then a else if q = 1 then b else if q = 2 then c else if q = 3 then d else e
    have c0 : PC M x n (4 * 0) M := ⟨t2, fun _ _ _ _ => rfl, fun i h => by omega⟩
    refine s_put (x := x) (q := 0) (by omega) c0 (fun M1 c1 => s_put (x := x) (q := 1) (by omega) c1 (fun M2 c2 => s_put (x := x) (q := 2) (by omega) c2 (fun M3 c3 => s_put (x := x) (q := 3) (by omega) c3 (fun M4 c4 => s_put (x := x) (q := 4) (by omega) c4 (fun M5 c5 => ?_)))))
    obtain ⟨p1, p2, p3⟩ := c5
    unfold FX12_feed
    rintro M6 rfl
    have e0 : xu M5 166 0 0 166 11 = nI n := by
      rw [told_ne (by decide), p2 166 11 (by omega) (by omega)]; exact t3
    rw [e0]
    refine ⟨fun _ => ?_, fun hc => absurd h hc⟩
    have r0 : PR (xu M5 166 0 0) x n (4 * 0) (xu M5 166 0 0) := ⟨e0, fun _ _ _ _ => rfl, fun i h => by omega⟩
    refine s_types (x := x) (q := 0) (by omega) r0 (fun M1 c1 => s_types (x := x) (q := 1) (by omega) c1 (fun M2 c2 => s_types (x := x) (q := 2) (by omega) c2 (fun M3 c3 => s_types (x := x) (q := 3) (by omega) c3 (fun M4 c4 => s_types (x := x) (q := 4) (by omega) c4 (fun M7 c7 => ?_)))))
    obtain ⟨r1, r2, r3⟩ := c7
    have r2' : ∀ c i, ¬ (c = 166 ∧ i = 11) → ¬ (c = 166 ∧ i = 0) → ¬ (c = 172 ∧ n ≤ i ∧ i < n + (4 * 4 + 4)) → M7 c i = M5 c i := fun c i h1 h2 h3 => by
      rw [r2 c i h1 h3, xu_ne _ _ h2]
    refine ⟨?_, Inv_tape hI (fun c i h1 h2 => ?_) ⟨⟨n + 20, by omega, ?_, r1, fun i hi => ?_⟩, ?_, ?_⟩⟩
    · rw [r1, ← p1]
    · simp [stp] at h2
      have : ¬ (c = 166 ∧ i = 0) := by rintro ⟨rfl, rfl⟩; simp [sc] at h1
      rw [r2' c i (by omega) this (by omega)]
      exact p2 c i (by omega) (by omega)
    · rw [r2' 0 7 (by omega) (by omega) (by omega)]; exact p1
    · rcases Nat.lt_or_ge i n with h3 | h3
      · rw [r2' 172 i (by omega) (by omega) (by omega) |>.trans (p2 172 i (by omega) (by omega)), (r2' 165 i (by omega) (by omega) (by omega)).trans (p2 165 i (by omega) (by omega))]
        exact t4 i h3
      · obtain ⟨j, rfl⟩ : ∃ j, i = n + j := ⟨i - n, by omega⟩
        rw [r3 j (by omega), r2' 165 (n + j) (by omega) (by omega) (by omega), p3 j (by omega)]
        exact byteAt _ _ (by omega)
    · rw [(r2' 139 10 (by omega) (by omega) (by omega)).trans (p2 139 10 (by omega) (by omega)), (r2' 166 31 (by omega) (by omega) (by omega)).trans (p2 166 31 (by omega) (by omega))]; exact t5
    · rw [(r2' 139 11 (by omega) (by omega) (by omega)).trans (p2 139 11 (by omega) (by omega)), (r2' 166 32 (by omega) (by omega) (by omega)).trans (p2 166 32 (by omega) (by omega))]; exact t6
  · unfold FX12_feed
    rintro M1 rfl
    rw [told_ne (by decide), t3]
    exact ⟨fun hc => absurd hc h, fun _ => ⟨rfl, Inv_told hI 0⟩⟩
