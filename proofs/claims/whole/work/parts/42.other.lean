/-! a step on one of the texts or on the yard: the rest as it was -/
def pL (c i : Nat) : Bool := decide (174 ≤ c) && decide (c ≤ 180)
def pS (c i : Nat) : Bool := (c == 166 && i == 33) || c == 182
def pP (c i : Nat) : Bool := (c == 166 && i == 35) || c == 183
def pT (c i : Nat) : Bool := (c == 166 && i == 37) || c == 184
def pY (c i : Nat) : Bool := (c == 166 && i == 41) || c == 187 || c == 188
def mixV (p : Nat → Nat → Bool) (V V2 : Mem) : Mem := fun c i => if p c i = true then V2 c i else V c i
theorem mixV_VL {p : Nat → Nat → Bool} {V V2 : Mem} (h : ∀ c i, p c i = true → V2 c i = V c i) : VL V (mixV p V V2) := fun c i _ => by
  unfold mixV
  split
  · exact h c i (by assumption)
  · rfl
theorem WFl_c {V V2 : Mem} (h : ∀ c i, pL c i = true → V2 c i = V c i) (hw : WFl V) : WFl V2 := WFl_congr (V2 := mixV pL V V2) (mixV_VL h) hw
theorem WFs_c {V V2 : Mem} (h : ∀ c i, pS c i = true → V2 c i = V c i) (hw : WFs V) : WFs V2 := by
  obtain ⟨n, h1, h2⟩ := hw
  exact ⟨n, h1, by rw [h 166 33 rfl]; exact h2⟩
theorem WFp_c {V V2 : Mem} {P N : Nat} (h : ∀ c i, pP c i = true → V2 c i = V c i) (hw : WFp V P N) : WFp V2 P N := WFp_congr (V2 := mixV pP V V2) (mixV_VL h) hw
theorem WFt_c {V V2 : Mem} (h : ∀ c i, pT c i = true → V2 c i = V c i) (hw : WFt V) : WFt V2 := WFt_congr (V2 := mixV pT V V2) (mixV_VL h) hw
theorem WFy_c {V V2 : Mem} (h : ∀ c i, pY c i = true → V2 c i = V c i) (hw : WFy V) : WFy V2 := WFy_congr (V2 := mixV pY V V2) (mixV_VL h) hw
def mixM (lo hi : Nat) (M M2 : Mem) : Mem := fun c i => if lo ≤ c ∧ c ≤ hi then M2 c i else M c i
theorem mixM_eq {lo hi : Nat} {M M2 : Mem} (hm : ∀ c i, lo ≤ c → c ≤ hi → M2 c i = M c i) (c i : Nat) : mixM lo hi M M2 c i = M c i := by
  unfold mixM
  split
  · next q => exact hm _ _ q.1 q.2
  · rfl
theorem mixV_eq {p : Nat → Nat → Bool} {V V2 : Mem} (h : ∀ c i, p c i = true → V2 c i = V c i) (c i : Nat) : mixV p V V2 c i = V c i := by
  unfold mixV
  split
  · next q => exact h _ _ q
  · rfl
theorem CL_c {V V2 M M2 : Mem} (h : ∀ c i, pL c i = true → V2 c i = V c i) (hm : ∀ c i, 12 ≤ c → c ≤ 17 → M2 c i = M c i) (hc : CL 12 V M) : CL 12 V2 M2 := CL_congr (d := 1) (V2 := mixV pL V V2) (M2 := mixM 12 17 M M2) (mixV_VL h) (fun e i _ _ => mixM_eq hm _ _) hc
theorem CS_c {V V2 M M2 : Mem} (h : ∀ c i, pS c i = true → V2 c i = V c i) (hm : ∀ c i, 19 ≤ c → c ≤ 21 → M2 c i = M c i) (hc : CS 19 V M) : CS 19 V2 M2 := CS_congr (d := 1) (V2 := mixV pS V V2) (M2 := mixM 19 21 M M2) (mixV_VL h) (fun e i _ _ => mixM_eq hm _ _) hc
theorem CP_c {V V2 M M2 : Mem} (h : ∀ c i, pP c i = true → V2 c i = V c i) (hm : ∀ c i, 22 ≤ c → c ≤ 26 → M2 c i = M c i) (hc : CP 22 V M) : CP 22 V2 M2 := CP_congr (d := 1) (V2 := mixV pP V V2) (M2 := mixM 22 26 M M2) (mixV_VL h) (fun e i _ _ => mixM_eq hm _ _) hc
theorem CT_c {V V2 M M2 : Mem} (h : ∀ c i, pT c i = true → V2 c i = V c i) (hm : ∀ c i, 27 ≤ c → c ≤ 29 → M2 c i = M c i) (hc : CT 27 V M) : CT 27 V2 M2 := CT_congr (d := 1) (V2 := mixV pT V V2) (M2 := mixM 27 29 M M2) (mixV_VL h) (fun e i _ _ => mixM_eq hm _ _) hc
theorem CY_c {V V2 M M2 : Mem} (h : ∀ c i, pY c i = true → V2 c i = V c i) (hm : ∀ c i, 30 ≤ c → c ≤ 32 → M2 c i = M c i) (hc : CY 30 V M) : CY 30 V2 M2 := CY_congr (d := 1) (V2 := mixV pY V V2) (M2 := mixM 30 32 M M2) (mixV_VL h) (fun e i _ _ => mixM_eq hm _ _) hc
def pW (c i : Nat) : Bool := (c == 166 && (i == 6 || i == 7)) || c == 167 || c == 170
theorem CW_c {w : Nat} {V V2 M M2 : Mem} (h : ∀ c i, pW c i = true → V2 c i = V c i) (hm : ∀ d i, wr d i = true → M2 (w + d) i = M (w + d) i) (hc : CW w V M) : CW w V2 M2 := CW_congr (V2 := mixV pW V V2) (fun c i _ => mixV_eq h c i) hm hc
theorem WFw_c {V V2 : Mem} (h : ∀ c i, pW c i = true → V2 c i = V c i) (hw : WFw V) : WFw V2 := by
  obtain ⟨P, N, g, ha, hb, hz⟩ := hw
  have hr : ∀ i, wfr i = true → V2 167 i = V 167 i := fun i _ => h 167 i (by simp [pW])
  exact ⟨P, N, g, WFa_congr2 (h 166 6 rfl) (h 166 7 rfl) hr ha, WFb_congr2 ha.1.2.2.2.1 ha.1.2.2.2.2.1 ha.1.2.2.2.2.2 hr hb, WFz_congr2 ha.1.2.2.2.1 hr hz⟩
theorem IP_c {M M2 : Mem} (hv : ∀ c i, pW c i = true → M2 c i = M c i) (e1 : M2 166 3 = M 166 3) (e2 : M2 77 1 = M 77 1) (e3 : ∀ c i, 78 ≤ c → c ≤ 138 → M2 c i = M c i) (e4 : ∀ i, M2 168 i = M 168 i) (hP : IP M) : IP M2 := by
  obtain ⟨n, h1, h2, h3, σ, h4, h5, h6⟩ := hP
  refine ⟨n, h1, by rw [e1]; exact h2, by rw [e2]; exact h3, σ, fun k hk => ⟨(h4 k hk).1, by rw [e3 78 k (by decide) (by decide)]; exact (h4 k hk).2⟩, h5, fun k hk => ?_⟩
  have hr : ∀ c i, pW c i = true → rowV k M2 c i = rowV k M c i := by
    intro c i hv2
    unfold rowV
    split
    · exact e4 _
    · exact hv c i hv2
  obtain ⟨w1, w2⟩ := h6 k hk
  refine ⟨WFw_c hr w1, CW_c hr (fun d i hd => e3 _ _ (by omega) ?_) w2⟩
  have := (h4 k (by omega)).1
  unfold wr at hd
  split at hd
  · omega
  · have := of_decide_eq_true hd
    omega
/-- the places that a text or the yard may change -/
def so (c i : Nat) : Bool := sc c i || stp c i || (decide (12 ≤ c) && decide (c ≤ 33)) || (c == 166 && (i == 33 || i == 35 || i == 37 || i == 41)) || (decide (174 ≤ c) && decide (c ≤ 190))
theorem Inv_other {M M2 : Mem} (hI : Inv M) (hs : ∀ c i, so c i = false → (c, i) ≠ (166, 3) → (c, i) ≠ (77, 1) → M2 c i = M c i) (hP3 : (M2 166 3 = M 166 3 ∧ M2 77 1 = M 77 1) ∨ (M2 166 3 = 0 ∧ M2 77 1 = 0)) (hp : ∀ P N g, WFa M P N g → WFp M P N → WFp M2 P N) (hl : WFl M2) (hsk : WFs M2) (ht : WFt M2) (hy : WFy M2) (cl : CL 12 M2 M2) (cs : CS 19 M2 M2) (cp : CP 22 M2 M2) (ct : CT 27 M2 M2) (cy : CY 30 M2 M2) (hT : IT M2) : Inv M2 := by
  obtain ⟨⟨⟨P, N, g, wa, wb, wp, wz⟩, -⟩, ⟨c1, -, -, -, -, -, c7⟩, hP, -, ⟨x1, x2⟩, hi⟩ := hI
  have e6 : ∀ i, (i = 5 ∨ i = 6 ∨ i = 7 ∨ i = 47) → M2 166 i = M 166 i := fun i h => hs 166 i (by rcases h with rfl | rfl | rfl | rfl <;> decide) (by rcases h with rfl | rfl | rfl | rfl <;> decide) (by simp)
  have e167 : ∀ i, i < 107 → M2 167 i = M 167 i := fun i h => hs 167 i (by simp [so, sc, stp, vr, h]) (by simp) (by simp)
  have e170 : ∀ i, i < 14 → M2 170 i = M 170 i := fun i h => hs 170 i (by simp [so, sc, stp, vr, h]) (by simp) (by simp)
  have e171 : ∀ i, i < 600 → M2 171 i = M 171 i := fun i h => hs 171 i (by simp [so, sc, stp, vr, h]) (by simp) (by simp)
  have ewf : ∀ i, wfr i = true → M2 167 i = M 167 i := fun i hi => e167 i (by simp [wfr] at hi; omega)
  have cwc : CW 2 M2 M2 := by
    obtain ⟨a1, a2, a3⟩ := c1
    have m0 : ∀ i, 9 ≤ i → M2 2 i = M 2 i := fun i hi => hs 2 i (by have : ¬ i < 9 := by omega
                                                                    simp [so, sc, stp, this]) (by simp) (by simp)
    have mc : ∀ c i, 3 ≤ c → c ≤ 10 → M2 c i = M c i := fun c i h1 h2 => hs c i (by
      have q1 : so c i = (sc c i || stp c i || (decide (12 ≤ c) && decide (c ≤ 33)) || (c == 166 && (i == 33 || i == 35 || i == 37 || i == 41)) || (decide (174 ≤ c) && decide (c ≤ 190))) := rfl
      have q2 : sc c i = false := by unfold sc; rw [if_neg (by omega), if_pos (by omega)]; simp; omega
      have q3 : stp c i = false := by simp [stp]; omega
      rw [q1, q2, q3]; simp; omega) (by simp; omega) (by simp; omega)
    refine ⟨?_, fun t ht => ?_, fun p hp => ?_⟩
    · obtain ⟨b1, b2, b3, b4, b5, b6, b7, b8, b9, b10⟩ := a1
      refine ⟨?_, ?_, ?_, ?_, ?_, ?_, ?_, ?_, ?_, ?_⟩
      · rw [m0 10 (by decide), e6 6 (by decide)]; exact b1
      · rw [m0 11 (by decide), e6 7 (by decide)]; exact b2
      · rw [m0 15 (by decide), e167 _ (by decide)]; exact b3
      · rw [m0 17 (by decide), e167 _ (by decide)]; exact b4
      · rw [m0 18 (by decide), e167 _ (by decide)]; exact b5
      · rw [m0 13 (by decide), e167 _ (by decide)]; exact b6
      · rw [m0 16 (by decide), e167 _ (by decide)]; exact b7
      · rw [m0 14 (by decide), e167 _ (by decide)]; exact b8
      · rw [m0 9 (by decide), e167 _ (by decide)]; exact b9
      · rw [m0 12 (by decide), dset_congr (g := fun t => M 167 (49 + t)) (fun k hk => e167 _ (by omega))]; exact b10
    · show M2 6 t = _ ∧ M2 7 t = _ ∧ M2 8 t = _ ∧ M2 9 t = _ ∧ M2 10 t = _
      rw [mc 6 t (by decide) (by decide), mc 7 t (by decide) (by decide), mc 8 t (by decide) (by decide), mc 9 t (by decide) (by decide), mc 10 t (by decide) (by decide), e167 _ (by omega), e167 (21 + t) (by omega), e167 (35 + t) (by omega), e167 (93 + t) (by omega), e170 t ht]
      exact a2 t ht
    · show M2 3 p = _ ∧ M2 4 p = _ ∧ M2 5 p = _
      rw [mc 3 p (by decide) (by decide), mc 4 p (by decide) (by decide), mc 5 p (by decide) (by decide), e167 _ (by omega), e167 (73 + p) (by omega), e167 (83 + p) (by omega)]
      exact a3 p hp
  have e11 : ∀ i, i < 600 → M2 11 i = M 11 i := fun i h => hs 11 i (by simp [so, sc, stp, dr, h]) (by simp) (by simp)
  refine ⟨⟨⟨P, N, g, WFa_congr2 (e6 6 (by decide)) (e6 7 (by decide)) ewf wa, WFb_congr2 wa.1.2.2.2.1 wa.1.2.2.2.2.1 wa.1.2.2.2.2.2 ewf wb, hp P N g wa wp, WFz_congr2 wa.1.2.2.2.1 ewf wz⟩, hl, hsk, ht, hy⟩, ⟨cwc, cl, cs, cp, ct, cy, fun i hi => by rw [show M2 (1 + 10) i = M 11 i from e11 i hi, e171 i hi]; exact c7 i hi⟩, ?_, hT, ⟨fun i hi => by rw [hs 173 i (by simp [so, sc, stp]) (by simp) (by simp)]; exact x1 i hi, by rw [e6 5 (by decide)]; exact x2⟩, II_congr2 (hs 0 8 (by decide) (by simp) (by simp)) (e6 47 (by decide)) (fun j => hs 191 j (by simp [so, sc, stp]) (by simp) (by simp)) (fun c i h1 h2 h3 => hs c i (by
      have q1 : so c i = (sc c i || stp c i || (decide (12 ≤ c) && decide (c ≤ 33)) || (c == 166 && (i == 33 || i == 35 || i == 37 || i == 41)) || (decide (174 ≤ c) && decide (c ≤ 190))) := rfl
      rw [q1, h3]; simp [stp]; omega) (by simp; omega) (by simp; omega)) hi⟩
  have e78 : ∀ c i, 78 ≤ c → c ≤ 138 → M2 c i = M c i := fun c i h1 h2 => hs c i (by
    have q1 : so c i = (sc c i || stp c i || (decide (12 ≤ c) && decide (c ≤ 33)) || (c == 166 && (i == 33 || i == 35 || i == 37 || i == 41)) || (decide (174 ≤ c) && decide (c ≤ 190))) := rfl
    rw [q1, sc_k h1 h2]; simp [stp]; omega) (by simp; omega) (by simp; omega)
  rcases hP3 with ⟨q1, q2⟩ | ⟨q1, q2⟩
  · obtain ⟨n, h1, h2, h3, σ, h4, h5, h6⟩ := hP
    refine ⟨n, h1, by rw [q1]; exact h2, by rw [q2]; exact h3, σ, fun k hk => ⟨(h4 k hk).1, by rw [e78 78 k (by decide) (by decide)]; exact (h4 k hk).2⟩, h5, fun k hk => ?_⟩
    have e168 : ∀ i, M2 168 i = M 168 i := fun i => hs 168 i (by simp [so, sc, stp]) (by simp) (by simp)
    obtain ⟨w1, w2⟩ := h6 k hk
    let W : Mem := fun c i => if c = 170 ∧ 14 ≤ i then M c i else M2 c i
    have hr : ∀ c i, pW c i = true → rowV k W c i = rowV k M c i := by
      intro c i hv2
      unfold rowV
      split
      · next q => subst q; exact e168 _
      · next q =>
        simp [pW] at hv2
        rcases hv2 with (⟨rfl, rfl | rfl⟩ | rfl) | rfl
        · exact e6 6 (by decide)
        · exact e6 7 (by decide)
        · exact absurd rfl q
        · show (if 170 = 170 ∧ 14 ≤ i then M 170 i else M2 170 i) = M 170 i
          split
          · rfl
          · next q2 => exact e170 i (by omega)
    have w3 := CW_c hr (M2 := M2) (fun d i hd => e78 _ _ (by omega) (by
      have := (h4 k (by omega)).1
      unfold wr at hd
      split at hd
      · omega
      · have := of_decide_eq_true hd
        omega)) w2
    have w4 : WFw (rowV k W) := WFw_c hr w1
    refine ⟨w4, w3.1, fun t ht => ?_, w3.2.2⟩
    have := w3.2.1 t ht
    have e : rowV k W 170 t = rowV k M2 170 t := by
      show (if 170 = 170 ∧ 14 ≤ t then M 170 t else M2 170 t) = M2 170 t
      rw [if_neg (by omega)]
    rw [e] at this
    exact this
  · exact IP_none hP q1 q2 (fun k hk => e78 78 k (by decide) (by decide))
