/-! A DAY: the plan -/
theorem xlp_rel {A S : Type} {body : (A → Prop) → A → Prop} (f : Nat → S → S) (s0 : S) (n : Nat) (G : Nat → S → A → Prop) (a : A) (h0 : G 0 s0 a) (hend : ∀ a B, G n (fo f s0 n) a → body B a) (hstep : ∀ k a B, k < n → G k (fo f s0 k) a → (∀ a', G (k + 1) (f k (fo f s0 k)) a' → B a') → body B a) : xlp body a := by
  refine xlp_for (fun r a => ∃ k, k + r = n ∧ G k (fo f s0 k) a) ?_ ?_ n a ⟨0, by omega, h0⟩
  · rintro a B ⟨k, hk, hg⟩
    have : k = n := by omega
    subst this
    exact hend a B hg
  · rintro r a B ⟨k, hk, hg⟩ hB
    exact hstep k a B (by omega) hg (fun a' h => hB a' ⟨k + 1, by omega, h⟩)
def DV (V : Mem) (P N : Nat) : Prop := WW V P N ∧ LWX V ∧ WFp V P N ∧ WFs V
def DS (w : Nat) (V M : Mem) : Prop := CB w V M ∧ CL 12 V M ∧ CP 22 V M ∧ CS 19 V M
theorem CB_w {w : Nat} {V M : Mem} (h : CB w V M) : w = 2 ∨ w = 67 := by
  rcases h.2 with ⟨q, -⟩ | ⟨q, -⟩
  · exact Or.inl q
  · exact Or.inr q
theorem DS_step {w : Nat} {V V2 M M2 : Mem} (h : DS w V M) (hc : CB w V2 M2) (hg : GF V V2) (hf : FR w M M2) : DS w V2 M2 := by
  have hw := CB_w hc
  refine ⟨hc, CL_c (fun c i q => hg c i ?_ ?_) (fun c i h1 h2 => hf c i (by omega) (by omega)) h.2.1, CP_c (fun c i q => hg c i ?_ ?_) (fun c i h1 h2 => hf c i (by omega) (by omega)) h.2.2.1, CS_c (fun c i q => hg c i ?_ ?_) (fun c i h1 h2 => hf c i (by omega) (by omega)) h.2.2.2⟩
  · simp [pL] at q; omega
  · simp [pL] at q; omega
  · simp [pP] at q; omega
  · simp [pP] at q; omega
  · simp [pS] at q; omega
  · simp [pS] at q; omega
theorem LWX_c {V V2 : Mem} (h : ∀ c i, pL c i = true → V2 c i = V c i) (hl : LWX V) : LWX V2 := by
  refine ⟨WFl_c h hl.1, fun l h1 h2 i h3 h4 h5 => ?_⟩
  rw [h 174 0 rfl] at h2
  rw [h 176 l rfl] at h4
  rw [h 178 l rfl] at h5
  rw [h 179 i rfl, h 180 i rfl]
  exact hl.2 l h1 h2 i h3 h4 h5
theorem DV_step {V V2 : Mem} {P N : Nat} (h : DV V P N) (hg : GF V V2) (hw : WW V2 P N) : DV V2 P N := by
  refine ⟨hw, LWX_c (fun c i q => hg c i ?_ ?_) h.2.1, WFp_c (fun c i q => hg c i ?_ ?_) h.2.2.1, WFs_c (fun c i q => hg c i ?_ ?_) h.2.2.2⟩
  · simp [pL] at q; omega
  · simp [pL] at q; omega
  · simp [pP] at q; omega
  · simp [pP] at q; omega
  · simp [pS] at q; omega
  · simp [pS] at q; omega
theorem clStep_lo (p : Nat) (V : Mem) {i : Nat} (h2 : i ≠ 2) (h6 : i ≠ 6) (h : i < 73) : clStep p V 167 i = V 167 i := by
  unfold clStep
  split
  · cases e : nbl (fun q => V 167 (73 + q)) p with
    | some q => dsimp only; rw [gNote_r _ _ _ _ h2, xu_ne _ _ (by omega), xu_ne _ _ (by omega)]
    | none =>
      dsimp only
      split
      · rfl
      · rw [gNote_r _ _ _ _ h2, xu_ne _ _ (by omega)]
        unfold gLeave
        rw [lvR_at, if_neg (by omega), xu_ne _ _ (by omega)]
  · rfl
theorem climb_lo : ∀ (p : Nat) (V : Mem) {i : Nat}, i ≠ 2 → i ≠ 6 → i < 73 → gClimb p V 167 i = V 167 i
  | 0, _, _, _, _, _ => rfl
  | p + 1, V, i, h2, h6, h => (climb_lo p _ h2 h6 h).trans (clStep_lo p V h2 h6 h)
theorem down_lo (P g p t : Nat) (V : Mem) {i : Nat} (h2 : i ≠ 2) (h6 : i ≠ 6) (h : i < 73) : gDown P g p t V 167 i = V 167 i := by
  unfold gDown
  rw [climb_lo _ _ h2 h6 h, gNote_r _ _ _ _ h2, xu_ne _ _ (by omega), xu_ne _ _ (by omega), xu_ne _ _ (by omega)]
def gDoes (P : Nat) (w a h : Int32) (V : Mem) : Mem :=
  if w = 0 then xu V 167 3 a
  else if w = 1 then (match hgh V P with | none => V | some q => xu V 167 (83 + q) (a + 100))
  else if w = 2 then (match pof V P a with | none => V | some p => gDown P (ix (V 167 6)) p (ix a) V)
  else if w = 3 then xu V 167 (63 + ix a) h
  else if V 167 (49 + ix a) = 0 then xu V 167 (35 + ix a) 99 else V
def gDeed (P l : Nat) (V : Mem) : Mem := if V 183 (4 * l) = V 167 0 then gDoes P (V 183 (4 * l + 1)) (V 183 (4 * l + 2)) (V 183 (4 * l + 3)) V else V
theorem gDoes_day {P : Nat} {w a h : Int32} {V : Mem} : gDoes P w a h V 167 0 = V 167 0 := by
  unfold gDoes
  split
  · exact xu_ne _ _ (by omega)
  · split
    · cases hgh V P with
      | none => rfl
      | some q => exact xu_ne _ _ (by omega)
    · split
      · cases pof V P a with
        | none => rfl
        | some p => exact down_lo _ _ _ _ _ (by decide) (by decide) (by decide)
      · split
        · exact xu_ne _ _ (by omega)
        · split
          · exact xu_ne _ _ (by omega)
          · rfl
theorem gDeed_no {P l : Nat} {V : Mem} (h : V 183 (4 * l) ≠ V 167 0) : gDeed P l V = V := by
  unfold gDeed; rw [if_neg h]
theorem gDeed_day {P l : Nat} {V : Mem} : gDeed P l V 167 0 = V 167 0 := by
  unfold gDeed
  split
  · exact gDoes_day
  · rfl
theorem gDoes_GF {P : Nat} {w a h : Int32} {V : Mem} : GF V (gDoes P w a h V) := by
  unfold gDoes
  split
  · exact (GF.refl V).up _ _
  · split
    · split
      · exact GF.refl V
      · exact (GF.refl V).up _ _
    · split
      · split
        · exact GF.refl V
        · exact GF_down _ _ _ _ _
      · split
        · exact (GF.refl V).up _ _
        · split
          · exact (GF.refl V).up _ _
          · exact GF.refl V
theorem gDeed_GF {P l : Nat} {V : Mem} : GF V (gDeed P l V) := by
  unfold gDeed
  split
  · exact gDoes_GF
  · exact GF.refl V
/-- a line of the plan: its numbers -/
theorem plan_line {V : Mem} {P N n l : Nat} (hp : WFp V P N) (hn : V 166 35 = nI n) (h16 : n ≤ 16) (hl : l < n) : ∃ w a : Nat, w ≤ 4 ∧ V 183 (4 * l + 1) = nI w ∧ V 183 (4 * l + 2) = nI a ∧ (w = 2 ∨ w = 4 → a < N) ∧ (w = 3 → a < P ∧ ∃ h, 1 ≤ h ∧ h ≤ 99 ∧ V 183 (4 * l + 3) = nI h) := by
  obtain ⟨m, h1, h2, h3⟩ := hp
  have : m = n := (nI_eq (by omega) (by omega)).mp (h2.symm.trans hn)
  subst this
  exact h3 l hl
theorem gDeed_WW {P N n l : Nat} {V : Mem} (hd : DV V P N) (hn : V 166 35 = nI n) (h16 : n ≤ 16) (hl : l < n) : WW (gDeed P l V) P N := by
  obtain ⟨⟨g, ha, hb⟩, -, hp, -⟩ := hd
  have g14 := ha.1.2.2.2.2.2
  have h10 := ha.1.2.2.2.1
  have h14 := ha.1.2.2.2.2.1
  obtain ⟨w, a, h4, e1, e2, h24, h3⟩ := plan_line hp hn h16 hl
  unfold gDeed
  split
  · unfold gDoes
    rw [e1, e2]
    split
    · exact WW_free ⟨g, ha, hb⟩ (by omega) (by simp [wfr])
    · split
      · split
        · exact ⟨g, ha, hb⟩
        · next q hq => exact WW_adv ⟨g, ha, hb⟩ (hgh_lt hq)
      · split
        · next h2 =>
          have hw : w = 2 := (nI_eq (by omega) (by decide)).mp h2
          have haN := h24 (Or.inl hw)
          split
          · exact ⟨g, ha, hb⟩
          · next p hq =>
            rw [ha.1.2.2.1, ixn (by omega), ixn (by omega)]
            obtain ⟨p1, p2⟩ := pof_some hq
            exact (WW_down ha hb p1 haN p2).1
        · split
          · next h2 =>
            have hw : w = 3 := (nI_eq (by omega) (by decide)).mp h2
            obtain ⟨z1, h, z2, z3, z4⟩ := h3 hw
            rw [z4, ixn (by omega)]
            exact WW_tall ⟨g, ha, hb⟩ (by omega) ⟨z2, z3⟩
          · next n0 n1 n2 n3 =>
            have hw : w = 4 := by
              have c0 : w ≠ 0 := fun q => n0 (by rw [q]; rfl)
              have c1 : w ≠ 1 := fun q => n1 (by rw [q]; rfl)
              have c2 : w ≠ 2 := fun q => n2 (by rw [q]; rfl)
              have c3 : w ≠ 3 := fun q => n3 (by rw [q]; rfl)
              omega
            have haN := h24 (Or.inr hw)
            rw [ixn (by omega)]
            split
            · exact WW_free ⟨g, ha, hb⟩ (by omega) (by simp [wfr]; omega)
            · exact ⟨g, ha, hb⟩
  · exact ⟨g, ha, hb⟩
theorem s4_line {Q : Mem → Prop} {w0 : Nat} {V M : Mem} {P N n l : Nat} (hd : DV V P N) (hs : DS w0 V M) (hn : V 166 35 = nI n) (h16 : n ≤ 16) (hl : l < n) (hday : V 183 (4 * l) = V 167 0) (h : ∀ M', CB w0 (gDeed P l V) M' → FR w0 M M' → Q M') : FX4_carryOutLine Q 22 (nI l) w0 M := by
  obtain ⟨⟨g, ha, hb⟩, -, hp, -⟩ := hd
  obtain ⟨hC, -, hP, -⟩ := hs
  have g14 := ha.1.2.2.2.2.2
  have h10 := ha.1.2.2.2.1
  have h14 := ha.1.2.2.2.2.1
  obtain ⟨w, a, h4, e1, e2, h24, h3⟩ := plan_line hp hn h16 hl
  obtain ⟨m1, m2, m3, m4, m5⟩ := hP.2 l (by omega) (by rw [hn]; exact nI_lt hl (by omega))
  have vl : vp_in (nI l) 16 := vp_in_nI (by omega) (by decide)
  unfold gDeed gDoes at h
  rw [if_pos hday, e1, e2] at h
  unfold FX4_carryOutLine
  have k2 : M (22 + 2) l = nI (w + 1) := by rw [m2, e1, nI_1]
  rw [ixn (by omega), k2]
  refine ⟨fun hc => absurd hc (nI_pos (by omega)), fun _ => ⟨fun _ => ⟨vl, ?_⟩, fun hc => absurd (nI_lt (b := 16) (by omega) (by decide)) hc⟩⟩
  rcases (show w = 0 ∨ w = 1 ∨ w = 2 ∨ w = 3 ∨ w = 4 by omega) with rfl | rfl | rfl | rfl | rfl
  · refine ⟨fun _ => ⟨vl, ?_⟩, fun q => absurd q (by decide), fun q => absurd q (by decide), fun q => absurd q (by decide), fun q => absurd rfl q⟩
    rw [if_pos (by decide)] at h
    rintro M1 rfl
    rw [m3 (Or.inl e1), e2]
    exact h _ (CB_up (d := 0) (i := 13) hC rfl (sub0 _)) (FR.up (d := 0) (FR.refl w0 M) (by decide) _ _)
  · refine ⟨fun q => absurd q (by decide), fun _ => ⟨vl, ?_⟩, fun q => absurd q (by decide), fun q => absurd q (by decide), fun _ q => absurd rfl q⟩
    rw [if_neg (by decide), if_pos (by decide)] at h
    rw [m3 (Or.inr e1), e2]
    unfold FX9_say
    refine s9_highest hC.1 ha.1.1 h10 ?_
    cases hq : hgh V P with
    | none =>
      rw [hq] at h
      exact ⟨fun _ => h M hC (FR.refl w0 M), fun hc => absurd rfl hc⟩
    | some q =>
      rw [hq] at h
      have := hgh_lt hq
      refine ⟨fun hc => absurd hc (oI_ne (by omega)), fun _ => ?_⟩
      show vp_in (nI q) 10 ∧ ∀ M2 : Mem, M2 = xu M (w0 + 3) (ix (nI q)) (nI a) → Q M2
      rw [ixn (by omega)]
      refine ⟨vp_in_nI (by omega) (by decide), ?_⟩
      rintro M2 rfl
      exact h _ (CB_up (d := 3) (i := q) hC (by simp [wdom]; omega) (show nI a + 100 - 100 = nI a by grind)) (FR.up (d := 3) (FR.refl w0 M) (by decide) _ _)
  · refine ⟨fun q => absurd q (by decide), fun q => absurd q (by decide), fun _ => ⟨vl, ?_⟩, fun q => absurd q (by decide), fun _ _ q => absurd rfl q⟩
    rw [if_neg (by decide), if_neg (by decide), if_pos (by decide)] at h
    rw [m4 (Or.inl e1), e2]
    have haN := h24 (Or.inl rfl)
    cases hq : pof V P (nI a) with
    | none =>
      rw [hq] at h
      unfold FX9_goDown
      refine s9_pillarOf hC.1 ha.1.1 h10 (m1_ne (by omega)) ?_
      rw [hq]
      exact ⟨fun _ => h M hC (FR.refl w0 M), fun hc => absurd rfl hc⟩
    | some p =>
      rw [hq] at h
      simp only [ha.1.2.2.1] at h
      rw [ixn (by omega), ixn (by omega)] at h
      exact s9_goDown hC ha hb haN hq h
  · refine ⟨fun q => absurd q (by decide), fun q => absurd q (by decide), fun q => absurd q (by decide), fun _ => ⟨vl, vl, ?_⟩, fun _ _ _ q => absurd rfl q⟩
    rw [if_neg (by decide), if_neg (by decide), if_neg (by decide), if_pos (by decide)] at h
    obtain ⟨z1, x, z2, z3, z4⟩ := h3 rfl
    rw [m4 (Or.inr (Or.inl e1)), m5 e1, e2]
    rw [ixn (by omega)] at h
    unfold FX9_raise
    refine s9_isPillar (P := P) (hC.1.1.1.trans ha.1.1) (by omega) (fun _ _ _ => ⟨fun h => (by cases h), fun _ => ?_⟩) (fun q => absurd rfl (q a z1))
    rw [ixn (by omega)]
    refine ⟨vp_in_nI (by omega) (by decide), ?_⟩
    rintro M2 rfl
    exact h _ (CB_up (d := 1) (i := a) hC (by simp [wdom]; omega) (sub0 _)) (FR.up (d := 1) (FR.refl w0 M) (by decide) _ _)
  · refine ⟨fun q => absurd q (by decide), fun q => absurd q (by decide), fun q => absurd q (by decide), fun q => absurd q (by decide), fun _ _ _ _ => ⟨vl, ?_⟩⟩
    rw [if_neg (by decide), if_neg (by decide), if_neg (by decide), if_neg (by decide)] at h
    have haN := h24 (Or.inr rfl)
    rw [m4 (Or.inr (Or.inr e1)), e2]
    rw [ixn (by omega)] at h
    unfold FX9_curse
    refine s9_isSaint (P := N) (hC.1.1.2.1.trans ha.1.2.1) (by omega) (fun _ _ _ => ⟨fun h => (by cases h), fun _ => s9_isDead hC.1 ha haN (fun hd => ⟨fun _ => ?_, fun h => (by cases h)⟩) (fun hd => ⟨fun h => (by cases h), fun _ => ?_⟩)⟩) (fun q => absurd rfl (q a haN))
    · rw [if_neg (by rw [hd]; decide)] at h
      exact h M hC (FR.refl w0 M)
    · rw [if_pos hd] at h
      rw [ixn (by omega)]
      refine ⟨vp_in_nI (by omega) (by decide), ?_⟩
      rintro M2 rfl
      exact h _ (CB_up (d := 7) (i := a) hC (by simp [wdom]; omega) (sub0 _)) (FR.up (d := 7) (FR.refl w0 M) (by decide) _ _)
theorem s12_does {Q : Mem → Prop} {V M : Mem} {P N n l : Nat} (hd : DV V P N) (hR : RV V M) (hn : V 166 35 = nI n) (h16 : n ≤ 16) (hl : l < n) (hday : V 183 (4 * l) = V 167 0) (h : ∀ M', RV (gDeed P l V) M' → LO M M' → Q M') : FX12_does Q 166 (nI (4 * l)) M := by
  obtain ⟨⟨g, ha, hb⟩, -, hp, -⟩ := hd
  have g14 := ha.1.2.2.2.2.2
  have h10 := ha.1.2.2.2.1
  have h14 := ha.1.2.2.2.2.1
  obtain ⟨w, a, h4, e1, e2, h24, h3⟩ := plan_line hp hn h16 hl
  unfold gDeed gDoes at h
  rw [if_pos hday, e1, e2] at h
  have m1 : M (166 + 17) (4 * l + 1) = nI w := (hR 183 _ (by decide) (by decide) (by decide)).trans e1
  have m2 : M (166 + 17) (4 * l + 2) = nI a := (hR 183 _ (by decide) (by decide) (by decide)).trans e2
  have m3 : M (166 + 17) (4 * l + 3) = V 183 (4 * l + 3) := hR 183 _ (by decide) (by decide) (by decide)
  unfold FX12_does
  rw [show nI (4 * l) + 1 = nI (4 * l + 1) from nI_add _ 1, show nI (4 * l) + 2 = nI (4 * l + 2) from nI_add _ 2, ixn (by omega), ixn (by omega), m1, m2]
  refine ⟨vp_in_nI (by omega) (by decide), ?_⟩
  rintro y rfl
  refine ⟨vp_in_nI (by omega) (by decide), ?_⟩
  rintro y rfl
  rcases (show w = 0 ∨ w = 1 ∨ w = 2 ∨ w = 3 ∨ w = 4 by omega) with rfl | rfl | rfl | rfl | rfl
  · refine ⟨fun q => absurd rfl q, fun _ => ?_⟩
    rw [if_pos (by decide)] at h
    rintro M1 rfl
    unfold NX12_does_29 NX12_does_49 NX12_does_68 NX12_does_90
    exact ⟨fun _ => ⟨fun _ => ⟨fun _ => ⟨fun _ => h _ (hR.up _ _ _) ((LO.refl M).up (by decide) _ _), fun q => absurd q (by decide)⟩, fun q => absurd q (by decide)⟩, fun q => absurd q (by decide)⟩, fun q => absurd q (by decide)⟩
  · refine ⟨fun _ => ?_, fun q => absurd q (by decide)⟩
    rw [if_neg (by decide), if_pos (by decide)] at h
    unfold NX12_does_29 NX12_does_49 NX12_does_68 NX12_does_90
    refine ⟨fun q => absurd rfl q, fun _ => s12_highest hR ha.1.1 h10 ?_⟩
    cases hq : hgh V P with
    | none =>
      rw [hq] at h
      exact ⟨fun _ => ⟨fun _ => ⟨fun _ => ⟨fun _ => h M hR (LO.refl M), fun q => absurd q (by decide)⟩, fun q => absurd q (by decide)⟩, fun q => absurd q (by decide)⟩, fun hc => absurd rfl hc⟩
    | some q =>
      rw [hq] at h
      have := hgh_lt hq
      refine ⟨fun hc => absurd hc (oI_ne (by omega)), fun _ => ?_⟩
      unfold FX12_acts NX12_acts_25
      refine ⟨fun _ => ⟨fun h => absurd rfl h, fun _ => s12_highest hR ha.1.1 h10 ?_⟩, fun h => absurd h (by decide)⟩
      rw [hq]
      show vp_in (83 + nI q) 107 ∧ ∀ M4 : Mem, M4 = xu M (166 + 1) (ix (83 + nI q)) (nI a + 100) → _
      rw [ix83 (by omega)]
      refine ⟨vp83 (by omega), ?_⟩
      rintro M4 rfl
      unfold NX12_acts_46 NX12_acts_56
      exact ⟨fun _ => ⟨fun _ => ⟨fun _ => ⟨fun _ => ⟨fun _ => h _ (hR.up _ _ _) ((LO.refl M).up (by decide) _ _), fun q => absurd q (by decide)⟩, fun q => absurd q (by decide)⟩, fun q => absurd q (by decide)⟩, fun q => absurd q (by decide)⟩, fun q => absurd q (by decide)⟩
  · refine ⟨fun _ => ?_, fun q => absurd q (by decide)⟩
    rw [if_neg (by decide), if_neg (by decide), if_pos (by decide)] at h
    have haN := h24 (Or.inl rfl)
    unfold NX12_does_29 NX12_does_49 NX12_does_68 NX12_does_90
    refine ⟨fun _ => ⟨fun q => absurd rfl q, fun _ => s12_pillarOf hR ha.1.1 h10 ?_⟩, fun q => absurd q (by decide)⟩
    cases hq : pof V P (nI a) with
    | none =>
      rw [hq] at h
      exact ⟨fun _ => ⟨fun _ => ⟨fun _ => h M hR (LO.refl M), fun q => absurd q (by decide)⟩, fun q => absurd q (by decide)⟩, fun hc => absurd rfl hc⟩
    | some p =>
      rw [hq] at h
      simp only [ha.1.2.2.1] at h
      rw [ixn (by omega), ixn (by omega)] at h
      have := (pof_some hq).1
      refine ⟨fun hc => absurd hc (oI_ne (by omega)), fun _ => s12_isDown hR ha hb haN hq (fun M' r' l' => ⟨fun _ => ⟨fun _ => h M' r' l', fun q => absurd q (by decide)⟩, fun q => absurd q (by decide)⟩)⟩
  · refine ⟨fun _ => ?_, fun q => absurd q (by decide)⟩
    rw [if_neg (by decide), if_neg (by decide), if_neg (by decide), if_pos (by decide)] at h
    obtain ⟨z1, x, z2, z3, z4⟩ := h3 rfl
    rw [ixn (by omega)] at h
    unfold NX12_does_29 NX12_does_49 NX12_does_68 NX12_does_90
    refine ⟨fun _ => ⟨fun _ => ⟨fun q => absurd rfl q, fun _ => ?_⟩, fun q => absurd q (by decide)⟩, fun q => absurd q (by decide)⟩
    rw [show nI (4 * l) + 3 = nI (4 * l + 3) from nI_add _ 3, ixn (by omega), ix63 (by omega), m3]
    refine ⟨vp_in_nI (by omega) (by decide), vp63 (by omega), ?_⟩
    rintro M4 rfl
    exact ⟨fun _ => h _ (hR.up _ _ _) ((LO.refl M).up (by decide) _ _), fun q => absurd q (by decide)⟩
  · refine ⟨fun _ => ?_, fun q => absurd q (by decide)⟩
    rw [if_neg (by decide), if_neg (by decide), if_neg (by decide), if_neg (by decide)] at h
    have haN := h24 (Or.inr rfl)
    rw [ixn (by omega)] at h
    unfold NX12_does_29 NX12_does_49 NX12_does_68 NX12_does_90
    refine ⟨fun _ => ⟨fun _ => ⟨fun _ => ⟨fun q => absurd rfl q, fun _ => ?_⟩, fun q => absurd q (by decide)⟩, fun q => absurd q (by decide)⟩, fun q => absurd q (by decide)⟩
    rw [ix49 (by omega), ix35 (by omega), show M (166 + 1) (49 + a) = V 167 (49 + a) from hR.r _]
    refine ⟨vp49 (by omega), fun hc => ?_, fun hc => ⟨vp35 (by omega), ?_⟩⟩
    · rw [if_neg hc] at h; exact h M hR (LO.refl M)
    · rintro M4 rfl
      rw [if_pos hc] at h
      exact h _ (hR.up _ _ _) ((LO.refl M).up (by decide) _ _)
/-- the relations that the loops of a day keep -/
def CGd (P N w : Nat) (M0 V M : Mem) : Prop := DV V P N ∧ DS w V M ∧ FR w M0 M
def RGd (P N : Nat) (M0 V M : Mem) : Prop := DV V P N ∧ RV V M ∧ LO M0 M
theorem CGd.step {P N w : Nat} {M0 V M V2 M2 : Mem} (h : CGd P N w M0 V M) (hw : WW V2 P N) (hg : GF V V2) (hc : CB w V2 M2) (hf : FR w M M2) : CGd P N w M0 V2 M2 := ⟨DV_step h.1 hg hw, DS_step h.2.1 hc hg hf, h.2.2.trans hf⟩
theorem RGd.step {P N : Nat} {M0 V M V2 M2 : Mem} (h : RGd P N M0 V M) (hw : WW V2 P N) (hg : GF V V2) (hr : RV V2 M2) (hl : LO M M2) : RGd P N M0 V2 M2 := ⟨DV_step h.1 hg hw, hr, h.2.2.trans hl⟩
theorem GF_fo {f : Nat → Mem → Mem} (hf : ∀ k V, GF V (f k V)) (V : Mem) : ∀ n, GF V (fo f V n)
  | 0 => GF.refl V
  | n + 1 => (GF_fo hf V n).trans (hf n _)
theorem deeds_day (P : Nat) (V : Mem) : ∀ n, fo (gDeed P) V n 167 0 = V 167 0
  | 0 => rfl
  | n + 1 => gDeed_day.trans (deeds_day P V n)
theorem s4_carry {Q : Mem → Prop} {w : Nat} {M0 V M : Mem} {P N n : Nat} (hg : CGd P N w M0 V M) (hn : V 166 35 = nI n) (h16 : n ≤ 16) (h : ∀ M', CGd P N w M0 (fo (gDeed P) V n) M' → Q M') : FX4_carryOut Q 22 w M := by
  unfold FX4_carryOut NX4_carryOut_7
  have ed : M w 15 = V 167 0 := hg.2.1.1.1.1.2.2.1
  rw [ed]
  refine xlp_rel (gDeed P) V n (fun k U a => a.1 = nI k ∧ CGd P N w M0 U a.2) (0, M) ⟨rfl, hg⟩ ?_ ?_
  · rintro ⟨x, M1⟩ B ⟨hx, g1⟩
    have hx : x = nI n := hx
    subst hx
    have g1 : CGd P N w M0 (fo (gDeed P) V n) M1 := g1
    show lbX4_carryOut_7 Q 22 w (V 167 0) (fun l3 M => B (l3, M)) (nI n) M1
    unfold lbX4_carryOut_7
    have e35 : fo (gDeed P) V n 166 35 = nI n := (GF_fo (fun k U => gDeed_GF) V n 166 35 (by decide) (by decide)).trans hn
    rw [show M1 22 4 = nI n from g1.2.1.2.2.1.1.trans e35]
    exact ⟨fun _ => h M1 g1, fun hc => absurd (nI_le (Nat.le_refl _) (by omega)) hc⟩
  · rintro k ⟨x, M1⟩ B hk ⟨hx, g1⟩ hB
    have hx : x = nI k := hx
    subst hx
    have g1 : CGd P N w M0 (fo (gDeed P) V k) M1 := g1
    show lbX4_carryOut_7 Q 22 w (V 167 0) (fun l3 M => B (l3, M)) (nI k) M1
    have e35 : fo (gDeed P) V k 166 35 = nI n := (GF_fo (fun k U => gDeed_GF) V k 166 35 (by decide) (by decide)).trans hn
    have e0 := deeds_day P V k
    unfold lbX4_carryOut_7
    rw [show M1 22 4 = nI n from g1.2.1.2.2.1.1.trans e35, ixn (by omega), nI_1, show M1 (22 + 1) k = fo (gDeed P) V k 183 (4 * k) from (g1.2.1.2.2.1.2 k (by omega) (by rw [e35]; exact nI_lt hk (by omega))).1]
    refine ⟨fun hc => absurd hc (nI_ge (by omega) (by omega)), fun _ => ⟨vp_in_nI (by omega) (by decide), fun hc => ?_, fun hc => ?_⟩⟩
    · have : gDeed P k (fo (gDeed P) V k) = fo (gDeed P) V k := gDeed_no (by rw [e0]; exact hc)
      exact hB (nI (k + 1), M1) ⟨rfl, by rw [this]; exact g1⟩
    · exact s4_line g1.1 g1.2.1 e35 h16 hk (by rw [e0]; exact hc) (fun M' c' f' => hB (nI (k + 1), M') ⟨rfl, g1.step (gDeed_WW g1.1 e35 h16 hk) gDeed_GF c' f'⟩)
