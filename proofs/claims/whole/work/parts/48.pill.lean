/-! pillar, saint, set -/
def GF (V V2 : Mem) : Prop := ∀ c i, c ≠ 167 → c ≠ 171 → V2 c i = V c i
theorem GF.refl (V : Mem) : GF V V := fun _ _ _ _ => rfl
theorem GF.trans {V V2 V3 : Mem} (h : GF V V2) (h2 : GF V2 V3) : GF V V3 := fun c i h3 h4 => (h2 c i h3 h4).trans (h c i h3 h4)
theorem GF.up {V V2 : Mem} (h : GF V V2) (i : Nat) (v : Int32) : GF V (xu V2 167 i v) := fun c j h3 h4 => by rw [xu_ne _ _ (by omega)]; exact h c j h3 h4
theorem GF_note (a b c : Int32) (V : Mem) : GF V (gNote a b c V) := fun d i h1 h2 => gNote_at a b c V h2 (by omega)
theorem GF_lvR : ∀ (r k : Nat) (V : Mem), GF V (lvR r k V) := fun r k V c i h1 h2 => by rw [lvR_at, if_neg (by omega)]
theorem GF_leave (k : Nat) (V : Mem) : GF V (gLeave k V) := (GF.refl V).up _ _ |>.trans (GF_lvR _ _ _)
theorem GF_clStep (p : Nat) (V : Mem) : GF V (clStep p V) := by
  unfold clStep
  split
  · split
    · exact (((GF.refl V).up _ _).up _ _).trans (GF_note _ _ _ _)
    · split
      · exact GF.refl V
      · exact ((GF_leave 0 V).up _ _).trans (GF_note _ _ _ _)
  · exact GF.refl V
theorem GF_climb : ∀ (p : Nat) (V : Mem), GF V (gClimb p V)
  | 0, V => GF.refl V
  | p + 1, V => (GF_clStep p V).trans (GF_climb p _)
/-- class and reference have done the same to the world that is now -/
theorem Inv_step {M M1 M2 V : Mem} {P N : Nat} (hI : Inv M) (hC : CB 2 V M1) (hR : RV V M2) (hL : LO M1 M2) (hF : ∀ c i, ¬ (2 ≤ c ∧ c ≤ 11) → c ≠ 18 → ¬ (77 ≤ c ∧ c ≤ 138) → c < 166 → M1 c i = M c i) (hG : ∀ c i, 166 ≤ c → c ≠ 167 → c ≠ 168 → c ≠ 170 → c ≠ 171 → ¬ (c = 166 ∧ (i = 0 ∨ i = 3 ∨ i = 6 ∨ i = 7)) → V c i = M c i) (hW : WW V P N) (hp : WFp V P N) (hz : WFz V P) (hP : IP M2) : Inv M2 := by
  obtain ⟨g, ha, hb⟩ := hW
  have h167 : ∀ i, wfr i = true → M2 167 i = V 167 i := fun i _ => hR.r i
  refine Inv_world hI (fun c i h1 h2 => ?_) ⟨P, N, g, WFa_congr2 (hR.n 6) (hR.n 7) h167 ha, WFb_congr2 ha.1.2.2.2.1 ha.1.2.2.2.2.1 ha.1.2.2.2.2.2 h167 hb, WFp_c (fun c i q => hR c i ?_ ?_ ?_) hp, WFz_congr2 ha.1.2.2.2.1 h167 hz⟩ (CW_c (fun c i q => hR c i ?_ ?_ ?_) (fun d i hd => hL _ _ ?_) hC.1) (fun i hi => ?_) hP
  · rcases Nat.lt_or_ge c 166 with h3 | h3
    · rw [hL c i h3]
      simp [sw] at h2
      have h18 : ¬ (c = 18) := by rintro rfl; simp [sc, dr] at h1
      exact hF c i (by omega) h18 (by omega) h3
    · have n5 : c ≠ 185 := by rintro rfl; simp [sc, vr] at h1
      have n6 : c ≠ 186 := by rintro rfl; simp [sc, vr] at h1
      rw [hR c i h3 n5 n6]
      simp [sw] at h2
      have n0 : ¬ (c = 166 ∧ i = 0) := by rintro ⟨rfl, rfl⟩; simp [sc] at h1
      exact hG c i h3 (by omega) (by omega) (by omega) (by omega) (by omega)
  · simp [pP] at q; omega
  · simp [pP] at q; omega
  · simp [pP] at q; omega
  · simp [pW] at q; omega
  · simp [pW] at q; omega
  · simp [pW] at q; omega
  · simp only [wr] at hd; grind
  · rcases hC.2 with ⟨-, -, h2⟩ | ⟨h2, -⟩
    · rw [hL 11 i (by decide), hR 171 i (by decide) (by decide) (by decide)]
      exact h2 i hi
    · omega
theorem CB_now {M : Mem} (hI : Inv M) : CB 2 (xu M 166 0 0) M := by
  refine ⟨CW_c (fun c i q => told_ne (by simp [pW] at q; omega)) (fun d i hd => rfl) hI.2.1.1, Or.inl ⟨rfl, ?_, fun i hi => ?_⟩⟩
  · rw [told_ne (by decide)]; exact hI.2.2.2.2.1.2
  · rw [told_ne (by omega)]; exact hI.2.1.2.2.2.2.2.2 i hi
theorem WW_now {M : Mem} (hI : Inv M) : ∃ P N, WW (xu M 166 0 0) P N ∧ WFp (xu M 166 0 0) P N ∧ WW M P N ∧ WFp M P N ∧ WFz M P ∧ WFz (xu M 166 0 0) P := by
  obtain ⟨P, N, g, ha, hb, hp, hz⟩ := hI.1.1
  exact ⟨P, N, ⟨g, WFa_congr2 (told_ne (by decide)) (told_ne (by decide)) (fun i _ => told_ne (by omega)) ha, WFb_congr2 ha.1.2.2.2.1 ha.1.2.2.2.2.1 ha.1.2.2.2.2.2 (fun i _ => told_ne (by omega)) hb⟩, WFp_c (fun c i q => told_ne (by simp [pP] at q; omega)) hp, ⟨g, ha, hb⟩, hp, hz, WFz_congr2 ha.1.2.2.2.1 (fun i _ => told_ne (by omega)) hz⟩
/-- the class's world does not read what is outside -/
theorem CB_fr {w : Nat} {V M M2 : Mem} (h : CB w V M) (hm : ∀ c i, w ≤ c → c ≤ w + 9 → M2 c i = M c i) : CB w V M2 := by
  refine ⟨CW_c (fun c i _ => rfl) (fun d i hd => hm _ _ (by omega) (by simp only [wr] at hd; grind)) h.1, ?_⟩
  rcases h.2 with ⟨rfl, h1, h2⟩ | h2
  · exact Or.inl ⟨rfl, h1, fun i hi => (hm 11 i (by decide) (by decide)).trans (h2 i hi)⟩
  · exact Or.inr h2
def gPil (P : Nat) (a : Int32) (V : Mem) : Mem := xu (xu (xu (xu V 167 (63 + P) a) 167 (73 + P) 0) 167 (83 + P) 0) 166 6 (nI (P + 1))
theorem gPil_r (P : Nat) (a : Int32) (V : Mem) (i : Nat) : gPil P a V 167 i = if i = 83 + P then 0 else if i = 73 + P then 0 else if i = 63 + P then a else V 167 i := by
  unfold gPil
  rw [xu_ne _ _ (by omega)]
  simp only [xu_if, true_and]
theorem WW_pil {V : Mem} {P N a : Nat} (hP : P < 10) (ha : 1 ≤ a ∧ a ≤ 99) (h : WW V P N) : WW (gPil P (nI a) V) (P + 1) N := by
  obtain ⟨g, ⟨⟨a1, a2, a3, a4, a5, a6⟩, b, c1, c2, c3, c4, c5, c6, c7⟩, hb⟩ := h
  refine ⟨g, ⟨⟨xu_same _ _ _ _, a2, by rw [gPil_r, if_neg (by omega), if_neg (by omega), if_neg (by omega)]; exact a3, by omega, a5, a6⟩, ?_, fun p hp => ?_, fun p hp => ?_, fun k hk => ?_, fun t ht => ?_, fun t ht => ?_, fun t ht ht2 => ?_, fun hp => by omega⟩, WB_iff.mpr (WB_pillar (by omega) ?_ (fun k hk => ?_) (fun k hk => by rw [gPil_r, if_neg (by omega), if_neg (by omega), if_neg (by omega)]; exact c3 k hk) (WB_congr (s := fun p => V 167 (73 + p)) (gr := fun k => V 167 (93 + k)) (dd := fun t => V 167 (49 + t)) (fun _ _ => rfl) (fun k hk => ?_) (fun t ht => ?_) (WB_iff.mp hb)))⟩
  · rw [gPil_r, if_neg (by omega), if_neg (by omega), if_neg (by omega)]; exact b
  · rw [gPil_r, if_neg (by omega)]
    split
    · exact ⟨0, by omega, rfl⟩
    · rw [if_neg (by omega)]; exact c1 p (by omega)
  · rw [gPil_r, if_neg (by omega), if_neg (by omega)]
    split
    · exact ⟨a, ha.1, ha.2, rfl⟩
    · exact c2 p (by omega)
  · rw [gPil_r, if_neg (by omega), if_neg (by omega), if_neg (by omega)]; exact c3 k hk
  · rw [gPil_r, if_neg (by omega), if_neg (by omega), if_neg (by omega)]; exact c4 t ht
  · rw [gPil_r, if_neg (by omega), if_neg (by omega), if_neg (by omega)]; exact c5 t ht
  · rw [gPil_r, if_neg (by omega), if_neg (by omega), if_neg (by omega)]; exact c6 t ht ht2
  · show gPil P (nI a) V 167 (73 + P) = 0
    rw [gPil_r, if_neg (by omega), if_pos rfl]
  · show gPil P (nI a) V 167 (73 + k) = V 167 (73 + k)
    rw [gPil_r, if_neg (by omega), if_neg (by omega), if_neg (by omega)]
  · show gPil P (nI a) V 167 (93 + k) = V 167 (93 + k)
    rw [gPil_r, if_neg (by omega), if_neg (by omega), if_neg (by omega)]
  · show gPil P (nI a) V 167 (49 + t) = V 167 (49 + t)
    rw [gPil_r, if_neg (by omega), if_neg (by omega), if_neg (by omega)]
theorem WFp_mono {V : Mem} {P N P2 N2 : Nat} (hP : P ≤ P2) (hN : N ≤ N2) (h : WFp V P N) : WFp V P2 N2 := by
  obtain ⟨n, h1, h2, h3⟩ := h
  refine ⟨n, h1, h2, fun l hl => ?_⟩
  obtain ⟨w, a, e1, e2, e3, e4, e5⟩ := h3 l hl
  exact ⟨w, a, e1, e2, e3, fun q => by have := e4 q; omega, fun q => ⟨by have := (e5 q).1; omega, (e5 q).2⟩⟩
theorem q_pillar : lq_pillar Inv := by
  intro M a1 hI
  obtain ⟨P, N, wv, wpv, wm, wpm, -, -⟩ := WW_now hI
  have cb := CB_now hI
  have w1 : M 166 6 = nI P := by obtain ⟨g, ha, -⟩ := wm; exact ha.1.1
  have h10 : P ≤ 10 := by obtain ⟨g, ha, -⟩ := wm; exact ha.1.2.2.2.1
  have hP : M 2 10 = nI P := by rw [← w1]; exact hI.2.1.1.1.1
  have no : (¬ (1 ≤ a1 ∧ a1 ≤ 99) ∨ P = 10) → FX12_pillar (fun r2 M2 => (-1 : Int32) = r2 ∧ Inv M2) 166 a1 M := by
    intro hno
    unfold FX12_pillar
    rintro M1 rfl
    rw [told_ne (by decide), w1]
    refine s12_isIn ⟨fun _ => ⟨rfl, Inv_told hI 0⟩, fun h1 => ⟨fun h => ?_, fun _ => ⟨rfl, Inv_told hI 0⟩⟩⟩
    rcases hno with h2 | h2
    · exact absurd (of_decide_eq_true h1) h2
    · exact absurd (by rw [h2]; rfl) h
  unfold FX11_pillar
  rw [show M (0 + 1 + 1) 10 = nI P from hP]
  refine ⟨fun h => no (Or.inl (fun q => absurd q.1 (Int32.not_le.mpr h))), fun h0 => ⟨fun h => no (Or.inl (fun q => absurd q.2 (Int32.not_le.mpr h))), fun h1 => ⟨fun h2 => ?_, fun h2 => no (Or.inr ?_)⟩⟩⟩
  · have hP10 : P < 10 := (nI_ltI (b := 10) (by omega) (by decide)).mp h2
    obtain ⟨a, ha1, ha2, rfl⟩ := inNat (lo := 1) (hi := 99) (by decide) (Int32.not_lt.mp h0) (Int32.not_lt.mp h1) (by decide)
    unfold FX3_forget
    rintro M1 rfl
    unfold FX9_addPillar
    have eP : xu M (0 + 77) 1 0 (0 + 1 + 1) 10 = nI P := by rw [xu_ne _ _ (by omega)]; exact hP
    rw [eP, ixn (by omega)]
    refine ⟨fun _ => ⟨vp_in_nI hP10 (by decide), ?_⟩, fun hc => absurd (nI_lt (b := 10) hP10 (by decide)) hc⟩
    rintro M2 rfl
    refine ⟨vp_in_nI hP10 (by decide), ?_⟩
    rintro M3 rfl
    refine ⟨vp_in_nI hP10 (by decide), ?_⟩
    rintro M4 rfl M5 rfl
    rw [xu_ne _ _ (by omega), xu_ne _ _ (by omega), xu_ne _ _ (by omega), eP, nI_1]
    have cb0 : CB 2 (xu M 166 0 0) (xu M 77 1 0) := CB_fr cb (fun c i h1 h2 => xu_ne _ _ (by omega))
    have cb1 : CB 2 (gPil P (nI a) (xu M 166 0 0)) (xu (xu (xu (xu (xu M 77 1 0) 3 P (nI a)) 4 P (-1)) 5 P (-100)) 2 10 (nI (P + 1))) := CB_up (d := 0) (i := 10) (CB_up (d := 3) (i := P) (CB_up (d := 2) (i := P) (CB_up (d := 1) (i := P) cb0 (by simp [wdom]; omega) (sub0 _)) (by simp [wdom]; omega) (show (0 : Int32) - 1 = -1 by decide)) (by simp [wdom]; omega) (show (0 : Int32) - 100 = -100 by decide)) rfl (sub0 _)
    have w2 := WW_pil hP10 ⟨ha1, ha2⟩ wv
    refine s9_climb cb1 w2 (fun M6 c6 f6 => ?_)
    have f6' : ∀ c i, ¬ (2 ≤ c ∧ c ≤ 11) → c ≠ 18 → M6 c i = xu M 77 1 0 c i := fun c i h1 h2 => by
      rw [f6 c i h1 h2, xu_ne _ _ (by omega), xu_ne _ _ (by omega), xu_ne _ _ (by omega), xu_ne _ _ (by omega)]
    have hR0 : RV (xu M 166 0 0) (xu M6 166 0 0) := fun c i h1 _ _ => by
      rw [xu_if, xu_if]
      split
      · rfl
      · rw [f6' c i (by omega) (by omega), xu_ne _ _ (by omega)]
    unfold FX12_pillar
    rintro M7 rfl
    have e7 : xu M6 166 0 0 166 6 = nI P := (hR0.n 6).trans ((told_ne (by decide)).trans w1)
    rw [e7, ix63 (by omega)]
    refine s12_isIn ⟨fun h => absurd (of_decide_eq_false h) (fun q => q ⟨nI_le (a := 1) ha1 (by omega), nI_le (b := 99) ha2 (by decide)⟩), fun _ => ⟨fun _ => ⟨vp63 (by omega), ?_⟩, fun h => absurd ((nI_eq (b := 10) (by omega) (by decide)).mp h) (by omega)⟩⟩
    rintro M8 rfl
    rw [xu_ne _ _ (by omega), e7, ix73 (by omega)]
    refine ⟨vp73 (by omega), ?_⟩
    rintro M9 rfl
    rw [xu_ne _ _ (by omega), xu_ne _ _ (by omega), e7, ix83 (by omega)]
    refine ⟨vp83 (by omega), ?_⟩
    rintro M10 rfl M11 rfl
    rw [xu_ne _ _ (by omega), xu_ne _ _ (by omega), xu_ne _ _ (by omega), e7, nI_1]
    refine s12_allClimb ((((hR0.up _ _ _).up _ _ _).up _ _ _).up _ _ _) w2 (fun M12 r12 l12 => ?_)
    rintro M13 rfl
    have gf := GF_climb (P + 1) (gPil P (nI a) (xu M 166 0 0))
    have e13 : M12 166 6 = nI (P + 1) := (r12.n 6).trans ((gf 166 6 (by decide) (by decide)).trans (xu_same _ _ _ _))
    have w3 : WW (gClimb (P + 1) (gPil P (nI a) (xu M 166 0 0))) (P + 1) N := WW_climb (Nat.le_refl _) w2
    have l13 : LO M6 (xu M12 166 3 0) := fun c i h => by
      rw [xu_ne _ _ (by omega), l12 c i h, xu_ne _ _ (by omega), xu_ne _ _ (by omega), xu_ne _ _ (by omega), xu_ne _ _ (by omega), xu_ne _ _ (by omega)]
    refine ⟨?_, Inv_step (V := xu (gClimb (P + 1) (gPil P (nI a) (xu M 166 0 0))) 166 3 0) (P := P + 1) (N := N) hI ⟨CW_c (fun c i q => xu_ne _ _ (by simp [pW] at q; omega)) (fun _ _ _ => rfl) c6.1, ?_⟩ (r12.up _ _ _) l13 (fun c i h1 h2 h3 h4 => ?_) (fun c i h1 h2 h3 h4 h5 h6 => ?_) ?_ ?_ (WFz_climb w2) (IP_none hI.2.2.1 (xu_same _ _ _ _) ?_ (fun k hk => ?_))⟩
    · rw [xu_ne _ _ (by decide), e13]; exact (nI_s1 P).symm
    · rcases c6.2 with ⟨q1, q2, q3⟩ | ⟨q1, q2⟩
      · exact Or.inl ⟨q1, q2, q3⟩
      · omega
    · rw [f6' c i h1 h2, xu_ne _ _ (by omega)]
    · rw [xu_ne _ _ (by omega), gf c i h2 h5]
      unfold gPil
      rw [xu_ne _ _ (by omega), xu_ne _ _ (by omega), xu_ne _ _ (by omega), xu_ne _ _ (by omega), xu_ne _ _ (by omega)]
    · obtain ⟨g, q1, q2⟩ := w3
      exact ⟨g, WFa_congr2 rfl rfl (fun i _ => xu_ne _ _ (by omega)) q1, WFb_congr2 q1.1.2.2.2.1 q1.1.2.2.2.2.1 q1.1.2.2.2.2.2 (fun i _ => xu_ne _ _ (by omega)) q2⟩
    · refine WFp_c (fun c i q => ?_) (WFp_mono (P := P) (by omega) (Nat.le_refl N) wpm)
      simp [pP] at q
      rw [xu_ne _ _ (by omega), gf c i (by omega) (by omega)]
      unfold gPil
      rw [xu_ne _ _ (by omega), xu_ne _ _ (by omega), xu_ne _ _ (by omega), xu_ne _ _ (by omega), xu_ne _ _ (by omega)]
    · rw [l13 77 1 (by decide), f6' 77 1 (by omega) (by decide), xu_same]
    · rw [l13 78 k (by decide), f6' 78 k (by omega) (by decide), xu_ne _ _ (by omega)]
  · have := mt (nI_lt (a := P) (b := 10)) (fun q => h2 (q (by decide)))
    omega
