theorem Inv_forget {M M6 M12 V : Mem} {P N : Nat} (hI : Inv M) (c6 : CB 2 V M6) (f6 : ∀ c i, ¬ (2 ≤ c ∧ c ≤ 11) → c ≠ 18 → M6 c i = xu M 77 1 0 c i) (r12 : RV V M12) (l12 : LO M6 M12) (hG : ∀ c i, 166 ≤ c → c ≠ 167 → c ≠ 170 → c ≠ 171 → ¬ (c = 166 ∧ (i = 0 ∨ i = 3 ∨ i = 6 ∨ i = 7)) → V c i = M c i) (hW : WW V P N) (hp : WFp M P N) (hz : WFz V P) : Inv (xu M12 166 3 0) := by
  have l13 : LO M6 (xu M12 166 3 0) := fun c i h => by rw [xu_ne _ _ (by omega), l12 c i h]
  refine Inv_step (V := xu V 166 3 0) (P := P) (N := N) hI ⟨CW_c (fun c i q => xu_ne _ _ (by simp [pW] at q; omega)) (fun _ _ _ => rfl) c6.1, ?_⟩ (r12.up _ _ _) l13 (fun c i h1 h2 h3 h4 => ?_) (fun c i h1 h2 h3 h4 h5 h6 => ?_) ?_ ?_ hz (IP_none hI.2.2.1 (xu_same _ _ _ _) ?_ (fun k hk => ?_))
  · rcases c6.2 with ⟨q1, q2, q3⟩ | ⟨q1, q2⟩
    · exact Or.inl ⟨q1, q2, q3⟩
    · omega
  · rw [f6 c i h1 h2, xu_ne _ _ (by omega)]
  · rw [xu_ne _ _ (by omega)]; exact hG c i h1 h2 h4 h5 h6
  · obtain ⟨g, q1, q2⟩ := hW
    exact ⟨g, WFa_congr2 rfl rfl (fun i _ => xu_ne _ _ (by omega)) q1, WFb_congr2 q1.1.2.2.2.1 q1.1.2.2.2.2.1 q1.1.2.2.2.2.2 (fun i _ => xu_ne _ _ (by omega)) q2⟩
  · refine WFp_c (fun c i q => ?_) hp
    simp [pP] at q
    rw [xu_ne _ _ (by omega)]
    exact hG c i (by omega) (by omega) (by omega) (by omega) (by omega)
  · rw [l13 77 1 (by decide), f6 77 1 (by omega) (by decide), xu_same]
  · rw [l13 78 k (by decide), f6 78 k (by omega) (by decide), xu_ne _ _ (by omega)]
def gSai (N g : Nat) (a f d : Int32) (V : Mem) : Mem := xu (xu (xu (xu (xu (xu (xu (xu V 167 (7 + N) a) 167 (21 + N) d) 167 (35 + N) 0) 167 (49 + N) 0) 170 N f) 167 (93 + g) (nI N)) 167 6 (nI (g + 1))) 166 7 (nI (N + 1))
theorem gSai_r (N g : Nat) (a f d : Int32) (V : Mem) (i : Nat) : gSai N g a f d V 167 i = if i = 6 then nI (g + 1) else if i = 93 + g then nI N else if i = 49 + N then 0 else if i = 35 + N then 0 else if i = 21 + N then d else if i = 7 + N then a else V 167 i := by
  unfold gSai
  rw [xu_ne _ _ (by omega), xu_if]
  split
  · next q => rw [if_pos q.2]
  · next q =>
    rw [if_neg (by omega), xu_if]
    split
    · next q => rw [if_pos q.2]
    · next q =>
      rw [if_neg (by omega), xu_ne _ _ (by omega)]
      simp only [xu_if, true_and]
theorem WW_sai {V : Mem} {P N g : Nat} {a f d : Int32} (hN : N < 14) (hd : -99 ≤ d.toInt ∧ d.toInt ≤ 99) (h1 : WFa V P N g) (hb : WFb V P N g) : WW (gSai N g a f d V) P (N + 1) := by
  have hg : g ≤ N := by have := hb.2.2.2.2.2.2; omega
  obtain ⟨⟨a1, a2, a3, a4, a5, a6⟩, b, c1, c2, c3, c4, c5, c6, c7⟩ := h1
  have wb : WB (fun p => V 167 (73 + p)) (fun k => gSai N g a f d V 167 (93 + k)) (fun t => gSai N g a f d V 167 (49 + t)) P (N + 1) (g + 1) := by
    refine WB_saint (by omega) c3 c1 ?_ (fun k hk => ?_) ?_ (fun k hk => ?_) (WB_iff.mp hb)
    · rw [gSai_r, if_neg (by omega), if_pos rfl]
    · rw [gSai_r]; repeat rw [if_neg (by omega)]
    · rw [gSai_r, if_neg (by omega), if_neg (by omega), if_pos rfl]
    · rw [gSai_r]; repeat rw [if_neg (by omega)]
  refine ⟨g + 1, ⟨⟨a1, xu_same _ _ _ _, by rw [gSai_r, if_pos rfl], a4, by omega, by omega⟩, ?_, fun p hp => ?_, fun p hp => ?_, fun k hk => ?_, fun t ht => ?_, fun t ht => ?_, fun t ht ht2 => ?_, fun hp => ?_⟩, WB_iff.mpr (WB_congr (s := fun p => V 167 (73 + p)) (gr := fun k => gSai N g a f d V 167 (93 + k)) (dd := fun t => gSai N g a f d V 167 (49 + t)) (fun p hp => ?_) (fun _ _ => rfl) (fun _ _ => rfl) wb)⟩
  · rw [gSai_r]; repeat rw [if_neg (by omega)]
    exact b
  · rw [gSai_r]; repeat rw [if_neg (by omega)]
    obtain ⟨x, h1, h2⟩ := c1 p hp
    exact ⟨x, by omega, h2⟩
  · rw [gSai_r]; repeat rw [if_neg (by omega)]
    exact c2 p hp
  · rw [gSai_r, if_neg (by omega)]
    split
    · exact ⟨N, by omega, rfl⟩
    · repeat rw [if_neg (by omega)]
      obtain ⟨x, h1, h2⟩ := c3 k (by omega)
      exact ⟨x, by omega, h2⟩
  · rw [gSai_r]; repeat rw [if_neg (by omega)]
    split
    · exact hd
    · rw [if_neg (by omega)]; exact c4 t (by omega)
  · rw [gSai_r]; repeat rw [if_neg (by omega)]
    split
    · exact Or.inl rfl
    · repeat rw [if_neg (by omega)]
      exact c5 t ht
  · rw [gSai_r]; repeat rw [if_neg (by omega)]
    exact c6 t (by omega) ht2
  · rw [gSai_r]; repeat rw [if_neg (by omega)]
    exact c7 hp
  · show gSai N g a f d V 167 (73 + p) = V 167 (73 + p)
    rw [gSai_r]; repeat rw [if_neg (by omega)]
theorem q_saint : lq_saint Inv := by
  intro M a f d hI
  obtain ⟨P, N, wv, wpv, wm, wpm, -, -⟩ := WW_now hI
  have cb := CB_now hI
  obtain ⟨g, wa, wb⟩ := wv
  have w1 : M 166 7 = nI N := by obtain ⟨g, ha, -⟩ := wm; exact ha.1.2.1
  have h14 : N ≤ 14 := wa.1.2.2.2.2.1
  have hg : g ≤ N := by have := wb.2.2.2.2.2.2; omega
  have hg6 : xu M 166 0 0 167 6 = nI g := wa.1.2.2.1
  have hN : M 2 11 = nI N := by rw [← w1]; exact hI.2.1.1.1.2.1
  have no : (¬ ((0 ≤ a ∧ a ≤ 120) ∧ (0 ≤ f ∧ f ≤ 9) ∧ (-99 ≤ d ∧ d ≤ 99)) ∨ N = 14) → FX12_saint (fun r2 M2 => (-1 : Int32) = r2 ∧ Inv M2) 166 a f d M := by
    intro hno
    unfold FX12_saint
    rintro M1 rfl
    rw [told_ne (by decide), w1]
    refine s12_isIn ⟨fun _ => ⟨rfl, Inv_told hI 0⟩, fun h1 => s12_isIn ⟨fun _ => ⟨rfl, Inv_told hI 0⟩, fun h2 => s12_isIn ⟨fun _ => ⟨rfl, Inv_told hI 0⟩, fun h3 => ⟨fun h => ?_, fun _ => ⟨rfl, Inv_told hI 0⟩⟩⟩⟩⟩
    rcases hno with h4 | h4
    · exact absurd ⟨of_decide_eq_true h1, of_decide_eq_true h2, of_decide_eq_true h3⟩ h4
    · exact absurd (by rw [h4]; rfl) h
  have no2 : ¬ ((0 ≤ a ∧ a ≤ 120) ∧ (0 ≤ f ∧ f ≤ 9) ∧ (-99 ≤ d ∧ d ≤ 99)) → NX11_saint_35 (fun r M1 => FX12_saint (fun r2 M2 => r = r2 ∧ Inv M2) 166 a f d M1) 0 a f d M := by
    intro hno
    unfold NX11_saint_35 NX11_saint_36
    exact ⟨fun _ => no (Or.inl hno), fun h => absurd rfl h⟩
  unfold FX11_saint
  refine s11_within ⟨fun h => no2 (fun q => of_decide_eq_false h q.1), fun h1 => s11_within ⟨fun h => no2 (fun q => of_decide_eq_false h q.2.1), fun h2 => s11_within ⟨fun h => no2 (fun q => of_decide_eq_false h q.2.2), fun h3 => ?_⟩⟩⟩
  have h1 := of_decide_eq_true h1
  have h2 := of_decide_eq_true h2
  have h3 := of_decide_eq_true h3
  unfold NX11_saint_36
  rw [show M (0 + 1 + 1) 11 = nI N from hN]
  refine ⟨fun h => absurd h (by decide), fun _ => ⟨fun h4 => ?_, fun h4 => no (Or.inr ?_)⟩⟩
  · have hN14 : N < 14 := (nI_ltI (b := 14) (by omega) (by decide)).mp h4
    unfold FX3_forget
    rintro M1 rfl
    unfold FX9_addSaint
    have eN : xu M (0 + 77) 1 0 (0 + 1 + 1) 11 = nI N := by rw [xu_ne _ _ (by omega)]; exact hN
    rw [eN, ixn (by omega)]
    refine ⟨fun _ => ⟨vp_in_nI hN14 (by decide), ?_⟩, fun hc => absurd (nI_lt (b := 14) hN14 (by decide)) hc⟩
    rintro M2 rfl
    refine ⟨vp_in_nI hN14 (by decide), ?_⟩
    rintro M3 rfl
    refine ⟨vp_in_nI hN14 (by decide), ?_⟩
    rintro M4 rfl
    refine ⟨vp_in_nI hN14 (by decide), ?_⟩
    rintro M5 rfl M6 rfl
    rw [xu_ne _ _ (by omega), xu_ne _ _ (by omega), xu_ne _ _ (by omega), xu_ne _ _ (by omega), eN, nI_1]
    have cb0 : CB 2 (xu M 166 0 0) (xu M 77 1 0) := CB_fr cb (fun c i h1 h2 => xu_ne _ _ (by omega))
    have cb1 := CB_up (d := 0) (i := 11) (v := nI (N + 1)) (CB_up (d := 7) (i := N) (v := 0) (CB_up (d := 6) (i := N) (v := d) (CB_up (d := 5) (i := N) (v := f) (CB_up (d := 4) (i := N) (v := a) cb0 (by simp [wdom]; omega) (sub0 _)) (by simp [wdom]; omega) (sub0 _)) (by simp [wdom]; omega) (sub0 _)) (by simp [wdom]; omega) (sub0 _)) rfl (sub0 _)
    have e9 : xu (xu (xu (xu (xu (xu M (0 + 77) 1 0) (0 + 1 + 1 + 4) N a) (0 + 1 + 1 + 5) N f) (0 + 1 + 1 + 6) N d) (0 + 1 + 1 + 7) N 0) (0 + 1 + 1) 11 (nI (N + 1)) (0 + 1 + 1) 9 = nI g := by
      refine cb1.1.1.2.2.2.2.2.2.2.2.1.trans ?_
      show xu (xu (xu (xu (xu (xu M 166 0 0) 167 (7 + N) a) 170 N f) 167 (21 + N) d) 167 (35 + N) 0) 166 7 _ 167 6 = nI g
      rw [xu_ne _ _ (by omega), xu_ne _ _ (by omega), xu_ne _ _ (by omega), xu_ne _ _ (by omega), xu_ne _ _ (by omega)]
      exact hg6
    unfold FX9_joinGround
    rw [e9, ixn (by omega)]
    refine ⟨fun hc => absurd hc (nI_ge (b := 14) (by omega) (by decide)), fun _ => ⟨vp_in_nI (by omega) (by decide), ?_⟩⟩
    rintro M7 rfl M8 rfl
    rw [xu_ne _ _ (by omega), e9, nI_1]
    have cb2 := CB_up (d := 0) (i := 9) (v := nI (g + 1)) (CB_up (d := 8) (i := g) (v := nI N) cb1 (by simp [wdom]; omega) (sub0 _)) rfl (sub0 _)
    have eV : xu (xu (xu (xu (xu (xu (xu (xu M 166 0 0) 167 (7 + N) a) 170 N f) 167 (21 + N) d) 167 (35 + N) 0) 166 7 (nI (N + 1))) 167 (93 + g) (nI N)) 167 6 (nI (g + 1)) = gSai N g a f d (xu M 166 0 0) := by
      have z : xu M 166 0 0 167 (49 + N) = 0 := wa.2.2.2.2.2.2.2.1 N (Nat.le_refl N) hN14
      funext c i
      unfold gSai
      simp only [xu_if] at z ⊢
      grind
    have cb3 : CB 2 (gSai N g a f d (xu M 166 0 0)) (xu (xu (xu (xu (xu (xu (xu (xu M 77 1 0) 6 N a) 7 N f) 8 N d) 9 N 0) 2 11 (nI (N + 1))) 10 g (nI N)) 2 9 (nI (g + 1))) := eV ▸ cb2
    have w2 : WW (gSai N g a f d (xu M 166 0 0)) P (N + 1) := WW_sai hN14 ⟨Int32.le_iff_toInt_le.mp h3.1, Int32.le_iff_toInt_le.mp h3.2⟩ wa wb
    refine s9_climb cb3 w2 (fun M6 c6 f6 => ?_)
    have f6' : ∀ c i, ¬ (2 ≤ c ∧ c ≤ 11) → c ≠ 18 → M6 c i = xu M 77 1 0 c i := fun c i h1 h2 => by
      rw [f6 c i h1 h2]
      repeat rw [xu_ne _ _ (by omega)]
    have hR0 : RV (xu M 166 0 0) (xu M6 166 0 0) := fun c i h1 _ _ => by
      rw [xu_if, xu_if]
      split
      · rfl
      · rw [f6' c i (by omega) (by omega), xu_ne _ _ (by omega)]
    unfold FX12_saint
    rintro M7 rfl
    have e7 : xu M6 166 0 0 166 7 = nI N := (hR0.n 7).trans ((told_ne (by decide)).trans w1)
    rw [e7, ix7 (by omega)]
    refine s12_isIn ⟨fun h => absurd h1 (of_decide_eq_false h), fun _ => s12_isIn ⟨fun h => absurd h2 (of_decide_eq_false h), fun _ => s12_isIn ⟨fun h => absurd h3 (of_decide_eq_false h), fun _ => ⟨fun _ => ⟨vp7 (by omega), ?_⟩, fun h => absurd ((nI_eq (b := 14) (by omega) (by decide)).mp h) (by omega)⟩⟩⟩⟩
    rintro M8 rfl
    rw [xu_ne _ _ (by omega), e7, ix21 (by omega)]
    refine ⟨vp21 (by omega), ?_⟩
    rintro M9 rfl
    rw [xu_ne _ _ (by omega), xu_ne _ _ (by omega), e7, ix35 (by omega)]
    refine ⟨vp35 (by omega), ?_⟩
    rintro M10 rfl
    rw [xu_ne _ _ (by omega), xu_ne _ _ (by omega), xu_ne _ _ (by omega), e7, ix49 (by omega)]
    refine ⟨vp49 (by omega), ?_⟩
    rintro M11 rfl
    rw [xu_ne _ _ (by omega), xu_ne _ _ (by omega), xu_ne _ _ (by omega), xu_ne _ _ (by omega), e7, ixn (by omega)]
    refine ⟨vp_in_nI hN14 (by decide), ?_⟩
    rintro M12 rfl
    rw [xu_ne _ _ (by omega), xu_ne _ _ (by omega), xu_ne _ _ (by omega), xu_ne _ _ (by omega), xu_ne _ _ (by omega), e7]
    have r1 := ((((hR0.up 167 (7 + N) a).up 167 (21 + N) d).up 167 (35 + N) 0).up 167 (49 + N) 0).up 170 N f
    have e6 : xu (xu (xu (xu (xu (xu M6 166 0 0) 167 (7 + N) a) 167 (21 + N) d) 167 (35 + N) 0) 167 (49 + N) 0) 170 N f 167 6 = nI g := by
      rw [r1.r 6]
      rw [xu_ne _ _ (by omega), xu_ne _ _ (by omega), xu_ne _ _ (by omega), xu_ne _ _ (by omega), xu_ne _ _ (by omega)]
      exact hg6
    unfold FX12_comesBehind
    rw [show xu (xu (xu (xu (xu (xu M6 166 0 0) (166 + 1) (7 + N) a) (166 + 1) (21 + N) d) (166 + 1) (35 + N) 0) (166 + 1) (49 + N) 0) (166 + 4) N f (166 + 1) 6 = nI g from e6, ix93 (by omega)]
    refine ⟨vp93 (by omega), ?_⟩
    rintro M13 rfl M14 rfl M15 rfl
    rw [xu_ne (c := 166 + 1) (a := 166 + 1) (i := 93 + g) _ _ (by omega), show xu (xu (xu (xu (xu (xu M6 166 0 0) (166 + 1) (7 + N) a) (166 + 1) (21 + N) d) (166 + 1) (35 + N) 0) (166 + 1) (49 + N) 0) (166 + 4) N f (166 + 1) 6 = nI g from e6, nI_1]
    have e77 : xu (xu (xu (xu (xu (xu (xu (xu M6 166 0 0) (166 + 1) (7 + N) a) (166 + 1) (21 + N) d) (166 + 1) (35 + N) 0) (166 + 1) (49 + N) 0) (166 + 4) N f) (166 + 1) (93 + g) (nI N)) (166 + 1) 6 (nI (g + 1)) 166 7 = nI N := by
      rw [xu_ne _ _ (by omega), xu_ne _ _ (by omega), xu_ne _ _ (by omega), xu_ne _ _ (by omega), xu_ne _ _ (by omega), xu_ne _ _ (by omega), xu_ne _ _ (by omega)]
      exact e7
    rw [e77, nI_1]
    refine s12_allClimb (((r1.up 167 (93 + g) (nI N)).up 167 6 (nI (g + 1))).up 166 7 (nI (N + 1))) w2 (fun M12 r12 l12 => ?_)
    rintro M13 rfl
    have gf := GF_climb P (gSai N g a f d (xu M 166 0 0))
    have e13 : M12 166 7 = nI (N + 1) := (r12.n 7).trans ((gf 166 7 (by decide) (by decide)).trans (xu_same _ _ _ _))
    have w3 : WW (gClimb P (gSai N g a f d (xu M 166 0 0))) P (N + 1) := WW_climb (Nat.le_refl _) w2
    refine ⟨?_, Inv_forget hI c6 f6' r12 (fun c i h => ?_) (fun c i h1 h2 h3 h4 h5 => ?_) w3 (WFp_mono (Nat.le_refl P) (by omega) wpm) (WFz_climb w2)⟩
    · rw [xu_ne _ _ (by decide), e13]; exact (nI_s1 N).symm
    · rw [l12 c i h]
      repeat rw [xu_ne _ _ (by omega)]
    · rw [gf c i h2 h4]
      unfold gSai
      repeat rw [xu_ne _ _ (by omega)]
  · have := mt (nI_lt (a := N) (b := 14)) (fun q => h4 (q (by decide)))
    omega
