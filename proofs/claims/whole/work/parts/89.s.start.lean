/-! both begin to read -/
theorem s5_readS {k : Nat} {b : Nat → Nat} {n : Nat} {M : Mem} {Q : Int32 → Mem → Prop} (hk : k < 4) (hb : BT b n M) (hn : n ≤ 400) (h : ∀ M2 m, CA k b n m 0 M2 → M2 139 7 = 0 → M2 139 8 = M 2 10 → M2 139 9 = M 2 11 → M2 140 6 = 0 → M2 140 7 = 0 → M2 147 2 = 0 → M2 150 4 = 0 → M2 155 2 = 0 → M2 139 10 = 0 → M2 139 11 = -1 → cfr M M2 → NX5_read_79 Q 139 (nI k) 0 M2) : FX5_read Q 139 (nI k) 165 (nI n) 2 M := by
  unfold FX5_read FX5_forgetFault
  intro M1 e1 M11 e11
  have hx1 : ∀ c j, M11 c j = if c = 139 ∧ j = 11 then -1 else if c = 139 ∧ j = 10 then 0 else M c j := fun c j => by rw [e11, e1, xu_if, xu_if]
  have hb1 : BT b n M11 := fun i hi => by
    rw [hx1 172 i, hx1 165 i, if_neg (by omega), if_neg (by omega), if_neg (by omega), if_neg (by omega)]
    exact hb i hi
  have hw : ∀ P : Nat → Prop, P (1000 + k) → FX5_wordsOf P (nI k) M11 := fun P hP => by
    unfold FX5_wordsOf
    have : k = 0 ∨ k = 1 ∨ k = 2 ∨ k = 3 := by omega
    rcases this with rfl | rfl | rfl | rfl
    · exact ⟨fun _ => hP, fun q => absurd q (by decide), fun q => absurd q (by decide), fun q => absurd rfl q⟩
    · exact ⟨fun q => absurd q (by decide), fun _ => hP, fun q => absurd q (by decide), fun _ q => absurd rfl q⟩
    · exact ⟨fun q => absurd q (by decide), fun q => absurd q (by decide), fun _ => hP, fun _ _ q => absurd rfl q⟩
    · exact ⟨fun q => absurd q (by decide), fun q => absurd q (by decide), fun q => absurd q (by decide), fun _ _ _ => hP⟩
  refine hw _ ⟨?_, ?_⟩
  · have : k = 0 ∨ k = 1 ∨ k = 2 ∨ k = 3 := by omega
    rcases this with rfl | rfl | rfl | rfl <;> rfl
  · refine s8_cut hk hb1 hn (fun M14 m hm hpos hlt htk hct hfr => ?_)
    intro M15 e15 M16 e16 M17 e17 M18 e18
    unfold FX2_clear
    intro M19 e19 M19b e19b M20 e20 M21 e21 M22 e22
    have g14 : ∀ c i, (c < 158 ∨ 161 < c) → ¬ c = 139 → M14 c i = M c i := fun c i h1 h2 => by rw [hfr c i h1, hx1, if_neg (by omega), if_neg (by omega)]
    have p8 : M16 2 10 = M 2 10 := by rw [e16, e15, xu_cell _ _ _ (by decide), xu_cell _ _ _ (by decide)]; exact g14 2 10 (by omega) (by omega)
    have p9 : M17 2 11 = M 2 11 := by rw [e17, e16, e15, xu_cell _ _ _ (by decide), xu_cell _ _ _ (by decide), xu_cell _ _ _ (by decide)]; exact g14 2 11 (by omega) (by omega)
    rw [p8] at e17
    rw [p9] at e18
    have hx : ∀ c j, M22 c j = if c = 155 ∧ j = 2 then 0 else if c = 150 ∧ j = 4 then 0 else if c = 147 ∧ j = 2 then 0 else if c = 140 ∧ j = 6 then 0 else if c = 140 ∧ j = 7 then 0 else if c = 139 ∧ j = 9 then M 2 11 else if c = 139 ∧ j = 8 then M 2 10 else if c = 139 ∧ j = 7 then 0 else if c = 139 ∧ j = 5 then 0 else M14 c j := fun c j => by
      rw [e22, e21, e20, e19b, e19, e18, e17, e16, e15]
      simp only [xu_if]
    have ho : ∀ c j, ¬ c = 155 → ¬ c = 150 → ¬ c = 147 → ¬ c = 140 → ¬ (c = 139 ∧ (j = 5 ∨ j = 7 ∨ j = 8 ∨ j = 9)) → M22 c j = M14 c j := fun c j a1 a2 a3 a4 a5 => by
      rw [hx, if_neg (by omega), if_neg (by omega), if_neg (by omega), if_neg (by omega), if_neg (by omega), if_neg (by omega), if_neg (by omega), if_neg (by omega), if_neg (by omega)]
    have ca : CA k b n m 0 M22 := by
      refine ⟨by rw [hx]; rfl, Nat.zero_le _, (ho 158 3 (by omega) (by omega) (by omega) (by omega) (by omega)).trans hct, fun t ht => ?_, hm, hn, hpos, hk⟩
      rw [ho 159 t (by omega) (by omega) (by omega) (by omega) (by omega), ho 160 t (by omega) (by omega) (by omega) (by omega) (by omega), ho 161 t (by omega) (by omega) (by omega) (by omega) (by omega)]
      exact htk t ht
    refine h M22 m ca (by rw [hx]; rfl) (by rw [hx]; rfl) (by rw [hx]; rfl) (by rw [hx]; rfl) (by rw [hx]; rfl) (by rw [hx]; rfl) (by rw [hx]; rfl) (by rw [hx]; rfl) ?_ ?_ (fun c i hc => ?_)
    · rw [ho 139 10 (by omega) (by omega) (by omega) (by omega) (by omega), hfr 139 10 (by omega), hx1]; rfl
    · rw [ho 139 11 (by omega) (by omega) (by omega) (by omega) (by omega), hfr 139 11 (by omega), hx1]; rfl
    · rw [ho c i (by omega) (by omega) (by omega) (by omega) (by omega)]
      exact g14 c i (by omega) (by omega)
/-- what stays in the reference, but for the places p -/
def tx_z (p : Nat → Nat → Prop) (A Z : Mem) : Prop := ∀ c i, (sc c i = false ∨ c < 166) → ¬ (c = 166 ∧ (i = 11 ∨ i = 31 ∨ i = 32)) → ¬ p c i → Z c i = A c i
theorem s12_textS {k : Nat} {b : Nat → Nat} {n : Nat} {A : Mem} {Q : Int32 → Mem → Prop} (hk : k < 4) (hb : BT b n A) (hX : IX A) (hn : n ≤ 400) (h11 : A 166 11 = nI n)
    (h : ∀ (M2 : Mem) (P : Int32 → Mem → Prop), RA b n 0 M2 → M2 166 24 = 0 → M2 166 25 = 0 → M2 166 26 = 0 → M2 166 31 = 0 → M2 166 32 = -1 → (∀ c i, ¬ c = 166 → M2 c i = A c i) → (∀ i, sc 166 i = false → ¬ (i = 31 ∨ i = 32) → M2 166 i = A 166 i) →
      (∀ r M3, ¬ r = -1 → NX12_text_69 Q 166 (nI k) r M3 → P r M3) → (∀ f e M3, RErr b n f e M2 M3 → (∀ Z, tx_z (fun _ _ => False) A Z → Z 166 11 = 0 → Z 166 31 = nI f → Z 166 32 = nI (pos b n e) → Q (-1) Z) → P (-1) M3) →
      ((¬ nI k = 1 → ((¬ nI k = 2 → ((¬ nI k = 3 → FX12_readLaw P 166 M2) ∧ (nI k = 3 → FX12_readTenets P 166 M2))) ∧ (nI k = 2 → FX12_readPlan P 166 M2))) ∧ (nI k = 1 → FX12_readSky P 166 M2))) : FX12_text Q 166 (nI k) A := by
  unfold FX12_text
  intro M4 e4 M5 e5 M6 e6 M7 e7 M8 e8 M9 e9
  refine s12_isIn ⟨fun w => ?_, fun _ => ?_⟩
  · exact absurd ⟨nI_pos' (by omega), (nI_leI (b := 3) (by omega) (by omega)).mpr (by omega)⟩ (of_decide_eq_false w)
  · unfold FX12_readsText
    intro M10 e10
    have hx : ∀ c j, M10 c j = if c = 166 ∧ j = 24 then 0 else if c = 166 ∧ j = 26 then 0 else if c = 166 ∧ j = 25 then 0 else if c = 166 ∧ j = 12 then 0 else if c = 166 ∧ j = 32 then -1 else if c = 166 ∧ j = 31 then 0 else if c = 166 ∧ j = 0 then 0 else A c j := fun c j => by
      rw [e10, e9, e8, e7, e6, e5, e4]
      simp only [xu_if]
    have ho : ∀ c j, ¬ (c = 166 ∧ (j = 24 ∨ j = 26 ∨ j = 25 ∨ j = 12 ∨ j = 32 ∨ j = 31 ∨ j = 0)) → M10 c j = A c j := fun c j hc => by
      rw [hx, if_neg (by omega), if_neg (by omega), if_neg (by omega), if_neg (by omega), if_neg (by omega), if_neg (by omega), if_neg (by omega)]
    have hb1 : BT b n M10 := fun i hi => by
      rw [ho 172 i (by omega), ho 165 i (by omega)]
      exact hb i hi
    have hX1 : IX M10 := ⟨fun i hi => by rw [ho 173 i (by omega)]; exact hX.1 i hi, by rw [ho 166 5 (by omega)]; exact hX.2⟩
    have hl1 : M10 166 11 = nI n := (ho 166 11 (by omega)).trans h11
    refine s12_reads (p := 0) hb1 hX1 hn hl1 (Nat.zero_le _) (by rw [hx]; rfl) (fun M2 hrd f2 => ?_)
    have hnr : ∀ c j, ¬ (c = 166 ∧ 12 ≤ j ∧ j ≤ 15) → M2 c j = M10 c j := fun c j hc => f2 c j (fun q => hc q)
    have ra : RA b n 0 M2 := ⟨hrd, BT_rd f2 hb1, IX_rd f2 hX1, (hnr 166 11 (by omega)).trans hl1, hn⟩
    refine h M2 _ ra (by rw [hnr 166 24 (by omega), hx]; rfl) (by rw [hnr 166 25 (by omega), hx]; rfl) (by rw [hnr 166 26 (by omega), hx]; rfl) (by rw [hnr 166 31 (by omega), hx]; rfl) (by rw [hnr 166 32 (by omega), hx]; rfl) (fun c i hc => by rw [hnr c i (by omega), ho c i (by omega)]) (fun i hs hi => ?_) (fun r M3 hr h3 => ⟨fun _ => h3, fun q => absurd q hr⟩) (fun f e M3 he hZ => ⟨fun q => absurd rfl q, fun _ => ?_⟩)
    · have : ¬ (i = 24 ∨ i = 26 ∨ i = 25 ∨ i = 12 ∨ i = 0 ∨ i = 13 ∨ i = 14 ∨ i = 15) := by
        rintro (rfl | rfl | rfl | rfl | rfl | rfl | rfl | rfl) <;> simp [sc] at hs
      rw [hnr 166 i (by omega), ho 166 i (by omega)]
    · intro M13 e13 M14 e14
      unfold NX12_text_69
      intro M15 e15
      refine ⟨fun q => absurd rfl q, fun _ => ?_⟩
      have p30 : M13 166 30 = nI (pos b n e) := by rw [e13, xu_at _ _ _ (by decide)]; exact he.2.1
      rw [he.1] at e13
      rw [p30] at e14
      have hz : ∀ c j, M15 c j = if c = 166 ∧ j = 11 then 0 else if c = 166 ∧ j = 32 then nI (pos b n e) else if c = 166 ∧ j = 31 then nI f else M3 c j := fun c j => by
        rw [e15, e14, e13]
        simp only [xu_if]
      refine hZ M15 (fun c i hc hd _ => ?_) (by rw [hz]; rfl) (by rw [hz]; rfl) (by rw [hz]; rfl)
      rw [hz, if_neg (by omega), if_neg (by omega), if_neg (by omega), he.2.2 c i hc]
      by_cases h166 : c = 166
      · subst h166
        have hs : sc 166 i = false := by
          rcases hc with hc | hc
          · exact hc
          · omega
        have : ¬ (i = 24 ∨ i = 26 ∨ i = 25 ∨ i = 12 ∨ i = 0 ∨ i = 13 ∨ i = 14 ∨ i = 15) := by
          rintro (rfl | rfl | rfl | rfl | rfl | rfl | rfl | rfl) <;> simp [sc] at hs
        rw [hnr 166 i (by omega), ho 166 i (by omega)]
      · rw [hnr c i (by omega), ho c i (by omega)]
/-! what a text leaves as it was -/
theorem VLw {p : Nat → Nat → Bool} {V V2 : Mem} (h : ∀ c i, p c i = true → vl c i = true → V2 c i = V c i) : VL V (mixV p V V2) := fun c i hv => by
  unfold mixV
  split
  · next q => exact h c i q hv
  · rfl
section KPT
variable {M Z : Mem} (hI : Inv M)
theorem kpL (hI : Inv M) (h : ∀ c i, pL c i = true → vl c i = true → Z c i = M c i) (hm : ∀ c i, 12 ≤ c → c ≤ 17 → Z c i = M c i) : WFl Z ∧ CL 12 Z Z := ⟨WFl_congr (V2 := mixV pL M Z) (VLw h) hI.1.2.1, CL_congr (d := 1) (V2 := mixV pL M Z) (M2 := mixM 12 17 M Z) (VLw h) (fun e i _ _ => mixM_eq hm _ _) hI.2.1.2.1⟩
theorem kpS (hI : Inv M) (h : ∀ c i, pS c i = true → vl c i = true → Z c i = M c i) (hm : ∀ c i, 19 ≤ c → c ≤ 21 → Z c i = M c i) : WFs Z ∧ CS 19 Z Z := by
  obtain ⟨n, h1, h2⟩ := hI.1.2.2.1
  exact ⟨⟨n, h1, (h 166 33 rfl rfl).trans h2⟩, CS_congr (d := 1) (V2 := mixV pS M Z) (M2 := mixM 19 21 M Z) (VLw h) (fun e i _ _ => mixM_eq hm _ _) hI.2.1.2.2.1⟩
theorem kpP (hI : Inv M) (h : ∀ c i, pP c i = true → vl c i = true → Z c i = M c i) (hm : ∀ c i, 22 ≤ c → c ≤ 26 → Z c i = M c i) : (∀ P N g, WFa M P N g → WFp M P N → WFp Z P N) ∧ CP 22 Z Z := ⟨fun P N g _ hp => WFp_congr (V2 := mixV pP M Z) (VLw h) hp, CP_congr (d := 1) (V2 := mixV pP M Z) (M2 := mixM 22 26 M Z) (VLw h) (fun e i _ _ => mixM_eq hm _ _) hI.2.1.2.2.2.1⟩
theorem kpT (hI : Inv M) (h : ∀ c i, pT c i = true → vl c i = true → Z c i = M c i) (hm : ∀ c i, 27 ≤ c → c ≤ 29 → Z c i = M c i) : WFt Z ∧ CT 27 Z Z := ⟨WFt_congr (V2 := mixV pT M Z) (VLw h) hI.1.2.2.2.1, CT_congr (d := 1) (V2 := mixV pT M Z) (M2 := mixM 27 29 M Z) (VLw h) (fun e i _ _ => mixM_eq hm _ _) hI.2.1.2.2.2.2.1⟩
theorem kpY (hI : Inv M) (h : ∀ c i, pY c i = true → vl c i = true → Z c i = M c i) (hm : ∀ c i, 30 ≤ c → c ≤ 32 → Z c i = M c i) : WFy Z ∧ CY 30 Z Z := ⟨WFy_congr (V2 := mixV pY M Z) (VLw h) hI.1.2.2.2.2, CY_congr (d := 1) (V2 := mixV pY M Z) (M2 := mixM 30 32 M Z) (VLw h) (fun e i _ _ => mixM_eq hm _ _) hI.2.1.2.2.2.2.2.1⟩
end KPT
theorem so_f {c i : Nat} (h : so c i = false) : sc c i = false ∧ stp c i = false ∧ ¬ (12 ≤ c ∧ c ≤ 33) ∧ ¬ (174 ≤ c ∧ c ≤ 190) ∧ ¬ (c = 166 ∧ (i = 11 ∨ i = 31 ∨ i = 32 ∨ i = 33 ∨ i = 35 ∨ i = 37 ∨ i = 41)) ∧ (c < 139 ∨ 161 < c) ∧ ¬ (c = 0 ∧ i = 7) := by
  have q1 : so c i = (sc c i || stp c i || (decide (12 ≤ c) && decide (c ≤ 33)) || (c == 166 && (i == 33 || i == 35 || i == 37 || i == 41)) || (decide (174 ≤ c) && decide (c ≤ 190))) := rfl
  rw [q1] at h
  simp only [Bool.or_eq_false_iff] at h
  obtain ⟨⟨⟨⟨h1, h2⟩, h3⟩, h4⟩, h5⟩ := h
  have h2' := h2
  simp [stp] at h2'
  simp at h3 h4 h5
  refine ⟨h1, h2, by omega, by omega, ?_, ?_, by omega⟩
  · rintro ⟨rfl, rfl | rfl | rfl | rfl | rfl | rfl | rfl⟩ <;> simp_all
  · by_cases e : c < 139 ∨ 161 < c
    · exact e
    · exfalso
      by_cases e2 : c = 139
      · omega
      · unfold sc at h1
        rw [if_neg (by omega), if_neg (by omega), if_neg (by omega), if_neg (by omega), if_neg (by omega), if_neg (by omega), if_neg (by omega), if_neg (by omega), if_neg (by omega), if_pos (by omega)] at h1
        cases h1
