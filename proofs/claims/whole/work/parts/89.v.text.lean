/-! text: THE LAW; all -/
theorem tx_law {M : Mem} (hI : Inv M) {b : Nat → Nat} {n : Nat} (hb : BT b n M) (hn : n ≤ 400) (h7 : M 0 7 = nI n) (h11 : M 166 11 = nI n) : FX11_text (fun r M1 => FX12_text (fun r2 M2 => r = r2 ∧ Inv M2) 166 (nI 0) M1) 0 (nI 0) M := by
  refine s11_textS (k := 0) (by omega) hb hn h7 (fun M2 m P ca b7 b8 b9 b406 b407 b47 b50 b55 b10 b11 f2 hok herr => ?_)
  show NX5_read_79 P 139 0 0 M2
  refine s5_lawLoop ca b7 ⟨⟨b406, fun j hj => absurd hj (by simp [cds])⟩, b407, Nat.zero_le _, fun j hj => absurd hj (by simp)⟩ (fun L i4 M4 hp hL hi4 hR4 f4 => hok L.length M4 hL ?_) (fun f e M4 hp he => herr M4 ?_)
  · refine ⟨fun _ => ?_, fun q => absurd q (by decide), fun q => absurd q (by decide), fun q => absurd rfl q⟩
    refine s2_take (fun A a1 a0 a2 a3 => ⟨fun q => absurd q (m1_ne (by omega)), fun _ => ⟨fun _ => ?_, fun q => absurd q (by decide)⟩⟩)
    have fA : ∀ c i, (c < 139 ∨ 161 < c) → ¬ (c = 0 ∧ i = 7) → ¬ (12 ≤ c ∧ c ≤ 17) → ¬ (c = 77 ∧ i = 1) → A c i = M c i := fun c i h1 h2 h3 _ => (a3 c i h3).trans (cfr_hi (f2.trans f4.cfr) c i h1 h2)
    have fA' : ∀ c i, (c < 139 ∨ 161 < c) → ¬ (c = 0 ∧ i = 7) → ¬ (12 ≤ c ∧ c ≤ 29) → ¬ (c = 77 ∧ i = 1) → A c i = M c i := fun c i h1 h2 h3 h4 => fA c i h1 h2 (by omega) h4
    refine s12_textS (k := 0) (by omega) (BT_hi fA' hb) (IX_hi fA' hI.2.2.2.2.1) hn ((fA 166 11 (by omega) (by omega) (by omega) (by omega)).trans h11) (fun N2 P2 ra h24 h25 h26 h31 h32 g1 g2 hok2 herr2 => ⟨fun _ => ⟨fun _ => ⟨fun _ => ?_, fun q => absurd q (by decide)⟩, fun q => absurd q (by decide)⟩, fun q => absurd q (by decide)⟩)
    refine s12_readLaw ⟨ra, ⟨h25, fun j hj => absurd hj (by simp)⟩, h26⟩ (fun L2 N3 hp2 hL2 hD hC hlen f3 => hok2 _ N3 (m1_ne (by omega)) ?_) (fun f e N3 hp2 he => by rw [hp] at hp2; cases hp2)
    have eL : L = L2 := Except.ok.inj (hp.symm.trans hp2)
    subst eL
    unfold NX12_text_69
    intro N4 e4
    have k4 : ∀ c i, ¬ (c = 166 ∧ i = 11) → N4 c i = N3 c i := fun c i h => by rw [e4, xu_ne _ _ h]
    refine ⟨fun _ => ⟨fun q => absurd rfl q, fun _ => ?_⟩, fun q => absurd q (m1_ne (by omega))⟩
    refine s12_takeL hL hlen ((k4 166 25 (by omega)).trans hC.1) ((k4 166 24 (by omega)).trans ((f3 166 24 (fun q => by have := q.2.2; omega) (by omega) (by omega) (by omega) (by omega)).trans h24)) (fun Z z174 zl zc zf => ⟨rfl, ?_⟩)
    have k3 : ∀ i, sc 166 i = false → ¬ i = 11 → Z 166 i = N2 166 i := fun i hs h1 => by rw [zf 166 i (by omega) (by omega), k4 166 i (by omega), f3.rfr 166 i (Or.inl hs)]
    have fZ : tx_z (fun c i => 174 ≤ c ∧ c ≤ 180) A Z := tx_ref g1 g2 f3.rfr e4 (fun c i h => zf c i (by omega) (by omega))
    have hG := pAll_all (G := lwG) (fun l i x j h => lawP_G (fun i => tyV_num) l i x j h) 18 0 [] L (fun x hx => absurd hx (by simp)) hp
    have rows : ∀ l, l < L.length → Z 175 l = nI (lrow L l).1 ∧ Z 176 l = nI (lst L l) ∧ Z 177 l = nI (lst L l + (lrow L l).2.1.length) ∧ Z 178 l = nI (lst L l + (lrow L l).2.1.length + (lrow L l).2.2.length) := fun l hl => by
      rw [zl 175 l (by omega) (by omega) hl, zl 176 l (by omega) (by omega) hl, zl 177 l (by omega) (by omega) hl, zl 178 l (by omega) (by omega) hl, k4 175 _ (by omega), k4 176 _ (by omega), k4 177 _ (by omega), k4 178 _ (by omega)]
      exact hD l hl
    have cods : ∀ j, j < (cds L).length → Z 179 j = nI ((cds L).getD j (0, 0)).1 ∧ Z 180 j = nI ((cds L).getD j (0, 0)).2 := fun j hj => by
      have := zc j hj
      rw [k4 179 _ (by omega), k4 180 _ (by omega)] at this
      rw [this.1, this.2]
      exact hC.2 j hj
    refine tx_done (lo := 12) (hi := 17) hI (by omega) (by omega) fA fZ (fun c i q => by omega) ?_ ?_ ?_ ?_ ((k3 31 rfl (by omega)).trans h31) ((k3 32 rfl (by omega)).trans h32) (Or.inl ⟨?_, ?_⟩) (fun kv kc => ?_)
    · rw [a3 0 7 (by omega), f4.cfr 0 7 (by omega), f2 0 7 (by omega), xu_same]
    · rw [a3 139 10 (by omega), f4 139 10 (by omega), b10]
    · rw [a3 139 11 (by omega), f4 139 11 (by omega), b11]
    · rw [zf 166 11 (by omega) (by omega), e4, xu_same]
    · rw [fZ 166 3 (Or.inl rfl) (by omega) (by omega), fA 166 3 (by omega) (by omega) (by omega) (by omega)]
    · rw [fZ 77 1 (Or.inr (by omega)) (by omega) (by omega), a3 77 1 (by omega)]
      exact cfr_hi (f2.trans f4.cfr) 77 1 (by omega) (by omega)
    · have l2 := kpS hI (fun c i hq hv => kv c i hv (by simp [pS] at hq; omega)) (fun c i h1 h2 => kc c i (by omega) (by omega) (by omega))
      have l3 := kpP hI (fun c i hq hv => kv c i hv (by simp [pP] at hq; omega)) (fun c i h1 h2 => kc c i (by omega) (by omega) (by omega))
      have l4 := kpT hI (fun c i hq hv => kv c i hv (by simp [pT] at hq; omega)) (fun c i h1 h2 => kc c i (by omega) (by omega) (by omega))
      have l5 := kpY hI (fun c i hq hv => kv c i hv (by simp [pY] at hq; omega)) (fun c i h1 h2 => kc c i (by omega) (by omega) (by omega))
      have low : ∀ c i, c ≤ 17 → Z c i = A c i := fun c i hc => fZ c i (Or.inr (by omega)) (by omega) (by omega)
      refine ⟨l3.1, WFl_of hL hG hlen z174 rows cods, l2.1, l4.1, l5.1, ⟨?_, fun l hl hl2 => ?_⟩, l2.2, l3.2, l4.2, l5.2⟩
      · rw [low 12 7 (by omega), a1, z174]
        exact hR4.2.1
      · rw [z174] at hl2
        have hl3 : l < L.length := (nI_ltI (by omega) (by omega)).mp hl2
        obtain ⟨r1, r2, r3, r4⟩ := hR4.2.2.2 l hl3
        obtain ⟨s1, s2, s3, s4⟩ := rows l hl3
        obtain ⟨u1, u2, u3, u4⟩ := a2 l hl
        have hcl := cds_len hl3
        refine ⟨?_, ?_, ?_, ?_, fun i hi ha hbb => ?_⟩
        · show Z 14 l = _; rw [low 14 l (by omega), u1, r1, s1]
        · show Z 15 l = _; rw [low 15 l (by omega), u2, r2, s2]
        · show Z 16 l = _; rw [low 16 l (by omega), u3, r3, s3]
        · show Z 17 l = _; rw [low 17 l (by omega), u4, r4, s4]
        · rw [s4] at hbb
          have hi2 := (nI_ltI (by omega) (by omega)).mp hbb
          have hi3 : i < (cds L).length := by omega
          show cRel (Z 13 i) _ _
          rw [low 13 i (by omega), a0 i hi, (hR4.1.2 i hi3).1, (cods i hi3).1, (cods i hi3).2]
          exact gC_rel (hR4.1.2 i hi3).2
  · have cA := he.of f2
    have fA' : ∀ c i, (c < 139 ∨ 161 < c) → ¬ (c = 0 ∧ i = 7) → ¬ (12 ≤ c ∧ c ≤ 29) → ¬ (c = 77 ∧ i = 1) → M4 c i = M c i := fun c i h1 h2 _ _ => cfr_hi cA.2.2 c i h1 h2
    refine s12_textS (k := 0) (by omega) (BT_hi fA' hb) (IX_hi fA' hI.2.2.2.2.1) hn ((fA' 166 11 (by omega) (by omega) (by omega) (by omega)).trans h11) (fun N2 P2 ra h24 h25 h26 h31 h32 g1 g2 hok2 herr2 => ⟨fun _ => ⟨fun _ => ⟨fun _ => ?_, fun q => absurd q (by decide)⟩, fun q => absurd q (by decide)⟩, fun q => absurd q (by decide)⟩)
    refine s12_readLaw ⟨ra, ⟨h25, fun j hj => absurd hj (by simp)⟩, h26⟩ (fun L2 N3 hp2 hL2 hD hC hlen f3 => by rw [hp] at hp2; cases hp2) (fun f' e' N3 hp2 he2 => herr2 f' e' N3 he2 (fun Z fZ z11 z31 z32 => ⟨rfl, ?_⟩))
    have ee : (f, e) = (f', e') := Except.error.inj (hp.symm.trans hp2)
    have e1 : f = f' := congrArg Prod.fst ee
    have e2 : e = e' := congrArg Prod.snd ee
    subst e1 e2
    exact tx_fault hI cA.2.2 fZ cA.1 cA.2.1 z11 z31 z32
/-- there is no such text -/
theorem tx_none {M : Mem} (hI : Inv M) {a1 : Int32} (ha : ¬ (0 ≤ a1 ∧ a1 ≤ 3)) : NX11_text_19 (fun r M1 => FX12_text (fun r2 M2 => r = r2 ∧ Inv M2) 166 a1 M1) 0 (xu M 0 7 0) := by
  unfold NX11_text_19 FX5_forgetFault
  intro M1 e1 A eA
  have hA : ∀ c j, A c j = if c = 139 ∧ j = 11 then -1 else if c = 139 ∧ j = 10 then 0 else xu M 0 7 0 c j := fun c j => by rw [eA, e1, xu_if, xu_if]
  unfold FX12_text
  intro M4 e4 M5 e5 M6 e6 M7 e7 M8 e8 M9 e9
  refine s12_isIn ⟨fun _ => ?_, fun w => absurd (of_decide_eq_true w) ha⟩
  unfold NX12_text_69
  intro Z eZ
  refine ⟨fun q => absurd rfl q, fun _ => ⟨rfl, ?_⟩⟩
  have hz : ∀ c j, Z c j = if c = 166 ∧ j = 11 then 0 else if c = 166 ∧ j = 26 then 0 else if c = 166 ∧ j = 25 then 0 else if c = 166 ∧ j = 12 then 0 else if c = 166 ∧ j = 32 then -1 else if c = 166 ∧ j = 31 then 0 else if c = 166 ∧ j = 0 then 0 else A c j := fun c j => by
    rw [eZ, e9, e8, e7, e6, e5, e4]
    simp only [xu_if]
  refine tx_fault (A := A) (x := 0) (y := -1) hI (fun c i hc => by rw [hA, if_neg (by omega), if_neg (by omega)]) (fun c i h1 h2 _ => ?_) (by rw [hA]; rfl) (by rw [hA]; rfl) (by rw [hz]; rfl) (by rw [hz]; rfl) (by rw [hz]; rfl)
  have : ¬ (c = 166 ∧ (i = 26 ∨ i = 25 ∨ i = 12 ∨ i = 0)) := by
    rintro ⟨rfl, q⟩
    rcases h1 with h1 | h1
    · rcases q with rfl | rfl | rfl | rfl <;> simp [sc] at h1
    · omega
  rw [hz, if_neg (by omega), if_neg (by omega), if_neg (by omega), if_neg (by omega), if_neg (by omega), if_neg (by omega), if_neg (by omega)]
theorem q_text : lq_text Inv := by
  intro M a1 hI
  obtain ⟨⟨n, t1, t2, t3, t4⟩, -, -⟩ := hI.2.2.2.1
  have hb : BT (fun i => ix (M 172 i)) n M := fun i hi => by
    obtain ⟨v, h1, h2, h3⟩ := t4 i hi
    have e : ix (M 172 i) = v := by rw [h2]; exact ixn (by omega)
    show ix (M 172 i) < 256 ∧ M 172 i = nI (ix (M 172 i)) ∧ M 165 i = (nI (ix (M 172 i))).toInt8.toInt32
    rw [e]
    exact ⟨h1, h2, h3⟩
  by_cases h0 : a1 < 0
  · unfold FX11_text
    rintro M3 rfl
    exact ⟨fun _ => tx_none hI (fun q => absurd q.1 (Int32.not_le.mpr h0)), fun q => absurd h0 q⟩
  · by_cases h3 : a1 ≤ 3
    · obtain ⟨k, hk, rfl⟩ := nI_of h0
      have hk3 : k ≤ 3 := (nI_leI (b := 3) hk (by omega)).mp h3
      have : k = 0 ∨ k = 1 ∨ k = 2 ∨ k = 3 := by omega
      rcases this with rfl | rfl | rfl | rfl
      · exact tx_law hI hb t1 t2 t3
      · exact tx_sky hI hb t1 t2 t3
      · exact tx_plan hI hb t1 t2 t3
      · exact tx_ten hI hb t1 t2 t3
    · unfold FX11_text
      rintro M3 rfl
      exact ⟨fun q => absurd q h0, fun _ => ⟨fun q => absurd q h3, fun _ => tx_none hI (fun q => h3 q.2)⟩⟩
