/-! text: the class begins, a fault, a text that is taken -/
theorem s11_textS {k : Nat} {b : Nat → Nat} {n : Nat} {M : Mem} {Q : Int32 → Mem → Prop} (hk : k < 4) (hb : BT b n M) (hn : n ≤ 400) (h7 : M 0 7 = nI n)
    (h : ∀ (M2 : Mem) (m : Nat) (P : Int32 → Mem → Prop), CA k b n m 0 M2 → M2 139 7 = 0 → M2 139 8 = M 2 10 → M2 139 9 = M 2 11 → M2 140 6 = 0 → M2 140 7 = 0 → M2 147 2 = 0 → M2 150 4 = 0 → M2 155 2 = 0 → M2 139 10 = 0 → M2 139 11 = -1 → cfr (xu M 0 7 0) M2 →
      (∀ l M4, l ≤ 16 → FX0_takeText (fun M6 => NX11_text_66 Q 0 (nI k) (nI l) M6) 1 (nI k) 139 M4 → P (nI l) M4) → (∀ M4, Q (-1) M4 → P (-1) M4) → NX5_read_79 P 139 (nI k) 0 M2) : FX11_text Q 0 (nI k) M := by
  unfold FX11_text
  rintro M3 rfl
  rw [h7]
  refine ⟨fun q => absurd q (nI_pos (by omega)), fun _ => ⟨fun _ => ?_, fun q => absurd ((nI_leI (b := 3) (by omega) (by omega)).mpr (by omega)) q⟩⟩
  have hb1 : BT b n (xu M 0 7 0) := fun i hi => by
    rw [xu_ne _ _ (by omega), xu_ne _ _ (by omega)]
    exact hb i hi
  refine s5_readS hk hb1 hn (fun M2 m ca a1 a2 a3 a4 a5 a6 a7 a8 a9 a10 f => ?_)
  refine h M2 m _ ca a1 (a2.trans (xu_ne _ _ (by omega))) (a3.trans (xu_ne _ _ (by omega))) a4 a5 a6 a7 a8 a9 a10 f (fun l M4 hl h4 => ⟨fun q => absurd q (m1_ne (by omega)), fun _ => h4⟩) (fun M4 hQ => ⟨fun _ => ⟨fun _ => hQ, fun q => absurd rfl q⟩, fun q => absurd rfl q⟩)
theorem st_f {c i : Nat} (h1 : sc c i = false) (h2 : stp c i = false) : (c < 139 ∨ 161 < c) ∧ ¬ (c = 0 ∧ i = 7) ∧ ¬ (c = 166 ∧ (i = 11 ∨ i = 31 ∨ i = 32)) := by
  have h2' := h2
  simp [stp] at h2'
  refine ⟨?_, by omega, by omega⟩
  by_cases e : c < 139 ∨ 161 < c
  · exact e
  · exfalso
    by_cases e2 : c = 139
    · omega
    · unfold sc at h1
      rw [if_neg (by omega), if_neg (by omega), if_neg (by omega), if_neg (by omega), if_neg (by omega), if_neg (by omega), if_neg (by omega), if_neg (by omega), if_neg (by omega), if_pos (by omega)] at h1
      cases h1
/-- a fault -/
theorem tx_fault {M A Z : Mem} {x y : Int32} (hI : Inv M) (fA : cfr (xu M 0 7 0) A) (fZ : tx_z (fun _ _ => False) A Z) (a10 : A 139 10 = x) (a11 : A 139 11 = y) (z11 : Z 166 11 = 0) (z31 : Z 166 31 = x) (z32 : Z 166 32 = y) : Inv Z := by
  refine Inv_tape hI (fun c i q1 q2 => ?_) ⟨⟨0, by omega, ?_, z11, fun i hi => absurd hi (by omega)⟩, ?_, ?_⟩
  · obtain ⟨r1, r2, r3⟩ := st_f q1 q2
    rw [fZ c i (Or.inl q1) r3 (fun q => q), fA c i r1, xu_ne _ _ r2]
  · rw [fZ 0 7 (Or.inr (by omega)) (by omega) (fun q => q), fA 0 7 (by omega), xu_same]; rfl
  · rw [fZ 139 10 (Or.inr (by omega)) (by omega) (fun q => q), a10, z31]
  · rw [fZ 139 11 (Or.inr (by omega)) (by omega) (fun q => q), a11, z32]
/-- a text is taken -/
theorem tx_done {M A Z : Mem} {p : Nat → Nat → Prop} {lo hi : Nat} (hI : Inv M) (hlo : 12 ≤ lo) (hhi : hi ≤ 29) (fA : ∀ c i, (c < 139 ∨ 161 < c) → ¬ (c = 0 ∧ i = 7) → ¬ (lo ≤ c ∧ c ≤ hi) → ¬ (c = 77 ∧ i = 1) → A c i = M c i) (fZ : tx_z p A Z) (hp : ∀ c i, p c i → (174 ≤ c ∧ c ≤ 190) ∨ (c = 166 ∧ (i = 3 ∨ i = 33 ∨ i = 35 ∨ i = 37))) (a7 : A 0 7 = 0) (a10 : A 139 10 = 0) (a11 : A 139 11 = -1) (z11 : Z 166 11 = 0) (z31 : Z 166 31 = 0) (z32 : Z 166 32 = -1) (hP3 : (Z 166 3 = M 166 3 ∧ Z 77 1 = M 77 1) ∨ (Z 166 3 = 0 ∧ Z 77 1 = 0))
    (k : (∀ c i, vl c i = true → ¬ p c i → Z c i = M c i) → (∀ c i, 12 ≤ c → c ≤ 32 → ¬ (lo ≤ c ∧ c ≤ hi) → Z c i = M c i) → (∀ P N g, WFa M P N g → WFp M P N → WFp Z P N) ∧ WFl Z ∧ WFs Z ∧ WFt Z ∧ WFy Z ∧ CL 12 Z Z ∧ CS 19 Z Z ∧ CP 22 Z Z ∧ CT 27 Z Z ∧ CY 30 Z Z) : Inv Z := by
  have np : ∀ c i, c < 166 → ¬ p c i := fun c i hc q => by have := hp c i q; omega
  have lowZ : ∀ c i, c < 166 → Z c i = A c i := fun c i hc => fZ c i (Or.inr hc) (by omega) (np c i hc)
  obtain ⟨k1, k2, k3, k4, k5, k6, k7, k8, k9, k10⟩ := k (fun c i hv hq => by
      obtain ⟨s1, -⟩ := sc_vl hv
      have hv1 : vr c i = true := by simp [vl] at hv; exact hv.1
      have hc : 166 ≤ c := by rcases vr_ge hv1 with r | r <;> omega
      have hn : ¬ (c = 166 ∧ (i = 11 ∨ i = 31 ∨ i = 32)) := by
        rintro ⟨rfl, hi⟩
        simp [vr] at hv1
        omega
      rw [fZ c i (Or.inl s1) hn hq, fA c i (by omega) (by omega) (by omega) (by omega)])
    (fun c i h1 h2 h3 => by rw [lowZ c i (by omega), fA c i (by omega) (by omega) h3 (by omega)])
  refine Inv_other hI (fun c i hs n1 n2 => ?_) hP3 k1 k2 k3 k4 k5 k6 k7 k8 k9 k10 ⟨⟨0, by omega, ?_, z11, fun i hi => absurd hi (by omega)⟩, ?_, ?_⟩
  · obtain ⟨s1, s2, s3, s4, s5, s6, s7⟩ := so_f hs
    have n1' : ¬ (c = 166 ∧ i = 3) := fun q => n1 (by rw [q.1, q.2])
    have n2' : ¬ (c = 77 ∧ i = 1) := fun q => n2 (by rw [q.1, q.2])
    rw [fZ c i (Or.inl s1) (by omega) (fun q => by have := hp c i q; omega), fA c i s6 s7 (by omega) n2']
  · rw [lowZ 0 7 (by omega), a7]; rfl
  · rw [lowZ 139 10 (by omega), a10, z31]
  · rw [lowZ 139 11 (by omega), a11, z32]
/-- the reference, from its start to the end -/
theorem tx_ref {p : Nat → Nat → Prop} {A M2 M3 M4 Z : Mem} (g1 : ∀ c i, ¬ c = 166 → M2 c i = A c i) (g2 : ∀ i, sc 166 i = false → ¬ (i = 31 ∨ i = 32) → M2 166 i = A 166 i) (f3 : rfr M2 M3) (e4 : M4 = xu M3 166 11 0) (zf : ∀ c i, ¬ p c i → Z c i = M4 c i) : tx_z p A Z := fun c i h1 h2 h3 => by
  rw [zf c i h3, e4, xu_ne _ _ (by omega), f3 c i h1]
  by_cases hc : c = 166
  · subst hc
    refine g2 i ?_ (by omega)
    rcases h1 with h1 | h1
    · exact h1
    · omega
  · exact g1 c i hc
theorem BT_hi {b : Nat → Nat} {n : Nat} {M A : Mem} (h : ∀ c i, (c < 139 ∨ 161 < c) → ¬ (c = 0 ∧ i = 7) → ¬ (12 ≤ c ∧ c ≤ 29) → ¬ (c = 77 ∧ i = 1) → A c i = M c i) (hb : BT b n M) : BT b n A := fun i hi => by
  rw [h 172 i (by omega) (by omega) (by omega) (by omega), h 165 i (by omega) (by omega) (by omega) (by omega)]
  exact hb i hi
theorem IX_hi {M A : Mem} (h : ∀ c i, (c < 139 ∨ 161 < c) → ¬ (c = 0 ∧ i = 7) → ¬ (12 ≤ c ∧ c ≤ 29) → ¬ (c = 77 ∧ i = 1) → A c i = M c i) (hX : IX M) : IX A := ⟨fun i hi => by rw [h 173 i (by omega) (by omega) (by omega) (by omega)]; exact hX.1 i hi, by rw [h 166 5 (by omega) (by omega) (by omega) (by omega)]; exact hX.2⟩
theorem cfr_hi {M A : Mem} (h : cfr (xu M 0 7 0) A) : ∀ c i, (c < 139 ∨ 161 < c) → ¬ (c = 0 ∧ i = 7) → A c i = M c i := fun c i h1 h2 => (h c i h1).trans (xu_ne _ _ h2)
/-! the sky -/
theorem tx_sky {M : Mem} (hI : Inv M) {b : Nat → Nat} {n : Nat} (hb : BT b n M) (hn : n ≤ 400) (h7 : M 0 7 = nI n) (h11 : M 166 11 = nI n) : FX11_text (fun r M1 => FX12_text (fun r2 M2 => r = r2 ∧ Inv M2) 166 (nI 1) M1) 0 (nI 1) M := by
  refine s11_textS (k := 1) (by omega) hb hn h7 (fun M2 m P ca b7 b8 b9 b406 b407 b47 b50 b55 b10 b11 f2 hok herr => ?_)
  refine s5_loop (P8 := M2 139 8) (P9 := M2 139 9) (skyP (tyT b n) (tyV b n)) skC (fun Q M => FX5_skyLine Q 139 M) (fun L M M2 f h => ⟨(f 147 2 (by omega) (by omega)).trans h.1, fun j hj => by rw [f 148 j (by omega) (by omega), f 149 j (by omega) (by omega)]; exact h.2 j hj⟩) (fun i x => by
      unfold skyP
      split
      · rw [if_neg (by omega)]; intro q; cases q
      · intro q; cases q) s5_skyLine (fun Q M h => ⟨fun _ => ⟨fun q => absurd rfl q, fun _ => h⟩, fun q => absurd q (by decide)⟩) ca b7 ⟨b47, fun j hj => absurd hj (by simp)⟩ rfl rfl (fun L M4 hp hL hR4 f4 => hok L.length M4 hL ?_) (fun f e M4 hp he => herr M4 ?_)
  · refine ⟨fun q => absurd q (by decide), fun _ => ?_, fun q => absurd q (by decide), fun _ q => absurd rfl q⟩
    refine s6_take (fun A a1 a2 a3 => ⟨fun q => absurd q (m1_ne (by omega)), fun _ => ⟨fun _ => ?_, fun q => absurd q (by decide)⟩⟩)
    have fA : ∀ c i, (c < 139 ∨ 161 < c) → ¬ (c = 0 ∧ i = 7) → ¬ (19 ≤ c ∧ c ≤ 21) → ¬ (c = 77 ∧ i = 1) → A c i = M c i := fun c i h1 h2 h3 _ => (a3 c i h3).trans (cfr_hi (f2.trans f4.cfr) c i h1 h2)
    have fA' : ∀ c i, (c < 139 ∨ 161 < c) → ¬ (c = 0 ∧ i = 7) → ¬ (12 ≤ c ∧ c ≤ 29) → ¬ (c = 77 ∧ i = 1) → A c i = M c i := fun c i h1 h2 h3 h4 => fA c i h1 h2 (by omega) h4
    refine s12_textS (k := 1) (by omega) (BT_hi fA' hb) (IX_hi fA' hI.2.2.2.2.1) hn ((fA 166 11 (by omega) (by omega) (by omega) (by omega)).trans h11) (fun N2 P2 ra h24 h25 h26 h31 h32 g1 g2 hok2 herr2 => ⟨fun q => absurd rfl q, fun _ => ?_⟩)
    refine s12_readSky ra (fun L2 N3 hp2 hL2 hR3 f3 => hok2 _ N3 (m1_ne (by omega)) ?_) (fun f e N3 hp2 he => by rw [hp] at hp2; cases hp2)
    have eL : L = L2 := Except.ok.inj (hp.symm.trans hp2)
    subst eL
    unfold NX12_text_69
    intro N4 e4
    refine ⟨fun _ => ⟨fun _ => ?_, fun q => absurd q (by decide)⟩, fun q => absurd q (m1_ne (by omega))⟩
    refine ⟨fun q => absurd rfl q, fun _ => s12_takeS hL (fun Z z33 zc zf => ⟨rfl, ?_⟩)⟩
    have k4 : ∀ c i, ¬ (c = 166 ∧ i = 11) → N4 c i = N3 c i := fun c i h => by rw [e4, xu_ne _ _ h]
    have k3 : ∀ i, sc 166 i = false → ¬ i = 11 → ¬ i = 33 → Z 166 i = N2 166 i := fun i hs h1 h2 => by rw [zf 166 i (by omega) (by omega), k4 166 i (by omega), f3 166 i (Or.inl hs)]
    have fZ : tx_z (fun c i => c = 182 ∨ (c = 166 ∧ i = 33)) A Z := tx_ref g1 g2 f3 e4 (fun c i h => zf c i (by omega) (by omega))
    refine tx_done (lo := 19) (hi := 21) hI (by omega) (by omega) fA fZ (fun c i q => by omega) ?_ ?_ ?_ ?_ ((k3 31 rfl (by omega) (by omega)).trans h31) ((k3 32 rfl (by omega) (by omega)).trans h32) (Or.inl ⟨?_, ?_⟩) (fun kv kc => ?_)
    · rw [a3 0 7 (by omega), f4.cfr 0 7 (by omega), f2 0 7 (by omega), xu_same]
    · rw [a3 139 10 (by omega), f4 139 10 (by omega), b10]
    · rw [a3 139 11 (by omega), f4 139 11 (by omega), b11]
    · rw [zf 166 11 (by omega) (by omega), e4, xu_same]
    · rw [fZ 166 3 (Or.inl rfl) (by omega) (by omega), fA 166 3 (by omega) (by omega) (by omega) (by omega)]
    · rw [fZ 77 1 (Or.inr (by omega)) (by omega) (by omega), a3 77 1 (by omega)]
      exact cfr_hi (f2.trans f4.cfr) 77 1 (by omega) (by omega)
    · have l1 := kpL hI (fun c i hq hv => kv c i hv (by simp [pL] at hq; omega)) (fun c i h1 h2 => kc c i (by omega) (by omega) (by omega))
      have l3 := kpP hI (fun c i hq hv => kv c i hv (by simp [pP] at hq; omega)) (fun c i h1 h2 => kc c i (by omega) (by omega) (by omega))
      have l4 := kpT hI (fun c i hq hv => kv c i hv (by simp [pT] at hq; omega)) (fun c i h1 h2 => kc c i (by omega) (by omega) (by omega))
      have l5 := kpY hI (fun c i hq hv => kv c i hv (by simp [pY] at hq; omega)) (fun c i h1 h2 => kc c i (by omega) (by omega) (by omega))
      refine ⟨l3.1, l1.1, ⟨L.length, hL, z33⟩, l4.1, l5.1, l1.2, ⟨?_, fun l hl hl2 => ?_⟩, l3.2, l4.2, l5.2⟩
      · rw [fZ 19 2 (Or.inr (by omega)) (by omega) (by omega), a1, z33]
        exact hR4.1
      · rw [z33] at hl2
        have hl3 : l < L.length := (nI_ltI (by omega) (by omega)).mp hl2
        have r1 := hR4.2 l hl3
        have r2 := hR3 l hl3
        show Z 20 l = _ ∧ Z 21 l = _
        rw [fZ 20 l (Or.inr (by omega)) (by omega) (by omega), fZ 21 l (Or.inr (by omega)) (by omega) (by omega), (a2 l hl).1, (a2 l hl).2, r1.1, r1.2.1, zc (2 * l) (by omega), zc (2 * l + 1) (by omega), k4 182 _ (by omega), k4 182 _ (by omega), r2.1, show 32 + (2 * l + 1) = 33 + 2 * l by omega, r2.2]
        exact ⟨rfl, rfl⟩
  · have cA := he.of f2
    have fA' : ∀ c i, (c < 139 ∨ 161 < c) → ¬ (c = 0 ∧ i = 7) → ¬ (12 ≤ c ∧ c ≤ 29) → ¬ (c = 77 ∧ i = 1) → M4 c i = M c i := fun c i h1 h2 _ _ => cfr_hi cA.2.2 c i h1 h2
    refine s12_textS (k := 1) (by omega) (BT_hi fA' hb) (IX_hi fA' hI.2.2.2.2.1) hn ((fA' 166 11 (by omega) (by omega) (by omega) (by omega)).trans h11) (fun N2 P2 ra h24 h25 h26 h31 h32 g1 g2 hok2 herr2 => ⟨fun q => absurd rfl q, fun _ => ?_⟩)
    refine s12_readSky ra (fun L2 N3 hp2 hL2 hR3 f3 => by rw [hp] at hp2; cases hp2) (fun f' e' N3 hp2 he2 => herr2 f' e' N3 he2 (fun Z fZ z11 z31 z32 => ⟨rfl, ?_⟩))
    have ee : (f, e) = (f', e') := Except.error.inj (hp.symm.trans hp2)
    have e1 : f = f' := congrArg Prod.fst ee
    have e2 : e = e' := congrArg Prod.snd ee
    subst e1 e2
    exact tx_fault hI cA.2.2 fZ cA.1 cA.2.1 z11 z31 z32
