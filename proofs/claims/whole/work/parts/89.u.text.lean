/-! text: tenets, plan, law -/
theorem tx_ten {M : Mem} (hI : Inv M) {b : Nat → Nat} {n : Nat} (hb : BT b n M) (hn : n ≤ 400) (h7 : M 0 7 = nI n) (h11 : M 166 11 = nI n) : FX11_text (fun r M1 => FX12_text (fun r2 M2 => r = r2 ∧ Inv M2) 166 (nI 3) M1) 0 (nI 3) M := by
  refine s11_textS (k := 3) (by omega) hb hn h7 (fun M2 m P ca b7 b8 b9 b406 b407 b47 b50 b55 b10 b11 f2 hok herr => ?_)
  refine s5_loop (P8 := M2 139 8) (P9 := M2 139 9) (tenP (tyT b n) (tyV b n)) tnC (fun Q M => FX5_tenetLine Q 139 M) (fun L M M2 f h => ⟨(f 155 2 (by omega) (by omega)).trans h.1, fun j hj => by rw [f 156 j (by omega) (by omega), f 157 j (by omega) (by omega)]; exact h.2 j hj⟩) (fun i x => tenP_16 x) s5_tenetLine (fun Q M h => ⟨fun _ => ⟨fun _ => ⟨fun _ => h, fun q => absurd q (by decide)⟩, fun q => absurd q (by decide)⟩, fun q => absurd q (by decide)⟩) ca b7 ⟨b55, fun j hj => absurd hj (by simp)⟩ rfl rfl (fun L M4 hp hL hR4 f4 => hok L.length M4 hL ?_) (fun f e M4 hp he => herr M4 ?_)
  · refine ⟨fun q => absurd q (by decide), fun q => absurd q (by decide), fun q => absurd q (by decide), fun _ _ _ => ?_⟩
    refine s7_take (fun A a1 a2 a3 => ⟨fun q => absurd q (m1_ne (by omega)), fun _ => ⟨fun _ => ?_, fun q => absurd q (by decide)⟩⟩)
    have fA : ∀ c i, (c < 139 ∨ 161 < c) → ¬ (c = 0 ∧ i = 7) → ¬ (27 ≤ c ∧ c ≤ 29) → ¬ (c = 77 ∧ i = 1) → A c i = M c i := fun c i h1 h2 h3 _ => (a3 c i h3).trans (cfr_hi (f2.trans f4.cfr) c i h1 h2)
    have fA' : ∀ c i, (c < 139 ∨ 161 < c) → ¬ (c = 0 ∧ i = 7) → ¬ (12 ≤ c ∧ c ≤ 29) → ¬ (c = 77 ∧ i = 1) → A c i = M c i := fun c i h1 h2 h3 h4 => fA c i h1 h2 (by omega) h4
    refine s12_textS (k := 3) (by omega) (BT_hi fA' hb) (IX_hi fA' hI.2.2.2.2.1) hn ((fA 166 11 (by omega) (by omega) (by omega) (by omega)).trans h11) (fun N2 P2 ra h24 h25 h26 h31 h32 g1 g2 hok2 herr2 => ⟨fun _ => ⟨fun _ => ⟨fun q => absurd rfl q, fun _ => ?_⟩, fun q => absurd q (by decide)⟩, fun q => absurd q (by decide)⟩)
    refine s12_readTenets ra (fun L2 N3 hp2 hL2 hR3 f3 => hok2 _ N3 (m1_ne (by omega)) ?_) (fun f e N3 hp2 he => by rw [hp] at hp2; cases hp2)
    have eL : L = L2 := Except.ok.inj (hp.symm.trans hp2)
    subst eL
    unfold NX12_text_69
    intro N4 e4
    refine ⟨fun _ => ⟨fun _ => ?_, fun q => absurd q (by decide)⟩, fun q => absurd q (m1_ne (by omega))⟩
    refine ⟨fun _ => ⟨fun _ => s12_takeT hL (fun Z z33 zc zf => ⟨rfl, ?_⟩), fun q => absurd q (by decide)⟩, fun q => absurd q (by decide)⟩
    have k4 : ∀ c i, ¬ (c = 166 ∧ i = 11) → N4 c i = N3 c i := fun c i h => by rw [e4, xu_ne _ _ h]
    have k3 : ∀ i, sc 166 i = false → ¬ i = 11 → ¬ i = 37 → Z 166 i = N2 166 i := fun i hs h1 h2 => by rw [zf 166 i (by omega) (by omega), k4 166 i (by omega), f3 166 i (Or.inl hs)]
    have fZ : tx_z (fun c i => c = 184 ∨ (c = 166 ∧ i = 37)) A Z := tx_ref g1 g2 f3 e4 (fun c i h => zf c i (by omega) (by omega))
    refine tx_done (lo := 27) (hi := 29) hI (by omega) (by omega) fA fZ (fun c i q => by omega) ?_ ?_ ?_ ?_ ((k3 31 rfl (by omega) (by omega)).trans h31) ((k3 32 rfl (by omega) (by omega)).trans h32) (Or.inl ⟨?_, ?_⟩) (fun kv kc => ?_)
    · rw [a3 0 7 (by omega), f4.cfr 0 7 (by omega), f2 0 7 (by omega), xu_same]
    · rw [a3 139 10 (by omega), f4 139 10 (by omega), b10]
    · rw [a3 139 11 (by omega), f4 139 11 (by omega), b11]
    · rw [zf 166 11 (by omega) (by omega), e4, xu_same]
    · rw [fZ 166 3 (Or.inl rfl) (by omega) (by omega), fA 166 3 (by omega) (by omega) (by omega) (by omega)]
    · rw [fZ 77 1 (Or.inr (by omega)) (by omega) (by omega), a3 77 1 (by omega)]
      exact cfr_hi (f2.trans f4.cfr) 77 1 (by omega) (by omega)
    · have l1 := kpL hI (fun c i hq hv => kv c i hv (by simp [pL] at hq; omega)) (fun c i h1 h2 => kc c i (by omega) (by omega) (by omega))
      have l2 := kpS hI (fun c i hq hv => kv c i hv (by simp [pS] at hq; omega)) (fun c i h1 h2 => kc c i (by omega) (by omega) (by omega))
      have l3 := kpP hI (fun c i hq hv => kv c i hv (by simp [pP] at hq; omega)) (fun c i h1 h2 => kc c i (by omega) (by omega) (by omega))
      have l5 := kpY hI (fun c i hq hv => kv c i hv (by simp [pY] at hq; omega)) (fun c i h1 h2 => kc c i (by omega) (by omega) (by omega))
      have hG := pAll_all (G := fun x => 0 < x.getD 0 0) (fun l i x j h => tenP_G l i x j h) 18 0 [] L (fun x hx => absurd hx (by simp)) hp
      have rows : ∀ l, l < L.length → Z 184 (2 * l) = rw_ L l 0 ∧ Z 184 (2 * l + 1) = rw_ L l 1 := fun l hl => by
        have r2 := hR3 l hl
        rw [zc (2 * l) (by omega), zc (2 * l + 1) (by omega), k4 184 _ (by omega), k4 184 _ (by omega), r2.1, show 32 + (2 * l + 1) = 33 + 2 * l by omega, r2.2]
        exact ⟨rfl, rfl⟩
      refine ⟨l3.1, l1.1, l2.1, ⟨L.length, hL, z33, fun l hl => ?_⟩, l5.1, l1.2, l2.2, l3.2, ⟨?_, fun l hl hl2 => ?_⟩, l5.2⟩
      · have r1 := hR4.2 l hl
        have h0 := hG _ (getD_mem [] hl)
        exact ⟨(L.getD l []).getD 0 0, (L.getD l []).getD 1 0, h0, r1.2.2.1, by have := r1.2.2.2; omega, (rows l hl).1, (rows l hl).2⟩
      · rw [fZ 27 2 (Or.inr (by omega)) (by omega) (by omega), a1, z33]
        exact hR4.1
      · rw [z33] at hl2
        have hl3 : l < L.length := (nI_ltI (by omega) (by omega)).mp hl2
        have r1 := hR4.2 l hl3
        show Z 28 l = _ ∧ Z 29 l = _
        rw [fZ 28 l (Or.inr (by omega)) (by omega) (by omega), fZ 29 l (Or.inr (by omega)) (by omega) (by omega), (a2 l hl).1, (a2 l hl).2, r1.1, r1.2.1, (rows l hl3).1, (rows l hl3).2]
        exact ⟨rfl, (sh1 _ (by have := r1.2.2.2; omega)).symm⟩
  · have cA := he.of f2
    have fA' : ∀ c i, (c < 139 ∨ 161 < c) → ¬ (c = 0 ∧ i = 7) → ¬ (12 ≤ c ∧ c ≤ 29) → ¬ (c = 77 ∧ i = 1) → M4 c i = M c i := fun c i h1 h2 _ _ => cfr_hi cA.2.2 c i h1 h2
    refine s12_textS (k := 3) (by omega) (BT_hi fA' hb) (IX_hi fA' hI.2.2.2.2.1) hn ((fA' 166 11 (by omega) (by omega) (by omega) (by omega)).trans h11) (fun N2 P2 ra h24 h25 h26 h31 h32 g1 g2 hok2 herr2 => ⟨fun _ => ⟨fun _ => ⟨fun q => absurd rfl q, fun _ => ?_⟩, fun q => absurd q (by decide)⟩, fun q => absurd q (by decide)⟩)
    refine s12_readTenets ra (fun L2 N3 hp2 hL2 hR3 f3 => by rw [hp] at hp2; cases hp2) (fun f' e' N3 hp2 he2 => herr2 f' e' N3 he2 (fun Z fZ z11 z31 z32 => ⟨rfl, ?_⟩))
    have ee : (f, e) = (f', e') := Except.error.inj (hp.symm.trans hp2)
    have e1 : f = f' := congrArg Prod.fst ee
    have e2 : e = e' := congrArg Prod.snd ee
    subst e1 e2
    exact tx_fault hI cA.2.2 fZ cA.1 cA.2.1 z11 z31 z32
theorem tx_plan {M : Mem} (hI : Inv M) {b : Nat → Nat} {n : Nat} (hb : BT b n M) (hn : n ≤ 400) (h7 : M 0 7 = nI n) (h11 : M 166 11 = nI n) : FX11_text (fun r M1 => FX12_text (fun r2 M2 => r = r2 ∧ Inv M2) 166 (nI 2) M1) 0 (nI 2) M := by
  obtain ⟨P, N, g, wa, wb, wp, wz⟩ := hI.1.1
  obtain ⟨⟨w6, w7, w8, hP, hN, hg⟩, -⟩ := id wa
  have c10 : M 2 10 = nI P := hI.2.1.1.1.1.trans w6
  have c11 : M 2 11 = nI N := hI.2.1.1.1.2.1.trans w7
  refine s11_textS (k := 2) (by omega) hb hn h7 (fun M2 m P0 ca b7 b8 b9 b406 b407 b47 b50 b55 b10 b11 f2 hok herr => ?_)
  refine s5_loop (P8 := nI P) (P9 := nI N) (planP P N (tyT b n) (tyV b n)) plC (fun Q M => FX5_planLine Q 139 M) (fun L M M2 f h => ⟨(f 150 4 (by omega) (by omega)).trans h.1, fun j hj => by rw [f 151 j (by omega) (by omega), f 152 j (by omega) (by omega), f 153 j (by omega) (by omega), f 154 j (by omega) (by omega)]; exact h.2 j hj⟩) (fun i x => planP_16 x) (s5_planLine (by omega) (by omega)) (fun Q M h => ⟨fun _ => ⟨fun _ => ⟨fun q => absurd rfl q, fun _ => h⟩, fun q => absurd q (by decide)⟩, fun q => absurd q (by decide)⟩) ca b7 ⟨b50, fun j hj => absurd hj (by simp)⟩ (b8.trans c10) (b9.trans c11) (fun L M4 hp hL hR4 f4 => hok L.length M4 hL ?_) (fun f e M4 hp he => herr M4 ?_)
  · refine ⟨fun q => absurd q (by decide), fun q => absurd q (by decide), fun _ => ?_, fun _ _ q => absurd rfl q⟩
    refine s4_take (fun A0 a1 a2 a3 => ⟨fun q => absurd q (m1_ne (by omega)), fun _ => ⟨fun q => absurd rfl q, fun _ => ?_⟩⟩)
    intro A eA
    have hA : ∀ c i, ¬ (c = 77 ∧ i = 1) → A c i = A0 c i := fun c i h => by rw [eA, xu_ne _ _ h]
    have fA : ∀ c i, (c < 139 ∨ 161 < c) → ¬ (c = 0 ∧ i = 7) → ¬ (22 ≤ c ∧ c ≤ 26) → ¬ (c = 77 ∧ i = 1) → A c i = M c i := fun c i h1 h2 h3 h4 => ((hA c i h4).trans (a3 c i h3)).trans (cfr_hi (f2.trans f4.cfr) c i h1 h2)
    have fA' : ∀ c i, (c < 139 ∨ 161 < c) → ¬ (c = 0 ∧ i = 7) → ¬ (12 ≤ c ∧ c ≤ 29) → ¬ (c = 77 ∧ i = 1) → A c i = M c i := fun c i h1 h2 h3 h4 => fA c i h1 h2 (by omega) h4
    refine s12_textS (k := 2) (by omega) (BT_hi fA' hb) (IX_hi fA' hI.2.2.2.2.1) hn ((fA 166 11 (by omega) (by omega) (by omega) (by omega)).trans h11) (fun N2 P2 ra h24 h25 h26 h31 h32 g1 g2 hok2 herr2 => ⟨fun _ => ⟨fun q => absurd rfl q, fun _ => ?_⟩, fun q => absurd q (by decide)⟩)
    refine s12_readPlan (P := P) (N := N) (by omega) (by omega) ra ((g2 6 rfl (by omega)).trans ((fA 166 6 (by omega) (by omega) (by omega) (by omega)).trans w6)) ((g2 7 rfl (by omega)).trans ((fA 166 7 (by omega) (by omega) (by omega) (by omega)).trans w7)) (fun L2 N3 hp2 hL2 hR3 f3 => hok2 _ N3 (m1_ne (by omega)) ?_) (fun f e N3 hp2 he => by rw [hp] at hp2; cases hp2)
    have eL : L = L2 := Except.ok.inj (hp.symm.trans hp2)
    subst eL
    unfold NX12_text_69
    intro N4 e4
    refine ⟨fun _ => ⟨fun _ => ?_, fun q => absurd q (by decide)⟩, fun q => absurd q (m1_ne (by omega))⟩
    refine ⟨fun _ => ⟨fun q => absurd rfl q, fun _ => s12_takeP hL (fun Z z33 z3 zc zf => ⟨rfl, ?_⟩)⟩, fun q => absurd q (by decide)⟩
    have k4 : ∀ c i, ¬ (c = 166 ∧ i = 11) → N4 c i = N3 c i := fun c i h => by rw [e4, xu_ne _ _ h]
    have k3 : ∀ i, sc 166 i = false → ¬ i = 11 → ¬ i = 35 → ¬ i = 3 → Z 166 i = N2 166 i := fun i hs h1 h2 h3 => by rw [zf 166 i (by omega) (by omega), k4 166 i (by omega), f3 166 i (Or.inl hs)]
    have fZ : tx_z (fun c i => c = 183 ∨ (c = 166 ∧ (i = 35 ∨ i = 3))) A Z := tx_ref g1 g2 f3 e4 (fun c i h => zf c i (by omega) (by omega))
    refine tx_done (lo := 22) (hi := 26) hI (by omega) (by omega) fA fZ (fun c i q => by omega) ?_ ?_ ?_ ?_ ((k3 31 rfl (by omega) (by omega) (by omega)).trans h31) ((k3 32 rfl (by omega) (by omega) (by omega)).trans h32) (Or.inr ⟨z3, ?_⟩) (fun kv kc => ?_)
    · rw [hA 0 7 (by omega), a3 0 7 (by omega), f4.cfr 0 7 (by omega), f2 0 7 (by omega), xu_same]
    · rw [hA 139 10 (by omega), a3 139 10 (by omega), f4 139 10 (by omega), b10]
    · rw [hA 139 11 (by omega), a3 139 11 (by omega), f4 139 11 (by omega), b11]
    · rw [zf 166 11 (by omega) (by omega), e4, xu_same]
    · rw [fZ 77 1 (Or.inr (by omega)) (by omega) (by omega), eA]
      exact xu_same _ _ _ _
    · have l1 := kpL hI (fun c i hq hv => kv c i hv (by simp [pL] at hq; omega)) (fun c i h1 h2 => kc c i (by omega) (by omega) (by omega))
      have l2 := kpS hI (fun c i hq hv => kv c i hv (by simp [pS] at hq; omega)) (fun c i h1 h2 => kc c i (by omega) (by omega) (by omega))
      have l4 := kpT hI (fun c i hq hv => kv c i hv (by simp [pT] at hq; omega)) (fun c i h1 h2 => kc c i (by omega) (by omega) (by omega))
      have l5 := kpY hI (fun c i hq hv => kv c i hv (by simp [pY] at hq; omega)) (fun c i h1 h2 => kc c i (by omega) (by omega) (by omega))
      have hG := pAll_all (G := plG P N) (fun l i x j h => planP_G (fun i => tyV_num) l i x j h) 18 0 [] L (fun x hx => absurd hx (by simp)) hp
      have rows : ∀ l f, l < L.length → f < 4 → Z 183 (4 * l + f) = rw_ L l f := fun l f hl hf => by
        rw [zc (4 * l + f) (by omega), k4 183 _ (by omega), show 64 + (4 * l + f) = 64 + 4 * l + f by omega]
        exact hR3 l hl f hf
      refine ⟨?_, l1.1, l2.1, l4.1, l5.1, l1.2, l2.2, ⟨?_, fun l hl hl2 => ?_⟩, l4.2, l5.2⟩
      · intro P' N' g' wa' _
        have eP : P' = P := (nI_eq (by have := wa'.1.2.2.2.1; omega) (by omega)).mp (wa'.1.1.symm.trans w6)
        have eN : N' = N := (nI_eq (by have := wa'.1.2.2.2.2.1; omega) (by omega)).mp (wa'.1.2.1.symm.trans w7)
        subst eP eN
        refine ⟨L.length, hL, z33, fun l hl => ?_⟩
        obtain ⟨q1, q2, q3, q4⟩ := hG _ (getD_mem [] hl)
        exact ⟨(L.getD l []).getD 1 0, (L.getD l []).getD 2 0, q1, rows l 1 hl (by omega), rows l 2 hl (by omega), q3, fun w => ⟨(q4 w).1, (L.getD l []).getD 3 0, (q4 w).2.1, (q4 w).2.2, rows l 3 hl (by omega)⟩⟩
      · rw [fZ 22 4 (Or.inr (by omega)) (by omega) (by omega), hA 22 4 (by omega), a1, z33]
        exact hR4.1
      · rw [z33] at hl2
        have hl3 : l < L.length := (nI_ltI (by omega) (by omega)).mp hl2
        obtain ⟨r1, r2, r3, r4, r5⟩ := hR4.2 l hl3
        obtain ⟨q1, q2, q3, q4⟩ := hG _ (getD_mem [] hl3)
        have low : ∀ c, 23 ≤ c → c ≤ 26 → Z c l = A0 c l := fun c h1 h2 => by rw [fZ c l (Or.inr (by omega)) (by omega) (by omega), hA c l (by omega)]
        obtain ⟨s1, s2, s3, s4⟩ := a2 l hl
        show Z 23 l = _ ∧ Z 24 l = _ ∧ (_ → Z 26 l = _) ∧ (_ → Z 25 l = _) ∧ (_ → Z 26 l = _)
        rw [low 23 (by omega) (by omega), low 24 (by omega) (by omega), low 25 (by omega) (by omega), low 26 (by omega) (by omega), s1, s2, s3, s4, show Z 183 (4 * l) = rw_ L l 0 from rows l 0 hl3 (by omega), rows l 1 hl3 (by omega), rows l 2 hl3 (by omega), rows l 3 hl3 (by omega)]
        have inj : ∀ v, v < 100 → rw_ L l 1 = nI v → (L.getD l []).getD 1 0 = v := fun v hv e => (nI_eq (by omega) (by omega)).mp e
        refine ⟨r1, r2, fun w => r3 ?_, fun w => r4 ?_, fun w => r5 (inj 3 (by omega) w)⟩
        · rcases w with w | w
          · have := inj 0 (by omega) w; omega
          · have := inj 1 (by omega) w; omega
        · rcases w with w | w | w
          · have := inj 2 (by omega) w; omega
          · have := inj 3 (by omega) w; omega
          · have := inj 4 (by omega) w; omega
  · have cA := he.of f2
    have fA' : ∀ c i, (c < 139 ∨ 161 < c) → ¬ (c = 0 ∧ i = 7) → ¬ (12 ≤ c ∧ c ≤ 29) → ¬ (c = 77 ∧ i = 1) → M4 c i = M c i := fun c i h1 h2 _ _ => cfr_hi cA.2.2 c i h1 h2
    refine s12_textS (k := 2) (by omega) (BT_hi fA' hb) (IX_hi fA' hI.2.2.2.2.1) hn ((fA' 166 11 (by omega) (by omega) (by omega) (by omega)).trans h11) (fun N2 P2 ra h24 h25 h26 h31 h32 g1 g2 hok2 herr2 => ⟨fun _ => ⟨fun q => absurd rfl q, fun _ => ?_⟩, fun q => absurd q (by decide)⟩)
    refine s12_readPlan (P := P) (N := N) (by omega) (by omega) ra ((g2 6 rfl (by omega)).trans ((fA' 166 6 (by omega) (by omega) (by omega) (by omega)).trans w6)) ((g2 7 rfl (by omega)).trans ((fA' 166 7 (by omega) (by omega) (by omega) (by omega)).trans w7)) (fun L2 N3 hp2 hL2 hR3 f3 => by rw [hp] at hp2; cases hp2) (fun f' e' N3 hp2 he2 => herr2 f' e' N3 he2 (fun Z fZ z11 z31 z32 => ⟨rfl, ?_⟩))
    have ee : (f, e) = (f', e') := Except.error.inj (hp.symm.trans hp2)
    have e1 : f = f' := congrArg Prod.fst ee
    have e2 : e = e' := congrArg Prod.snd ee
    subst e1 e2
    exact tx_fault hI cA.2.2 fZ cA.1 cA.2.1 z11 z31 z32
