/-! the reference reads the tenets -/
theorem pos_ge {b : Nat → Nat} {n : Nat} : ∀ k, pos b n k < n → k ≤ pos b n k
  | 0, _ => Nat.zero_le _
  | k + 1, h => by
    have h1 := pos_st (b := b) (n := n) (k := k)
    have h2 := pos_le (b := b) (n := n) k
    by_cases e : pos b n k = n
    · have := h1.2.2 e
      omega
    · have h0 : pos b n k < n := by omega
      have h3 := pos_ge (b := b) (n := n) k h0
      have h4 := h1.2.1 (by omega)
      omega
theorem ty_lt {b : Nat → Nat} {n i : Nat} (h : ¬ tyT b n i = 0) : i < n := by
  have h1 := pos_le (b := b) (n := n) i
  have h2 : ¬ pos b n i = n := fun w => h ((pcT_0 h1).mpr w)
  have := pos_ge (b := b) (n := n) i (by omega)
  omega
theorem sc184 {i : Nat} (h : 32 ≤ i) : sc 184 i = true := by
  simp [sc, vr]
  omega
theorem RErr.put {b : Nat → Nat} {n f e : Nat} {N M2 : Mem} (he : RErr b n f e N M2) {c t : Nat} (v : Int32) (h3 : sc c t = true) (h4 : 166 < c) : RErr b n f e N (xu M2 c t v) :=
  ⟨by rw [xu_ne _ _ (by omega)]; exact he.1, by rw [xu_ne _ _ (by omega)]; exact he.2.1, he.2.2.trans (xu_rf _ h3 (by omega))⟩
/-- only the draft row l of the tenets has changed -/
def tnF (l : Nat) (M M2 : Mem) : Prop := ∀ c i, ¬ rdp c i → ¬ (c = 184 ∧ (i = 32 + 2 * l ∨ i = 33 + 2 * l)) → M2 c i = M c i
theorem s12_readTenet {b : Nat → Nat} {n i l : Nat} {M : Mem} {Q : Int32 → Mem → Prop} (ra : RA b n i M) (hl : l < 16) (h3 : tyT b n i = 3) (h1 : ∀ g v j M2, tenF (tyT b n) (tyV b n) (tenG (tyT b n) (tyV b n) 402 i 0) = .ok ([g, v], j) → RA b n j M2 → rfr M M2 → tnF l M M2 → M2 184 (32 + 2 * l) = nI g → M2 184 (33 + 2 * l) = nI v → Q 0 M2) (h2 : ∀ f e M2, tenF (tyT b n) (tyV b n) (tenG (tyT b n) (tyV b n) 402 i 0) = .error (f, e) → RErr b n f e M M2 → Q (-1) M2) : FX12_readTenet Q 166 (nI (32 + 2 * l)) M := by
  unfold FX12_readTenet NX12_readTenet_4
  have hi := ty_lt (b := b) (n := n) (i := i) (by rw [h3]; decide)
  have hn := ra.n4
  have v1 : vp_in (nI (32 + 2 * l)) 64 := vp_in_nI (by omega) (by omega)
  have v2 : vp_in (nI (33 + 2 * l)) 64 := vp_in_nI (by omega) (by omega)
  have e33 : nI (32 + 2 * l) + 1 = nI (33 + 2 * l) := by rw [nI_1, show 32 + 2 * l + 1 = 33 + 2 * l by omega]
  have fin : ∀ (B : Int32 × Int32 × Mem → Prop) (i' g' : Nat) (N : Mem), g' < 65536 → RA b n i' N → rs1 M N → tenG (tyT b n) (tyV b n) 402 i 0 = .ok (g', i') → lbX12_readTenet_4 Q 166 (nI (32 + 2 * l)) (fun l2 l3 M => B (l2, l3, M)) (nI g') 0 N := by
    intro B i' g' N hg' ra' hf hp
    unfold lbX12_readTenet_4
    rw [e33, ixn (show 32 + 2 * l < 2 ^ 31 by omega), ixn (show 33 + 2 * l < 2 ^ 31 by omega)]
    refine ⟨fun _ => ⟨v1, ?_⟩, fun w => absurd rfl w⟩
    rintro M1 rfl
    have hp' : tenF (tyT b n) (tyV b n) (tenG (tyT b n) (tyV b n) 402 i 0) = tenE (tyT b n) (tyV b n) g' i' := by rw [hp]; rfl
    rw [hp'] at h1 h2
    have ra1 := ra'.put (nI g') (sc184 (show 32 ≤ 32 + 2 * l by omega)) (by omega)
    have f1 : rfr M (xu N 184 (32 + 2 * l) (nI g')) := hf.rfr.trans (xu_rf _ (sc184 (by omega)) (by omega))
    have bad : ∀ f e M2, tenE (tyT b n) (tyV b n) g' i' = .error (f, e) → RErr b n f e (xu N 184 (32 + 2 * l) (nI g')) M2 → ∀ M4, M4 = xu M2 184 (33 + 2 * l) (-1) → M4 184 (33 + 2 * l) = -1 ∧ Q (-1) M4 := by
      rintro f e M2 e1 he M4 rfl
      exact ⟨xu_same _ _ _ _, h2 f e _ e1 ((he.of f1).put _ (sc184 (by omega)) (by omega))⟩
    refine s12_readTold (g := 23) (lo := 0) (hi := 15) ra1 (by omega) (by omega) (by omega) (fun q1 M2 he => ?_) (fun q1 q3 _ q4 M2 ra2 f2 => ?_) (fun q1 q3 M2 he => ?_) (fun q1 q3 q4 M2 he => ?_)
    · refine ⟨v2, fun M4 e4 => ⟨v2, ?_⟩⟩
      have := bad 1 i' M2 (by unfold tenE; rw [if_neg q1]) he M4 e4
      exact ⟨fun w => absurd this.1 w, fun _ => this.2⟩
    rotate_left
    · refine ⟨v2, fun M4 e4 => ⟨v2, ?_⟩⟩
      have := bad 1 (i' + 1) M2 (by unfold tenE; rw [if_pos q1, if_neg q3]) he M4 e4
      exact ⟨fun w => absurd this.1 w, fun _ => this.2⟩
    · refine ⟨v2, fun M4 e4 => ⟨v2, ?_⟩⟩
      have := bad 2 (i' + 1) M2 (by unfold tenE; rw [if_pos q1, if_pos q3, if_neg q4]) he M4 e4
      exact ⟨fun w => absurd this.1 w, fun _ => this.2⟩
    refine ⟨v2, ?_⟩
    rintro M4 rfl
    have hv := tyV_num q3
    refine ⟨v2, fun _ => ?_, fun w => absurd ((xu_same M2 184 _ _).symm.trans w) (m1_ne (by omega))⟩
    have ra4 := ra2.put (nI (tyV b n (i' + 1))) (sc184 (show 32 ≤ 33 + 2 * l by omega)) (by omega)
    have f4 : rfr M (xu M2 184 (33 + 2 * l) (nI (tyV b n (i' + 1)))) := (f1.trans f2.rfr).trans (xu_rf _ (sc184 (by omega)) (by omega))
    refine s12_readMark (g := 59) ra4 (by omega) (fun q8 M5 ra5 f5 => ?_) (fun q8 M5 he => h2 1 (i' + 2) M5 (by unfold tenE; rw [if_pos q1, if_pos q3, if_pos ⟨Nat.zero_le _, q4⟩, if_neg q8]) (he.of f4))
    refine h1 g' (tyV b n (i' + 1)) (i' + 3) M5 (by unfold tenE; rw [if_pos q1, if_pos q3, if_pos ⟨Nat.zero_le _, q4⟩, if_pos q8]) ra5 (f4.trans f5.rfr) (fun c t hc hc2 => ?_) ?_ ?_
    · rw [f5 c t hc, xu_ne _ _ (fun w => hc2 ⟨w.1, Or.inr w.2⟩), f2 c t hc, xu_ne _ _ (fun w => hc2 ⟨w.1, Or.inl w.2⟩), hf c t hc]
    · rw [f5 184 _ (fun w => by have := w.1; omega), xu_at _ _ _ (by omega), f2 184 _ (fun w => by have := w.1; omega), xu_same]
    · rw [f5 184 _ (fun w => by have := w.1; omega), xu_same]
  refine xlp_for (fun r (a : Int32 × Int32 × Mem) => ∃ i' g', a.1 = nI g' ∧ g' < 65536 ∧ RA b n i' a.2.2 ∧ rs1 M a.2.2 ∧ ((a.2.1 = 1 ∧ i' ≤ 401 ∧ 2 * (402 - r) ≤ i' ∧ tenG (tyT b n) (tyV b n) r i' g' = tenG (tyT b n) (tyV b n) 402 i 0) ∨ (a.2.1 = 0 ∧ tenG (tyT b n) (tyV b n) 402 i 0 = .ok (g', i')))) ?_ ?_ 402 _ ⟨i, 0, rfl, by omega, ra, fun _ _ _ => rfl, Or.inl ⟨rfl, by omega, by omega, rfl⟩⟩
  · rintro ⟨a1, a2, N⟩ B ⟨i', g', e1, hg', ra', hf, ⟨-, h5, h6, -⟩ | ⟨e2, hp⟩⟩
    · omega
    · have e1' : a1 = nI g' := e1
      have e2' : a2 = 0 := e2
      subst e1' e2'
      exact fin B i' g' N hg' ra' hf hp
  · rintro r ⟨a1, a2, N⟩ B ⟨i', g', e1, hg', ra', hf, ⟨e2, h5, h6, hp⟩ | ⟨e2, hp⟩⟩ hB
    rotate_left
    · have e1' : a1 = nI g' := e1
      have e2' : a2 = 0 := e2
      subst e1' e2'
      exact fin B i' g' N hg' ra' hf hp
    have e1' : a1 = nI g' := e1
    have e2' : a2 = 1 := e2
    subst e1' e2'
    replace ra' : RA b n i' N := ra'
    replace hf : rs1 M N := hf
    show lbX12_readTenet_4 Q 166 (nI (32 + 2 * l)) (fun l2 l3 M => B (l2, l3, M)) (nI g') 1 N
    unfold lbX12_readTenet_4
    refine ⟨fun w => absurd w (by decide), fun _ => ?_⟩
    refine s12_readNumber (lo := 0) (hi := 15) ra' (by omega) (by omega) (fun q3 _ q4 M4 ra4 f4 => ⟨fun _ => ?_, fun w => absurd w (m1_ne (by omega))⟩) (fun q M2 he => ⟨fun w => absurd rfl w, fun _ => h2 1 i' M2 (by rw [← hp, tenG_1 q]; rfl) (he.of hf.rfr)⟩) (fun q3 q M2 he => ⟨fun w => absurd rfl w, fun _ => h2 2 i' M2 (by rw [← hp, tenG_2 q3 q]; rfl) (he.of hf.rfr)⟩)
    rintro y rfl
    rw [sh1 _ (by omega), nI_or]
    have hk := (tenG_k (r := r) (g := g') q3 q4).symm.trans hp
    refine s12_isWord (g := 5) ra4 (by omega) (fun q => ⟨fun w => absurd w (by decide), fun _ => ?_⟩) (fun q => ⟨fun _ => ?_, fun w => absurd rfl w⟩)
    · refine s12_next ra4 (fun M6 ra6 f6 => ?_)
      have := ty_lt (b := b) (n := n) (i := i' + 1) (by rw [q.1]; decide)
      exact hB _ ⟨i' + 1 + 1, g' ||| 2 ^ tyV b n i', rfl, or_16 hg' q4, ra6, (hf.trans f4).trans f6, Or.inl ⟨rfl, by omega, by omega, by rw [← hk]; exact (if_pos q).symm⟩⟩
    · exact hB _ ⟨i' + 1, g' ||| 2 ^ tyV b n i', rfl, or_16 hg' q4, ra4, hf.trans f4, Or.inr ⟨rfl, by rw [← hk]; exact if_neg q⟩⟩
