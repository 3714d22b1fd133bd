theorem br_n {c A B : Prop} (h : ¬ c) (a : A) : (¬ c → A) ∧ (c → B) := ⟨fun _ => a, fun q => absurd q h⟩
theorem br_p {c A B : Prop} (h : c) (b : B) : (¬ c → A) ∧ (c → B) := ⟨fun q => absurd h q, fun _ => b⟩
theorem told_ne {M : Mem} {c i : Nat} (h : ¬ (c = 166 ∧ i = 0)) : xu M 166 0 0 c i = M c i := xu_ne M 0 h
/-- from a pillar's number: within -/
theorem nI_idx {x : Int32} {P : Nat} (h0 : ¬ x < 0) (h1 : ¬ nI P ≤ x) (hP : P < 2 ^ 31) : ∃ k, k < P ∧ x = nI k := by
  obtain ⟨j, hj, rfl⟩ := nI_of h0
  exact ⟨j, by have := mt (nI_leI hP hj).mpr h1; omega, rfl⟩
theorem s9_isPillar {Q : Bool → Prop} {w : Nat} {x : Int32} {M : Mem} {P : Nat} (hP : M w 10 = nI P) (hP2 : P < 2 ^ 31) (hy : ∀ k, k < P → x = nI k → Q true) (hn : (∀ k, k < P → x ≠ nI k) → Q false) : FX9_isPillar Q w x M := by
  unfold FX9_isPillar
  rw [hP]
  refine ⟨fun h => hn (fun k hk e => ?_), fun h0 => ⟨fun h => hn (fun k hk e => ?_), fun h1 => ?_⟩⟩
  · rw [e] at h; exact nI_pos (by omega) h
  · rw [e] at h; exact nI_ge hk hP2 h
  · obtain ⟨k, hk, e⟩ := nI_idx h0 h1 hP2
    exact hy k hk e
theorem s12_isPillar {Q : Bool → Prop} {x : Int32} {M : Mem} {P : Nat} (hP : M 166 6 = nI P) (hP2 : P < 2 ^ 31) (hy : ∀ k, k < P → x = nI k → Q true) (hn : (∀ k, k < P → x ≠ nI k) → Q false) : FX12_isPillar Q 166 x M := by
  unfold FX12_isPillar
  rw [hP]
  refine ⟨fun h => hn (fun k hk e => ?_), fun h0 => ⟨fun h => hn (fun k hk e => ?_), fun h1 => ?_⟩⟩
  · rw [e] at h; exact nI_pos (by omega) h
  · rw [e] at h; exact nI_ge hk hP2 h
  · obtain ⟨k, hk, e⟩ := nI_idx h0 h1 hP2
    exact hy k hk e
theorem s9_isSaint {Q : Bool → Prop} {w : Nat} {x : Int32} {M : Mem} {P : Nat} (hP : M w 11 = nI P) (hP2 : P < 2 ^ 31) (hy : ∀ k, k < P → x = nI k → Q true) (hn : (∀ k, k < P → x ≠ nI k) → Q false) : FX9_isSaint Q w x M := by
  unfold FX9_isSaint
  rw [hP]
  refine ⟨fun h => hn (fun k hk e => ?_), fun h0 => ⟨fun h => hn (fun k hk e => ?_), fun h1 => ?_⟩⟩
  · rw [e] at h; exact nI_pos (by omega) h
  · rw [e] at h; exact nI_ge hk hP2 h
  · obtain ⟨k, hk, e⟩ := nI_idx h0 h1 hP2
    exact hy k hk e
theorem s12_isSaint {Q : Bool → Prop} {x : Int32} {M : Mem} {P : Nat} (hP : M 166 7 = nI P) (hP2 : P < 2 ^ 31) (hy : ∀ k, k < P → x = nI k → Q true) (hn : (∀ k, k < P → x ≠ nI k) → Q false) : FX12_isSaint Q 166 x M := by
  unfold FX12_isSaint
  rw [hP]
  refine ⟨fun h => hn (fun k hk e => ?_), fun h0 => ⟨fun h => hn (fun k hk e => ?_), fun h1 => ?_⟩⟩
  · rw [e] at h; exact nI_pos (by omega) h
  · rw [e] at h; exact nI_ge hk hP2 h
  · obtain ⟨k, hk, e⟩ := nI_idx h0 h1 hP2
    exact hy k hk e
theorem q_fault : lq_fault Inv := by
  intro M a1 hI
  have h1 : M 139 10 = M 166 31 := hI.2.2.2.1.2.1
  have h2 : M 139 11 = M 166 32 := hI.2.2.2.1.2.2
  unfold FX11_fault FX12_fault
  refine ⟨fun h0 => ⟨fun h3 => ?_, fun h3 => ?_⟩, fun h0 => ?_⟩ <;> (rintro M1 rfl)
  · exact br_n h0 (br_n h3 ⟨rfl, Inv_told hI 0⟩)
  · exact br_n h0 (br_p h3 ⟨by rw [told_ne (by decide)]; exact h2, Inv_told hI 0⟩)
  · exact br_p h0 ⟨by rw [told_ne (by decide)]; exact h1, Inv_told hI 0⟩
theorem ix83 {k : Nat} (h : k < 1000) : ix (83 + nI k) = 83 + k := ixa 83 (by omega)
theorem ix73 {k : Nat} (h : k < 1000) : ix (73 + nI k) = 73 + k := ixa 73 (by omega)
theorem ix63 {k : Nat} (h : k < 1000) : ix (63 + nI k) = 63 + k := ixa 63 (by omega)
theorem ix49 {k : Nat} (h : k < 1000) : ix (49 + nI k) = 49 + k := ixa 49 (by omega)
theorem ix35 {k : Nat} (h : k < 1000) : ix (35 + nI k) = 35 + k := ixa 35 (by omega)
theorem ix21 {k : Nat} (h : k < 1000) : ix (21 + nI k) = 21 + k := ixa 21 (by omega)
theorem ix7 {k : Nat} (h : k < 1000) : ix (7 + nI k) = 7 + k := ixa 7 (by omega)
theorem ix93 {k : Nat} (h : k < 1000) : ix (93 + nI k) = 93 + k := ixa 93 (by omega)
theorem vp83 {k : Nat} (h : k < 10) : vp_in (83 + nI k) 107 := vpa 83 (by omega) (by decide)
theorem vp73 {k : Nat} (h : k < 10) : vp_in (73 + nI k) 107 := vpa 73 (by omega) (by decide)
theorem vp63 {k : Nat} (h : k < 10) : vp_in (63 + nI k) 107 := vpa 63 (by omega) (by decide)
theorem vp49 {k : Nat} (h : k < 14) : vp_in (49 + nI k) 107 := vpa 49 (by omega) (by decide)
theorem vp35 {k : Nat} (h : k < 14) : vp_in (35 + nI k) 107 := vpa 35 (by omega) (by decide)
theorem vp21 {k : Nat} (h : k < 14) : vp_in (21 + nI k) 107 := vpa 21 (by omega) (by decide)
theorem vp7 {k : Nat} (h : k < 14) : vp_in (7 + nI k) 107 := vpa 7 (by omega) (by decide)
theorem vp93 {k : Nat} (h : k < 14) : vp_in (93 + nI k) 107 := vpa 93 (by omega) (by decide)
theorem s12_sitterOf {Q : Int32 → Prop} {k : Nat} {M : Mem} (hk : k < 10) (h : Q (M 167 (73 + k) - 1)) : FX12_sitterOf Q 166 (nI k) M := by
  unfold FX12_sitterOf
  refine ⟨vp73 hk, ?_⟩
  rw [ix73 (by omega)]
  exact h
theorem q_at : lq_at Inv := by
  intro M a1 a2 hI
  obtain ⟨P, N, g, ⟨⟨w1, w2, w3, w4, w5, w6⟩, -⟩, -, -⟩ := hI.1.1
  have cw : CW 2 M M := hI.2.1.1
  unfold FX11_at
  refine s9_isPillar (P := P) (by rw [← w1]; exact cw.1.1) (by omega) (fun k hk e => ?_) (fun hn => ⟨fun h => by (cases h), fun _ => ?_⟩)
  · subst e
    have hp := cw.2.2 k (by omega)
    have e1 : ix (nI k) = k := ixn (by omega)
    have key : ∀ Q : Int32 → Mem → Prop, (∀ M1, M1 = xu M 166 0 0 → ((¬ a2 = 0 → ((¬ a2 = 1 → ((¬ a2 = 2 → Q (-200) M1) ∧ (a2 = 2 → vp_in (83 + nI k) 107 ∧ ((¬ (M1 (166 + 1) (ix (83 + nI k))) = 0 → vp_in (83 + nI k) 107 ∧ Q ((M1 (166 + 1) (ix (83 + nI k))) - 100) M1) ∧ ((M1 (166 + 1) (ix (83 + nI k))) = 0 → Q (-100) M1))))) ∧ (a2 = 1 → FX12_sitterOf (fun (r3 : Int32) => Q r3 M1) 166 (nI k) M1))) ∧ (a2 = 0 → vp_in (63 + nI k) 107 ∧ Q (M1 (166 + 1) (ix (63 + nI k))) M1))) → FX12_at Q 166 (nI k) a2 M := by
      intro Q hq
      unfold FX12_at
      rintro M1 rfl
      refine s12_isPillar (P := P) (by rw [told_ne (by decide)]; exact w1) (by omega) (fun _ _ _ => ⟨fun _ => hq _ rfl, fun h => by (cases h)⟩) (fun hn => absurd rfl (hn k hk))
    refine ⟨fun _ => ⟨fun h0 => ?_, fun h1 => ?_, fun h2 => ?_, fun h0 h1 h2 => ?_⟩, fun h => by (cases h)⟩
    · refine ⟨vp_in_nI (by omega) (by decide), key _ ?_⟩
      rintro M1 rfl
      refine br_p h0 ⟨vp63 (by omega), ?_, Inv_told hI 0⟩
      rw [ix63 (by omega), told_ne (by omega), e1]
      exact hp.1
    · refine ⟨vp_in_nI (by omega) (by decide), key _ ?_⟩
      rintro M1 rfl
      refine br_n (by rw [h1]; decide) (br_p h1 (s12_sitterOf (by omega) ⟨?_, Inv_told hI 0⟩))
      rw [told_ne (by omega), e1]
      exact hp.2.1
    · refine ⟨vp_in_nI (by omega) (by decide), key _ ?_⟩
      rintro M1 rfl
      refine br_n (by rw [h2]; decide) (br_n (by rw [h2]; decide) (br_p h2 ⟨vp83 (by omega), ?_⟩))
      rw [ix83 (by omega), told_ne (by omega)]
      refine ⟨fun _ => ⟨vp83 (by omega), ?_, Inv_told hI 0⟩, fun hz => ⟨?_, Inv_told hI 0⟩⟩
      · rw [e1]; exact hp.2.2
      · rw [e1]
        refine hp.2.2.trans ?_
        show M (166 + 1) (83 + k) - 100 = _
        rw [hz]; decide
    · refine key _ ?_
      rintro M1 rfl
      exact br_n h0 (br_n h1 (br_n h2 ⟨rfl, Inv_told hI 0⟩))
  · unfold FX12_at
    rintro M1 rfl
    exact s12_isPillar (P := P) (by rw [told_ne (by decide)]; exact w1) (by omega) (fun k hk e => absurd e (hn k hk)) (fun _ => ⟨fun h => by (cases h), fun _ => ⟨rfl, Inv_told hI 0⟩⟩)
