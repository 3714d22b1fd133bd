def vSet (M : Mem) (N : Nat) (a b v : Int32) : Prop := (a = 4 ∧ 0 ≤ v ∧ v ≤ 9) ∨ ((∃ k, k < N ∧ b = nI k) ∧ ((a = 0 ∧ 0 ≤ v ∧ v ≤ 120) ∨ (a = 1 ∧ 0 ≤ v ∧ v ≤ 9) ∨ (a = 2 ∧ -99 ≤ v ∧ v ≤ 99) ∨ (a = 3 ∧ 0 ≤ v ∧ v ≤ 99)))
theorem s12_canSet {Q : Bool → Prop} {M : Mem} {N : Nat} {a b v : Int32} (hN : M 166 7 = nI N) (h14 : N ≤ 14) (hy : vSet M N a b v → Q true) (hn : ¬ vSet M N a b v → Q false) : FX12_canSet Q 166 a b v M := by
  unfold FX12_canSet NX12_canSet_87
  unfold vSet at hy hn
  have ns : (∀ k, k < N → b ≠ nI k) → a ≠ 4 → Q false := fun h h4 => hn (by
    rintro (q | ⟨⟨k, q1, q2⟩, -⟩)
    · exact h4 q.1
    · exact h k q1 q2)
  refine ⟨fun h4 => ⟨fun h2 => s12_isIn ⟨fun h => ?_, fun h => s12_isSaint hN (by omega) (fun k hk e => ⟨fun h => (by cases h), fun _ => ⟨fun h0 => ⟨fun h1 => s12_isIn ?_, fun h1 => s12_isIn ?_⟩, fun h0 => s12_isIn ?_⟩⟩) (fun q => ⟨fun _ => ns q h4, fun h => (by cases h)⟩)⟩, fun h2 => s12_isSaint hN (by omega) (fun k hk e => ⟨fun h => (by cases h), fun _ => s12_isIn ?_⟩) (fun q => ⟨fun _ => ns q h4, fun h => (by cases h)⟩)⟩, fun h4 => s12_isIn ?_⟩
  · refine hn (fun q => ?_)
    have h := of_decide_eq_false h
    rcases q with q | ⟨-, q | q | q | q⟩
    · exact h4 q.1
    · exact h (by rw [q.1]; decide)
    · exact h (by rw [q.1]; decide)
    · exact h (by rw [q.1]; decide)
    · exact h (by rw [q.1]; decide)
  · have h3 : a = 3 := by
      have h := of_decide_eq_true h
      obtain ⟨j, hj, rfl⟩ := nI_le_of (k := 3) (Int32.not_lt.mpr h.1) (Int32.not_lt.mpr h.2) (by decide)
      rcases (show j = 0 ∨ j = 1 ∨ j = 2 ∨ j = 3 by omega) with rfl | rfl | rfl | rfl
      · exact absurd rfl h0
      · exact absurd rfl h1
      · exact absurd rfl h2
      · rfl
    subst h3
    refine ⟨fun q => hn (fun z => of_decide_eq_false q ?_), fun q => hy (Or.inr ⟨⟨k, hk, e⟩, Or.inr (Or.inr (Or.inr ⟨rfl, of_decide_eq_true q⟩))⟩)⟩
    rcases z with z | ⟨-, z | z | z | z⟩
    · exact absurd z.1 (by decide)
    · exact absurd z.1 (by decide)
    · exact absurd z.1 (by decide)
    · exact absurd z.1 (by decide)
    · exact z.2
  · subst h1
    refine ⟨fun q => hn (fun z => of_decide_eq_false q ?_), fun q => hy (Or.inr ⟨⟨k, hk, e⟩, Or.inr (Or.inl ⟨rfl, of_decide_eq_true q⟩)⟩)⟩
    rcases z with z | ⟨-, z | z | z | z⟩
    · exact absurd z.1 (by decide)
    · exact absurd z.1 (by decide)
    · exact z.2
    · exact absurd z.1 (by decide)
    · exact absurd z.1 (by decide)
  · subst h0
    refine ⟨fun q => hn (fun z => of_decide_eq_false q ?_), fun q => hy (Or.inr ⟨⟨k, hk, e⟩, Or.inl ⟨rfl, of_decide_eq_true q⟩⟩)⟩
    rcases z with z | ⟨-, z | z | z | z⟩
    · exact absurd z.1 (by decide)
    · exact z.2
    · exact absurd z.1 (by decide)
    · exact absurd z.1 (by decide)
    · exact absurd z.1 (by decide)
  · subst h2
    refine ⟨fun q => hn (fun z => of_decide_eq_false q ?_), fun q => hy (Or.inr ⟨⟨k, hk, e⟩, Or.inr (Or.inr (Or.inl ⟨rfl, of_decide_eq_true q⟩))⟩)⟩
    rcases z with z | ⟨-, z | z | z | z⟩
    · exact absurd z.1 (by decide)
    · exact absurd z.1 (by decide)
    · exact absurd z.1 (by decide)
    · exact z.2
    · exact absurd z.1 (by decide)
  · subst h4
    by_cases q : 0 ≤ v ∧ v ≤ 9
    · rw [decide_eq_true q]; exact hy (Or.inl ⟨rfl, q⟩)
    · rw [decide_eq_false q]
      refine hn (fun z => ?_)
      rcases z with z | ⟨-, z | z | z | z⟩
      · exact q z.2
      · exact absurd z.1 (by decide)
      · exact absurd z.1 (by decide)
      · exact absurd z.1 (by decide)
      · exact absurd z.1 (by decide)
theorem WW_free {V : Mem} {P N : Nat} (h : WW V P N) {c j : Nat} {v : Int32} (hc : ¬ (c = 166 ∧ (j = 6 ∨ j = 7))) (hj : ¬ (c = 167 ∧ wfr j = true)) : WW (xu V c j v) P N := by
  obtain ⟨g, ha, hb⟩ := h
  have e : ∀ i, wfr i = true → xu V c j v 167 i = V 167 i := fun i hi => xu_ne _ _ (fun q => hj ⟨q.1.symm, q.2 ▸ hi⟩)
  exact ⟨g, WFa_congr2 (xu_ne _ _ (by omega)) (xu_ne _ _ (by omega)) e ha, WFb_congr2 ha.1.2.2.2.1 ha.1.2.2.2.2.1 ha.1.2.2.2.2.2 e hb⟩
theorem WW_doc {V : Mem} {P N : Nat} (h : WW V P N) {t : Nat} {v : Int32} (ht : t < 14) (hv : -99 ≤ v ∧ v ≤ 99) : WW (xu V 167 (21 + t) v) P N := by
  obtain ⟨g, ⟨⟨a1, a2, a3, a4, a5, a6⟩, b, c1, c2, c3, c4, c5, c6, c7⟩, hb⟩ := h
  have r : ∀ j, j ≠ 21 + t → xu V 167 (21 + t) v 167 j = V 167 j := fun j hj => xu_ne _ _ (by omega)
  refine ⟨g, ⟨⟨a1, a2, by rw [r _ (by omega)]; exact a3, a4, a5, a6⟩, by rw [r _ (by omega)]; exact b, fun p hp => by rw [r _ (by omega)]; exact c1 p hp, fun p hp => by rw [r _ (by omega)]; exact c2 p hp, fun p hp => by rw [r _ (by omega)]; exact c3 p hp, fun p hp => ?_, fun p hp => by rw [r _ (by omega)]; exact c5 p hp, fun p hp hp2 => by rw [r _ (by omega)]; exact c6 p hp hp2, fun hp => by rw [r _ (by omega)]; exact c7 hp⟩, WB_iff.mpr (WB_congr (fun p hp => r _ (by omega)) (fun k hk => r _ (by omega)) (fun k hk => r _ (by omega)) (WB_iff.mp hb))⟩
  by_cases e : p = t
  · subst e; rw [xu_same]; exact ⟨Int32.le_iff_toInt_le.mp hv.1, Int32.le_iff_toInt_le.mp hv.2⟩
  · rw [r _ (by omega)]; exact c4 p hp
theorem WW_tall {V : Mem} {P N : Nat} (h : WW V P N) {t a : Nat} (ht : t < 10) (hv : 1 ≤ a ∧ a ≤ 99) : WW (xu V 167 (63 + t) (nI a)) P N := by
  obtain ⟨g, ⟨⟨a1, a2, a3, a4, a5, a6⟩, b, c1, c2, c3, c4, c5, c6, c7⟩, hb⟩ := h
  have r : ∀ j, j ≠ 63 + t → xu V 167 (63 + t) (nI a) 167 j = V 167 j := fun j hj => xu_ne _ _ (by omega)
  refine ⟨g, ⟨⟨a1, a2, by rw [r _ (by omega)]; exact a3, a4, a5, a6⟩, by rw [r _ (by omega)]; exact b, fun p hp => by rw [r _ (by omega)]; exact c1 p hp, fun p hp => ?_, fun p hp => by rw [r _ (by omega)]; exact c3 p hp, fun p hp => by rw [r _ (by omega)]; exact c4 p hp, fun p hp => by rw [r _ (by omega)]; exact c5 p hp, fun p hp hp2 => by rw [r _ (by omega)]; exact c6 p hp hp2, fun hp => by rw [r _ (by omega)]; exact c7 hp⟩, WB_iff.mpr (WB_congr (fun p hp => r _ (by omega)) (fun k hk => r _ (by omega)) (fun k hk => r _ (by omega)) (WB_iff.mp hb))⟩
  by_cases e : p = t
  · subst e; rw [xu_same]; exact ⟨a, hv.1, hv.2, rfl⟩
  · rw [r _ (by omega)]; exact c2 p hp
theorem s9_change {Q : Bool → Mem → Prop} {w : Nat} {M : Mem} {N : Nat} {a b v : Int32} (hN : M w 11 = nI N) (h14 : N ≤ 14) (h4 : a = 4 → 0 ≤ v ∧ v ≤ 9 → Q true (xu M w 14 v)) (h0 : a = 0 → ∀ k, k < N → b = nI k → 0 ≤ v ∧ v ≤ 120 → Q true (xu M (w + 4) k v)) (h1 : a = 1 → ∀ k, k < N → b = nI k → 0 ≤ v ∧ v ≤ 9 → Q true (xu M (w + 5) k v)) (h2 : a = 2 → ∀ k, k < N → b = nI k → -99 ≤ v ∧ v ≤ 99 → Q true (xu M (w + 6) k v)) (h3 : a = 3 → ∀ k, k < N → b = nI k → 0 ≤ v ∧ v ≤ 99 → Q true (xu M (w + 7) k v)) (hn : ¬ vSet M N a b v → Q false M) : FX9_change Q w a b v M := by
  unfold FX9_change
  unfold vSet at hn
  refine ⟨fun n4 => s9_isSaint hN (by omega) (fun k hk e => ⟨fun _ => ?_, fun h => (by cases h)⟩) (fun q => ⟨fun h => (by cases h), fun _ => hn ?_⟩), fun e4 => s11_within ⟨fun q => ?_, fun q => hn ?_⟩⟩
  · have r3 : a ≠ 0 ∨ ¬ (0 ≤ v ∧ v ≤ 120) → a ≠ 1 ∨ ¬ (0 ≤ v ∧ v ≤ 9) → a ≠ 2 ∨ ¬ (-99 ≤ v ∧ v ≤ 99) → NX9_change_109 Q w a b v M := by
      intro z0 z1 z2
      have z : a ≠ 3 ∨ ¬ (0 ≤ v ∧ v ≤ 99) → Q false M := by
        intro z3
        refine hn ?_
        rintro (⟨q, -⟩ | ⟨-, q | q | q | q⟩)
        · exact n4 q
        · exact z0.elim (fun z => z q.1) (fun z => z q.2)
        · exact z1.elim (fun z => z q.1) (fun z => z q.2)
        · exact z2.elim (fun z => z q.1) (fun z => z q.2)
        · exact z3.elim (fun z => z q.1) (fun z => z q.2)
      unfold NX9_change_109
      refine ⟨fun q => z (Or.inl q), fun q => s11_within ⟨fun q2 => z (Or.inr (of_decide_eq_false q2)), fun q2 => ⟨by rw [e]; exact vp_in_nI (by omega) (by decide), ?_⟩⟩⟩
      rintro M2 rfl
      rw [e, ixn (by omega)]
      exact h3 q k hk e (of_decide_eq_true q2)
    have r2 : a ≠ 0 ∨ ¬ (0 ≤ v ∧ v ≤ 120) → a ≠ 1 ∨ ¬ (0 ≤ v ∧ v ≤ 9) → NX9_change_83 Q w a b v M := by
      intro z0 z1
      unfold NX9_change_83
      refine ⟨fun q => r3 z0 z1 (Or.inl q), fun q => s11_within ⟨fun q2 => r3 z0 z1 (Or.inr (of_decide_eq_false q2)), fun q2 => ⟨by rw [e]; exact vp_in_nI (by omega) (by decide), ?_⟩⟩⟩
      rintro M2 rfl
      rw [e, ixn (by omega)]
      exact h2 q k hk e (of_decide_eq_true q2)
    have r1 : a ≠ 0 ∨ ¬ (0 ≤ v ∧ v ≤ 120) → NX9_change_58 Q w a b v M := by
      intro z0
      unfold NX9_change_58
      refine ⟨fun q => r2 z0 (Or.inl q), fun q => s11_within ⟨fun q2 => r2 z0 (Or.inr (of_decide_eq_false q2)), fun q2 => ⟨by rw [e]; exact vp_in_nI (by omega) (by decide), ?_⟩⟩⟩
      rintro M2 rfl
      rw [e, ixn (by omega)]
      exact h1 q k hk e (of_decide_eq_true q2)
    refine ⟨fun q => r1 (Or.inl q), fun q => s11_within ⟨fun q2 => r1 (Or.inr (of_decide_eq_false q2)), fun q2 => ⟨by rw [e]; exact vp_in_nI (by omega) (by decide), ?_⟩⟩⟩
    rintro M2 rfl
    rw [e, ixn (by omega)]
    exact h0 q k hk e (of_decide_eq_true q2)
  · rintro (⟨q1, -⟩ | ⟨⟨k, q1, q2⟩, -⟩)
    · exact n4 q1
    · exact q k q1 q2
  · rintro M2 rfl
    exact h4 e4 (of_decide_eq_true q)
  · rintro (⟨-, q1⟩ | ⟨-, q1 | q1 | q1 | q1⟩)
    · exact of_decide_eq_false q q1
    · rw [e4] at q1; exact absurd q1.1 (by decide)
    · rw [e4] at q1; exact absurd q1.1 (by decide)
    · rw [e4] at q1; exact absurd q1.1 (by decide)
    · rw [e4] at q1; exact absurd q1.1 (by decide)
theorem s12_set {Q : Bool → Mem → Prop} {M : Mem} {N : Nat} {a b v : Int32} (hN : M 166 7 = nI N) (h14 : N ≤ 14) (hv : vSet M N a b v) (h4 : a = 4 → Q true (xu (xu (xu M 166 0 0) 167 5 v) 166 3 0)) (h0 : a = 0 → ∀ k, k < N → b = nI k → Q true (xu (xu (xu M 166 0 0) 167 (7 + k) v) 166 3 0)) (h1 : a = 1 → ∀ k, k < N → b = nI k → Q true (xu (xu (xu M 166 0 0) 170 k v) 166 3 0)) (h2 : a = 2 → ∀ k, k < N → b = nI k → Q true (xu (xu (xu M 166 0 0) 167 (21 + k) v) 166 3 0)) (h3 : a = 3 → ∀ k, k < N → b = nI k → Q true (xu (xu (xu M 166 0 0) 167 (35 + k) v) 166 3 0)) : FX12_set Q 166 a b v M := by
  unfold FX12_set
  rintro M1 rfl
  refine s12_canSet (N := N) (by rw [told_ne (by decide)]; exact hN) h14 (fun _ => ⟨fun _ => ?_, fun h => (by cases h)⟩) (fun q => absurd hv q)
  unfold NX12_set_31 NX12_set_43 NX12_set_58 NX12_set_73 NX12_set_85
  rcases hv with ⟨e, -⟩ | ⟨⟨k, hk, eb⟩, ⟨e, -⟩ | ⟨e, -⟩ | ⟨e, -⟩ | ⟨e, -⟩⟩
  · have := h4 e
    subst e
    refine ⟨fun _ => ⟨fun _ => ⟨fun _ => ⟨fun _ => ⟨fun h => absurd rfl h, fun _ => ?_⟩, fun h => absurd h (by decide)⟩, fun h => absurd h (by decide)⟩, fun h => absurd h (by decide)⟩, fun h => absurd h (by decide)⟩
    rintro M2 rfl M3 rfl; exact this
  · have := h0 e k hk eb
    subst e eb
    refine ⟨fun h => absurd rfl h, fun _ => ⟨vp7 (by omega), ?_⟩⟩
    rintro M2 rfl
    rw [ix7 (by omega)]
    refine ⟨fun _ => ⟨fun _ => ⟨fun _ => ⟨fun _ => ?_, fun h => absurd h (by decide)⟩, fun h => absurd h (by decide)⟩, fun h => absurd h (by decide)⟩, fun h => absurd h (by decide)⟩
    rintro M3 rfl; exact this
  · have := h1 e k hk eb
    subst e eb
    refine ⟨fun _ => ⟨fun h => absurd rfl h, fun _ => ⟨vp_in_nI (by omega) (by decide), ?_⟩⟩, fun h => absurd h (by decide)⟩
    rintro M2 rfl
    rw [ixn (by omega)]
    refine ⟨fun _ => ⟨fun _ => ⟨fun _ => ?_, fun h => absurd h (by decide)⟩, fun h => absurd h (by decide)⟩, fun h => absurd h (by decide)⟩
    rintro M3 rfl; exact this
  · have := h2 e k hk eb
    subst e eb
    refine ⟨fun _ => ⟨fun _ => ⟨fun h => absurd rfl h, fun _ => ⟨vp21 (by omega), ?_⟩⟩, fun h => absurd h (by decide)⟩, fun h => absurd h (by decide)⟩
    rintro M2 rfl
    rw [ix21 (by omega)]
    refine ⟨fun _ => ⟨fun _ => ?_, fun h => absurd h (by decide)⟩, fun h => absurd h (by decide)⟩
    rintro M3 rfl; exact this
  · have := h3 e k hk eb
    subst e eb
    refine ⟨fun _ => ⟨fun _ => ⟨fun _ => ⟨fun h => absurd rfl h, fun _ => ⟨vp35 (by omega), ?_⟩⟩, fun h => absurd h (by decide)⟩, fun h => absurd h (by decide)⟩, fun h => absurd h (by decide)⟩
    rintro M2 rfl
    rw [ix35 (by omega)]
    refine ⟨fun _ => ?_, fun h => absurd h (by decide)⟩
    rintro M3 rfl; exact this
theorem q_set : lq_set Inv := by
  intro M a b v hI
  obtain ⟨P, N, wv, wpv, wm, wpm, -, wz⟩ := WW_now hI
  have cb := CB_now hI
  have w1 : M 166 7 = nI N := by obtain ⟨g, ha, -⟩ := wm; exact ha.1.2.1
  have h14 : N ≤ 14 := by obtain ⟨g, ha, -⟩ := wm; exact ha.1.2.2.2.2.1
  have hN : M 2 11 = nI N := by rw [← w1]; exact hI.2.1.1.1.2.1
  have fin : ∀ (d i : Nat), wdom d i = true → lcK d = 0 → 0 < d ∨ i = 14 → WW (xu (xu M 166 0 0) (lcC d i) (lcJ d i) v) P N → Inv (xu (xu (xu (xu (xu M (2 + d) i v) 77 1 0) 166 0 0) (lcC d i) (lcJ d i) v) 166 3 0) := by
    intro d i h1 h2 h3 h4
    have hd : d ≤ 8 := by simp only [wdom] at h1; grind
    have hge := lc_ge (d := d) (i := i)
    have hne : lcC d i = 167 ∨ lcC d i = 170 := by
      simp only [lcC]
      rcases h3 with h3 | h3
      · rw [if_neg (by omega)]; split <;> simp
      · subst h3; split
        · simp
        · split <;> simp
    refine Inv_forget (M6 := xu (xu M (2 + d) i v) 77 1 0) (V := xu (xu M 166 0 0) (lcC d i) (lcJ d i) v) hI (CB_fr (CB_up (d := d) (i := i) (v := v) cb h1 (by rw [h2]; exact sub0 _)) (fun c j q1 q2 => xu_ne _ _ (by omega))) (fun c j q1 q2 => ?_) (fun c j q1 q2 q3 => ?_) (fun c j q => ?_) (fun c j q1 q2 q3 q4 q5 => ?_) h4 wpm (fun p hp e => ?_)
    · simp only [xu_if]
      rw [if_neg (show ¬ (c = 2 + d ∧ j = i) by omega)]
    · simp only [xu_if]
      rw [if_neg (show ¬ (c = 77 ∧ j = 1) by omega), if_neg (show ¬ (c = 2 + d ∧ j = i) by omega)]
    · rw [xu_ne _ _ (by omega), xu_ne _ _ (by omega)]
    · rw [xu_ne _ _ (by omega), xu_ne _ _ (by omega)]
    · have nz : ∀ j, j = 6 ∨ (73 ≤ j ∧ j < 83) → xu (xu M 166 0 0) (lcC d i) (lcJ d i) v 167 j = xu M 166 0 0 167 j := fun j hj => xu_ne _ _ (by
        rintro ⟨q1, q2⟩
        rcases (show d = 0 ∨ d = 1 ∨ d = 2 ∨ d = 3 ∨ d = 4 ∨ d = 5 ∨ d = 6 ∨ d = 7 ∨ d = 8 by omega) with rfl | rfl | rfl | rfl | rfl | rfl | rfl | rfl | rfl
        · have : i = 14 := by omega
          subst this
          simp [lcJ] at q2; omega
        · simp [wdom] at h1; simp [lcJ] at q2; omega
        · exact absurd h2 (by decide)
        · exact absurd h2 (by decide)
        · simp [wdom] at h1; simp [lcJ] at q2; omega
        · simp [lcC] at q1
        · simp [wdom] at h1; simp [lcJ] at q2; omega
        · simp [wdom] at h1; simp [lcJ] at q2; omega
        · simp [wdom] at h1; simp [lcJ] at q2; omega)
      have h10 : P ≤ 10 := by obtain ⟨g, ha, -⟩ := wv; exact ha.1.2.2.2.1
      rw [nz _ (by omega)] at e
      rw [nz 6 (by omega)]
      exact wz p hp e
  have mN : ∀ d i : Nat, d ≤ 9 → xu (xu M (2 + d) i v) 77 1 0 166 7 = nI N := fun d i h => by rw [xu_ne _ _ (by omega), xu_ne _ _ (by omega)]; exact w1
  have forg : ∀ (M0 : Mem), (FX12_set (fun r2 M2 => true = r2 ∧ Inv M2) 166 a b v (xu M0 77 1 0)) → ((true = true → FX3_forget (fun M3 => FX12_set (fun r2 M2 => true = r2 ∧ Inv M2) 166 a b v M3) (0 + 77) M0) ∧ (true = false → FX12_set (fun r2 M2 => false = r2 ∧ Inv M2) 166 a b v M0)) := fun M0 h => ⟨fun _ => by unfold FX3_forget; rintro M1 rfl; exact h, fun h => (by cases h)⟩
  unfold FX11_set
  refine s9_change (w := 0 + 1 + 1) hN h14 (fun e hv => forg _ ?_) (fun e k hk eb hv => forg _ ?_) (fun e k hk eb hv => forg _ ?_) (fun e k hk eb hv => forg _ ?_) (fun e k hk eb hv => forg _ ?_) (fun hno => ⟨fun h => (by cases h), fun _ => ?_⟩)
  · refine s12_set (N := N) (mN 0 14 (by decide)) h14 (Or.inl ⟨e, hv⟩) (fun _ => ⟨rfl, fin 0 14 rfl rfl (Or.inr rfl) (WW_free wv (by decide) (by decide))⟩) ?_ ?_ ?_ ?_ <;> (intro q; rw [e] at q; exact absurd q (by decide))
  · refine s12_set (N := N) (mN 4 k (by decide)) h14 (Or.inr ⟨⟨k, hk, eb⟩, Or.inl ⟨e, hv⟩⟩) ?_ (fun _ j hj ej => ?_) ?_ ?_ ?_
    · intro q; rw [e] at q; exact absurd q (by decide)
    · have : k = j := (nI_eq (by omega) (by omega)).mp (eb.symm.trans ej)
      subst this
      exact ⟨rfl, fin 4 k (by simp [wdom]; omega) rfl (Or.inl (by decide)) (WW_free wv (by simp [lcC]) (by simp [lcC, lcJ, wfr]; omega))⟩
    all_goals (intro q; rw [e] at q; exact absurd q (by decide))
  · refine s12_set (N := N) (mN 5 k (by decide)) h14 (Or.inr ⟨⟨k, hk, eb⟩, Or.inr (Or.inl ⟨e, hv⟩)⟩) ?_ ?_ (fun _ j hj ej => ?_) ?_ ?_
    · intro q; rw [e] at q; exact absurd q (by decide)
    · intro q; rw [e] at q; exact absurd q (by decide)
    · have : k = j := (nI_eq (by omega) (by omega)).mp (eb.symm.trans ej)
      subst this
      exact ⟨rfl, fin 5 k (by simp [wdom]; omega) rfl (Or.inl (by decide)) (WW_free wv (by simp [lcC]) (by simp [lcC]))⟩
    all_goals (intro q; rw [e] at q; exact absurd q (by decide))
  · refine s12_set (N := N) (mN 6 k (by decide)) h14 (Or.inr ⟨⟨k, hk, eb⟩, Or.inr (Or.inr (Or.inl ⟨e, hv⟩))⟩) ?_ ?_ ?_ (fun _ j hj ej => ?_) ?_
    · intro q; rw [e] at q; exact absurd q (by decide)
    · intro q; rw [e] at q; exact absurd q (by decide)
    · intro q; rw [e] at q; exact absurd q (by decide)
    · have : k = j := (nI_eq (by omega) (by omega)).mp (eb.symm.trans ej)
      subst this
      exact ⟨rfl, fin 6 k (by simp [wdom]; omega) rfl (Or.inl (by decide)) (WW_doc wv (by omega) hv)⟩
    all_goals (intro q; rw [e] at q; exact absurd q (by decide))
  · refine s12_set (N := N) (mN 7 k (by decide)) h14 (Or.inr ⟨⟨k, hk, eb⟩, Or.inr (Or.inr (Or.inr ⟨e, hv⟩))⟩) ?_ ?_ ?_ ?_ (fun _ j hj ej => ?_)
    · intro q; rw [e] at q; exact absurd q (by decide)
    · intro q; rw [e] at q; exact absurd q (by decide)
    · intro q; rw [e] at q; exact absurd q (by decide)
    · intro q; rw [e] at q; exact absurd q (by decide)
    · have : k = j := (nI_eq (by omega) (by omega)).mp (eb.symm.trans ej)
      subst this
      exact ⟨rfl, fin 7 k (by simp [wdom]; omega) rfl (Or.inl (by decide)) (WW_free wv (by simp [lcC]) (by simp [lcC, lcJ, wfr]; omega))⟩
  · unfold FX12_set
    rintro M1 rfl
    exact s12_canSet (N := N) (by rw [told_ne (by decide)]; exact w1) h14 (fun q => absurd q hno) (fun _ => ⟨fun h => (by cases h), fun _ => ⟨rfl, Inv_told hI 0⟩⟩)
