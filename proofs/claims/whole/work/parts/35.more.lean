theorem xu_if (M : Mem) (c i : Nat) (v : Int32) (a j : Nat) : xu M c i v a j = if a = c ∧ j = i then v else M a j := by
  by_cases h : a = c ∧ j = i
  · rw [if_pos h, h.1, h.2, xu_same]
  · rw [if_neg h, xu_ne M v h]
theorem q_state : lq_state Inv := by
  intro M v hI
  have cw : CW 2 M M := hI.2.1.1
  obtain ⟨P, N, g, wa, wb, wp, wz⟩ := hI.1.1
  unfold FX11_state FX3_forget
  rintro y rfl M2 rfl M3 rfl
  unfold FX12_state
  rintro M1 rfl M2 rfl M3 rfl
  refine ⟨?_, Inv_world hI (fun c i h1 h2 => ?_) ⟨P, N, g, WFa_congr2 ?_ ?_ (fun i hi => ?_) wa, WFb_congr2 wa.1.2.2.2.1 wa.1.2.2.2.2.1 wa.1.2.2.2.2.2 (fun i hi => ?_) wb, WFp_congr (fun c i hv => ?_) wp, WFz_congr2 wa.1.2.2.2.1 (fun i hi => ?_) wz⟩ ⟨?_, fun t ht => ?_, fun p hp => ?_⟩ (fun i hi => ?_) (IP_none hI.2.2.1 ?_ ?_ (fun k hk => ?_))⟩
  · simp [xu_if]; exact cw.1.2.2.2.1
  · simp only [xu_if]
    rw [if_neg, if_neg, if_neg, if_neg, if_neg]
    all_goals (rintro ⟨rfl, rfl⟩; first | (simp [sw] at h2; done) | (simp [sc] at h1; done))
  · simp [xu_if]
  · simp [xu_if]
  · have : i ≠ 1 := by rintro rfl; simp [wfr] at hi
    simp [xu_if, this]
  · have : i ≠ 1 := by rintro rfl; simp [wfr] at hi
    simp [xu_if, this]
  · simp only [xu_if]
    rw [if_neg, if_neg, if_neg, if_neg, if_neg]
    all_goals (rintro ⟨rfl, rfl⟩; simp [vl, vr] at hv)
  · have : i ≠ 1 := by rintro rfl; simp [wfr] at hi
    simp [xu_if, this]
  · obtain ⟨a1, a2, a3, a4, a5, a6, a7, a8, a9, a10⟩ := cw.1
    refine ⟨?_, ?_, ?_, ?_, ?_, ?_, ?_, ?_, ?_, ?_⟩ <;> simp [xu_if]
    · exact a1
    · exact a2
    · exact a3
    · exact a5
    · exact a6
    · exact a7
    · exact a8
    · exact a9
    · rw [a10]
      exact dset_congr (fun k hk => by have q : ∀ c, 1 < c → ¬ (c + k = 1) := fun c h => by omega
                                       simp [xu_if, q])
  · have := cw.2.1 t ht
    have q : ∀ c, 1 < c → ¬ (c + t = 1) := fun c h => by omega
    simp [xu_if, q]
    exact this
  · have := cw.2.2 p hp
    have q : ∀ c, 1 < c → ¬ (c + p = 1) := fun c h => by omega
    simp [xu_if, q]
    exact this
  · simp [xu_if]
    exact hI.2.1.2.2.2.2.2.2 i hi
  · simp [xu_if]
  · simp [xu_if]
  · simp [xu_if]
theorem IP_congr2 {M M2 : Mem} (hv : VA M M2) (e1 : M2 166 3 = M 166 3) (e2 : M2 77 1 = M 77 1) (e3 : ∀ c i, 78 ≤ c → c ≤ 138 → M2 c i = M c i) (e4 : ∀ i, M2 168 i = M 168 i) (hP : IP M) : IP M2 := by
  obtain ⟨n, h1, h2, h3, σ, h4, h5, h6⟩ := hP
  refine ⟨n, h1, by rw [e1]; exact h2, by rw [e2]; exact h3, σ, fun k hk => ⟨(h4 k hk).1, by rw [e3 78 k (by decide) (by decide)]; exact (h4 k hk).2⟩, h5, fun k hk => ?_⟩
  have hr : VA (rowV k M) (rowV k M2) := by
    intro c i hv2
    unfold rowV
    split
    · exact e4 _
    · exact hv c i hv2
  obtain ⟨w1, w2⟩ := h6 k hk
  refine ⟨WFw_congr hr w1, CW_congr hr (fun d i hd => e3 _ _ (by omega) ?_) w2⟩
  have := (h4 k (by omega)).1
  unfold wr at hd
  split at hd
  · omega
  · have := of_decide_eq_true hd
    omega
theorem II_congr2 {M M2 : Mem} (e1 : M2 0 8 = M 0 8) (e2 : M2 166 47 = M 166 47) (r : ∀ j, M2 191 j = M 191 j) (h5 : ∀ c i, 35 ≤ c → c ≤ 66 → sc c i = false → M2 c i = M c i) (hi : II M) : II M2 := by
  obtain ⟨h1, h2⟩ := hi
  have e3 : imgV M2 = imgV M := by
    funext c i
    simp only [imgV, r]
  refine ⟨by rw [e1, e2]; exact h1, ?_⟩
  rw [e1, e3]
  rcases h2 with h2 | ⟨h2, h3, h4⟩
  · exact Or.inl h2
  · refine Or.inr ⟨h2, h3, DR_congr (fun _ _ _ => rfl) (fun e i he => h5 _ _ (by omega) ?_ (sc_w (Or.inr rfl) he)) (fun e i he => h5 _ _ (by have := dr_le he; omega) (by have := dr_le he; omega) (sc_d (Or.inr rfl) he)) h4⟩
    unfold wr at he
    split at he
    · omega
    · have := of_decide_eq_true he
      omega
/-- the places of the tape and of the fault -/
def stp (c i : Nat) : Bool := (c == 0 && i == 7) || (c == 166 && (i == 11 || i == 31 || i == 32)) || c == 165 || c == 172 || c == 139
theorem Inv_tape {M M2 : Mem} (hI : Inv M) (hs : ∀ c i, sc c i = false → stp c i = false → M2 c i = M c i) (hT : IT M2) : Inv M2 := by
  obtain ⟨hV, hD, hP, -, ⟨x1, x2⟩, hi⟩ := hI
  have hVA : VA M M2 := by
    intro c i hv
    have h0 : sc c i = false := by
      rcases vr_ge hv with rfl | ⟨h1, h2, h3, h4, h5⟩
      · simp [vr] at hv
        simp [sc]
        omega
      · unfold sc
        rw [if_neg (by omega), if_neg (by omega), if_neg (by omega), if_neg (by omega), if_neg (by omega), if_neg (by omega), if_neg (by omega), if_neg (by omega), if_neg (by omega), if_neg (by omega), if_neg (by omega), if_neg (by omega), if_neg (by omega), hv]
        rfl
    refine hs c i h0 ?_
    rcases vr_ge hv with rfl | ⟨h1, h2, h3, h4, h5⟩
    · simp [vr] at hv
      simp [stp]
      omega
    · simp [stp]
      omega
  refine ⟨VW_congr hVA hV, DR_congr hVA (fun e i he => hs _ _ (sc_w (Or.inl rfl) he) ?_) (fun e i he => hs _ _ (sc_d (Or.inl rfl) he) ?_) hD, IP_congr2 hVA (hs 166 3 rfl rfl) (hs 77 1 rfl rfl) (fun c i h1 h2 => hs c i (sc_k h1 h2) (by simp [stp]; omega)) (fun i => hs 168 i rfl rfl) hP, hT, ⟨fun i hi => by rw [hs 173 i rfl rfl]; exact x1 i hi, by rw [hs 166 5 rfl rfl]; exact x2⟩, II_congr2 (hs 0 8 rfl rfl) (hs 166 47 rfl rfl) (fun j => hs 191 j rfl rfl) (fun c i h1 h2 h3 => hs c i h3 (by simp [stp]; omega)) hi⟩
  · unfold wr at he
    split at he
    · simp [stp]; omega
    · have := of_decide_eq_true he
      simp [stp]; omega
  · have := dr_le he
    simp [stp]; omega
theorem q_end : lq_end Inv := by
  intro M a1 hI
  obtain ⟨hV, hD, hP, ⟨⟨n, t1, t2, t3, t4⟩, t5, t6⟩, hX, hi⟩ := id hI
  unfold FX11_end
  rw [t2]
  have no : (¬ (0 ≤ a1 ∧ a1 ≤ nI n)) → ∀ b : Bool, b = false → FX12_end (fun r2 M2 => b = r2 ∧ Inv M2) 166 a1 M := by
    rintro hc b rfl
    unfold FX12_end
    rintro M1 rfl
    refine s12_isIn ?_
    rw [told_ne (by decide), t3, decide_eq_false hc]
    exact ⟨fun h => (by cases h), fun _ => ⟨rfl, Inv_told hI 0⟩⟩
  refine ⟨fun h => no (fun q => absurd q.1 (Int32.not_le.mpr h)) _ rfl, fun h0 => ⟨fun h1 => ?_, fun h1 => no (fun q => h1 q.2) _ rfl⟩⟩
  rintro M1 rfl
  unfold FX12_end
  rintro M1 rfl
  refine s12_isIn ?_
  have e1 : xu (xu M 0 7 a1) 166 0 0 166 11 = nI n := by simp [xu_if]; exact t3
  rw [e1, decide_eq_true ⟨Int32.not_lt.mp h0, h1⟩]
  refine ⟨fun _ => ?_, fun h => (by cases h)⟩
  rintro M1 rfl
  refine ⟨rfl, ?_⟩
  obtain ⟨j, hj, rfl⟩ := nI_of h0
  have hjn : j ≤ n := (nI_leI hj (by omega)).mp h1
  refine Inv_tape hI (fun c i q1 q2 => ?_) ⟨⟨j, by omega, by simp [xu_if], by simp [xu_if], fun i hi => ?_⟩, by simp [xu_if]; exact t5, by simp [xu_if]; exact t6⟩
  · simp only [xu_if]
    rw [if_neg, if_neg, if_neg]
    all_goals (rintro ⟨rfl, rfl⟩; first | (simp [stp] at q2; done) | (simp [sc] at q1; done))
  · have := t4 i (by omega)
    simp [xu_if]
    exact this
