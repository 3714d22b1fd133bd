/-! advice that comes down -/
theorem hd99 (x : Int32) : -99 ≤ (hd x (-99) 99).toInt ∧ (hd x (-99) 99).toInt ≤ 99 := by
  unfold hd
  split
  · decide
  · split
    · decide
    · rename_i h1 h2
      exact ⟨Int32.le_iff_toInt_le.mp (Int32.not_lt.mp h1), Int32.le_iff_toInt_le.mp (Int32.not_lt.mp h2)⟩
def heard (V : Mem) (P p : Nat) (x : Int32) : Int32 := if V 167 (73 + p) = 0 then x else hd (x + fdv (tell V P (ix (V 167 (73 + p) - 1)) 2) 9) (-99) 99
theorem tell2_b (V : Mem) (P t : Nat) : -99 ≤ (tell V P t 2).toInt ∧ (tell V P t 2).toInt ≤ 99 := hd99 _
theorem s0_adviceAt {Q : Int32 → Mem → Prop} {w : Nat} {V M : Mem} {P N g p : Nat} {x : Int32} (hw : w = 2 ∨ w = 67) (hC : CW w V M) (hL : CL 12 V M) (wl : WFl V) (ha : WFa V P N g) (hp : p < P) (h : ∀ M', S18 M M' → Q (heard V P p x) M') : FX0_adviceAt Q 1 w (nI p) x M := by
  have h10 := ha.1.2.2.2.1
  have h14 := ha.1.2.2.2.2.1
  unfold FX0_adviceAt
  refine s9_sitterOn (P := P) (hC.1.1.trans ha.1.1) h10 hp ?_
  rw [(hC.2.2 p (by omega)).2.1]
  unfold heard at h
  rcases sit_of ha hp with ⟨z1, z2⟩ | ⟨t, ht, z1, z2⟩
  · rw [z2]
    refine ⟨fun hc => absurd rfl hc, fun _ => ?_⟩
    have := h M (S18.refl M)
    rwa [if_pos z1] at this
  · rw [z2]
    refine ⟨fun _ => s2_tells hw hC hL wl ha ht (Or.inr (Or.inr rfl)) (fun M1 s1 => ?_), fun hc => absurd hc (m1_ne (by omega))⟩
    have b := tell2_b V P t
    refine s_fdiv (Or.inr rfl) (by omega) (by omega) (s11_held (by decide) ?_)
    have := h M1 s1
    rwa [if_neg (by rw [z1]; exact nI_ne0 (by omega) (by omega)), z2, ixn (by omega)] at this
theorem s12_heardAs {Q : Int32 → Mem → Prop} {V M : Mem} {P N g p : Nat} {x : Int32} (hR : RV V M) (hl : LWX V) (ha : WFa V P N g) (hp : p < P) (h : ∀ M', RV V M' → LO M M' → Q (heard V P p x) M') : FX12_heardAs Q 166 x (nI p) M := by
  have h10 := ha.1.2.2.2.1
  have h14 := ha.1.2.2.2.2.1
  unfold FX12_heardAs
  refine s12_sitterOf (by omega) ?_
  rw [hR.r]
  unfold heard at h
  rcases sit_of ha hp with ⟨z1, z2⟩ | ⟨t, ht, z1, z2⟩
  · rw [z2]
    refine ⟨fun hc => absurd rfl hc, fun _ => ?_⟩
    have := h M hR (LO.refl M)
    rwa [if_pos z1] at this
  · rw [z2]
    refine ⟨fun _ => s12_leansOf hR hl ha ht (fun M1 r1 l1 => ?_), fun hc => absurd hc (m1_ne (by omega))⟩
    refine s12_partOf (by decide) (s12_held ?_)
    have := h M1 r1 l1
    rwa [if_neg (by rw [z1]; exact nI_ne0 (by omega) (by omega)), z2, ixn (by omega)] at this
def cms (V : Mem) (P k : Nat) : Nat → Int32 → Int32
  | 0, x => x
  | r + 1, x => cms V P k r (heard V P (k + r) x)
theorem q_comes : lq_comes Inv := by
  intro M v b hI
  obtain ⟨P, N, ⟨g, wa, wb⟩, -, -, -, -, -⟩ := WW_now hI
  have cw := (CB_now hI).1
  have h10 := wa.1.2.2.2.1
  have h14 := wa.1.2.2.2.2.1
  have r0 : RV (xu M 166 0 0) (xu M 166 0 0) := RV.refl _
  have no : (¬ (-99 ≤ v ∧ v ≤ 99) ∨ (∀ k, k < P → b ≠ nI k) ∨ ¬ b ≤ oI (hgh (xu M 166 0 0) P)) → FX12_comes (fun r2 M2 => (-100 : Int32) = r2 ∧ Inv M2) 166 v b M := by
    intro hno
    have I1 := Inv_told hI 0
    unfold FX12_comes
    rintro M1 rfl
    refine s12_isIn ⟨fun _ => ⟨rfl, I1⟩, fun h1 => s12_isPillar (P := P) wa.1.1 (by omega) (fun k hk e => ⟨fun h => (by cases h), fun _ => s12_highest r0 wa.1.1 h10 ⟨fun h => ?_, fun _ => ⟨rfl, I1⟩⟩⟩) (fun _ => ⟨fun _ => ⟨rfl, I1⟩, fun h => (by cases h)⟩)⟩
    rcases hno with z | z | z
    · exact absurd (of_decide_eq_true h1) z
    · exact absurd e (z k hk)
    · exact absurd h z
  unfold FX11_comes
  refine s9_highest (w := 2) cw wa.1.1 h10 (s11_within ⟨fun h => no (Or.inl (of_decide_eq_false h)), fun hv => s9_isPillar (w := 2) (P := P) (cw.1.1.trans wa.1.1) (by omega) (fun k hk e => ⟨fun h => (by cases h), fun _ => ⟨fun hle => ?_, fun h => no (Or.inr (Or.inr h))⟩⟩) (fun hn => ⟨fun _ => no (Or.inr (Or.inl hn)), fun h => (by cases h)⟩)⟩)
  subst e
  cases hq : hgh (xu M 166 0 0) P with
  | none => rw [hq] at hle; exact absurd hle (Int32.not_le.mpr (by have := nI_pos' (n := k) (by omega); show (-1 : Int32) < nI k; grind))
  | some q =>
    have hlt := hgh_lt hq
    rw [hq] at hle
    have hkq : k ≤ q := (nI_leI (by omega) (by omega)).mp hle
    show NX11_comes_51 _ 0 (nI k) (0 + 1 + 1) v (nI q - 1) M
    unfold NX11_comes_51
    refine xlp_for (fun r a => r ≤ q - k ∧ a.2.1 = nI (k + r) - 1 ∧ S18 M a.2.2 ∧ cms (xu M 166 0 0) P k r a.1 = cms (xu M 166 0 0) P k (q - k) v) ?_ ?_ (q - k) (v, nI q - 1, M) ⟨Nat.le_refl _, by show nI q - 1 = nI (k + (q - k)) - 1; rw [show k + (q - k) = q by omega], S18.refl M, rfl⟩
    · rintro ⟨x, y, M1⟩ B ⟨-, hy, s1, e1⟩
      have hy : y = nI (k + 0) - 1 := hy
      subst hy
      have s1 : S18 M M1 := s1
      have e1 : x = cms (xu M 166 0 0) P k (q - k) v := e1
      subst e1
      show lbX11_comes_51 _ 0 (nI k) (0 + 1 + 1) (fun l5 l6 M => B (l5, l6, M)) (cms (xu M 166 0 0) P k (q - k) v) (nI (k + 0) - 1) M1
      unfold lbX11_comes_51
      have lt : nI (k + 0) - 1 < nI k := by
        cases k with
        | zero => decide
        | succ k => rw [show k + 1 + 0 = k + 1 by omega, nI_s1]; exact nI_lt (by omega) (by omega)
      refine ⟨fun _ => ?_, fun hc => absurd lt hc⟩
      have r1 : RV (xu M 166 0 0) (xu M1 166 0 0) := RV_now (fun c i hc => s1 c i (by omega))
      unfold FX12_comes
      rintro M2 rfl
      refine s12_isIn ⟨fun h => absurd (of_decide_eq_true hv) (of_decide_eq_false h), fun _ => s12_isPillar (P := P) ((r1.n 6).trans wa.1.1) (by omega) (fun _ _ _ => ⟨fun h => (by cases h), fun _ => s12_highest r1 wa.1.1 h10 ?_⟩) (fun z => absurd rfl (z k hk))⟩
      rw [hq]
      refine ⟨fun _ => s12_highest r1 wa.1.1 h10 ?_, fun h => absurd hle h⟩
      rw [hq]
      show NX12_comes_46 _ 166 (nI k) v (nI q - 1) _
      unfold NX12_comes_46
      refine xlp_for (fun r a => r ≤ q - k ∧ a.2.1 = nI (k + r) - 1 ∧ (RV (xu M 166 0 0) a.2.2 ∧ LO M1 a.2.2) ∧ cms (xu M 166 0 0) P k r a.1 = cms (xu M 166 0 0) P k (q - k) v) ?_ ?_ (q - k) (v, nI q - 1, _) ⟨Nat.le_refl _, by show nI q - 1 = nI (k + (q - k)) - 1; rw [show k + (q - k) = q by omega], ⟨r1, (LO.refl M1).up (by decide) _ _⟩, rfl⟩
      · rintro ⟨x, y, M2⟩ B2 ⟨-, hy, s2, e1⟩
        have hy : y = nI (k + 0) - 1 := hy
        subst hy
        have e1 : x = cms (xu M 166 0 0) P k (q - k) v := e1
        subst e1
        show lbX12_comes_46 _ 166 (nI k) (fun l5 l6 M => B2 (l5, l6, M)) (cms (xu M 166 0 0) P k (q - k) v) (nI (k + 0) - 1) M2
        unfold lbX12_comes_46
        exact ⟨fun _ => ⟨rfl, Inv_q hI s1 s2.1 s2.2⟩, fun hc => absurd lt hc⟩
      · rintro r ⟨x, y, M2⟩ B2 ⟨hr, hy, s2, e1⟩ hB
        have hy : y = nI (k + (r + 1)) - 1 := hy
        have hy : y = nI (k + r) := hy.trans (nI_s1 (k + r))
        subst hy
        have s2 : RV (xu M 166 0 0) M2 ∧ LO M1 M2 := s2
        show lbX12_comes_46 _ 166 (nI k) (fun l5 l6 M => B2 (l5, l6, M)) x (nI (k + r)) M2
        unfold lbX12_comes_46
        refine ⟨fun hc => absurd hc (nI_nlt (by omega) (by omega)), fun _ => s12_heardAs s2.1 (LWX_now hI) wa (by omega) (fun M3 r3 l3 => hB _ ⟨by omega, i32_m1 _, ⟨r3, s2.2.trans l3⟩, e1⟩)⟩
    · rintro r ⟨x, y, M1⟩ B ⟨hr, hy, s1, e1⟩ hB
      have hy : y = nI (k + (r + 1)) - 1 := hy
      have hy : y = nI (k + r) := hy.trans (nI_s1 (k + r))
      subst hy
      have s1 : S18 M M1 := s1
      show lbX11_comes_51 _ 0 (nI k) (0 + 1 + 1) (fun l5 l6 M => B (l5, l6, M)) x (nI (k + r)) M1
      unfold lbX11_comes_51
      exact ⟨fun hc => absurd hc (nI_nlt (by omega) (by omega)), fun _ => s0_adviceAt (w := 2) (Or.inl rfl) (CW_18 (Or.inl rfl) cw s1) (CL_18 (CL_now hI) s1) (WFl_now hI) wa (by omega) (fun M3 s3 => hB _ ⟨by omega, i32_m1 _, s1.trans s3, e1⟩)⟩
