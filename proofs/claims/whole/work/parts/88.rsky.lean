/-! the reference reads the sky -/
theorem sc182 {i : Nat} (h : 32 ≤ i) : sc 182 i = true := by
  simp [sc, vr]
  omega
theorem xu_rf {M : Mem} {c i : Nat} (v : Int32) (h : sc c i = true) (hc : 166 ≤ c) : rfr M (xu M c i v) := fun d j hd => xu_ne _ _ (by
  rintro ⟨rfl, rfl⟩
  rcases hd with hd | hd
  · rw [h] at hd; cases hd
  · omega)
theorem RA.put {b : Nat → Nat} {n i : Nat} {M : Mem} {c j : Nat} (ra : RA b n i M) (v : Int32) (h : sc c j = true) (hc : 166 < c) : RA b n i (xu M c j v) :=
  ra.mv (xu_rf v h (by omega)) (ra.rd.cg (fun t _ _ => xu_ne _ _ (by omega)))
def skR (L : List (List Nat)) (M : Mem) : Prop := ∀ j, j < L.length → M 182 (32 + 2 * j) = rw_ L j 0 ∧ M 182 (33 + 2 * j) = rw_ L j 1
theorem s12_readSky {b : Nat → Nat} {n : Nat} {M : Mem} {Q : Int32 → Mem → Prop} (ra : RA b n 0 M) (h1 : ∀ L M2, pAll (tyT b n) (skyP (tyT b n) (tyV b n)) 18 0 [] = .ok L → L.length ≤ 16 → skR L M2 → rfr M M2 → Q (nI L.length) M2) (h2 : ∀ f e M2, pAll (tyT b n) (skyP (tyT b n) (tyV b n)) 18 0 [] = .error (f, e) → RErr b n f e M M2 → Q (-1) M2) : FX12_readSky Q 166 M := by
  unfold FX12_readSky NX12_readSky_2
  have stp : ∀ (B : Int32 × Mem → Prop) (L : List (List Nat)) (i r : Nat) (N : Mem), L.length ≤ 16 → RA b n i N → skR L N → pAll (tyT b n) (skyP (tyT b n) (tyV b n)) (r + 1) i L = pAll (tyT b n) (skyP (tyT b n) (tyV b n)) 18 0 [] → rfr M N → (∀ x j M2, L.length < 16 → RA b n j M2 → rfr M M2 → skR (L ++ [x]) M2 → pAll (tyT b n) (skyP (tyT b n) (tyV b n)) r j (L ++ [x]) = pAll (tyT b n) (skyP (tyT b n) (tyV b n)) 18 0 [] → B (nI (L.length + 1), M2)) → lbX12_readSky_2 Q 166 (fun l1 M => B (l1, M)) (nI L.length) N := by
    intro B L i r N hL ra hR hp hf hB
    unfold lbX12_readSky_2
    have err : ∀ f e M2, ¬ tyT b n i = 0 → skyP (tyT b n) (tyV b n) L.length i = .error (f, e) → RErr b n f e N M2 → Q (-1) M2 := fun f e M2 hz e1 he => h2 f e M2 (hp ▸ pAll_e hz e1) (he.of hf)
    refine s12_isWord (g := 15) ra (by omega) (fun q1 => ⟨fun w => (by cases w), fun _ => ?_⟩) (fun q => ⟨fun _ => ⟨fun w => ?_, fun w => ?_⟩, fun w => (by cases w)⟩)
    rotate_left
    · have hz : ¬ tyT b n i = 0 := fun w2 => w ((ra.t (c := 0) (by omega)).mpr w2)
      exact s12_errs 1 ra (fun M2 he => err 1 i M2 hz (by unfold skyP; rw [if_neg q]) he)
    · have hz := (ra.t (c := 0) (by omega)).mp w
      exact h1 L N (hp ▸ pAll_0 hz) hL hR hf
    have hz : ¬ tyT b n i = 0 := by rw [q1.1]; decide
    refine ⟨fun q => ?_, fun q => ?_⟩
    rotate_left
    · have hl : L.length = 16 := (nI_eq (b := 16) (by omega) (by omega)).mp q
      exact s12_errs 3 ra (fun M2 he => err 3 i M2 hz (by unfold skyP; rw [if_pos q1, if_neg (by omega)]) he)
    have q2 : L.length < 16 := by
      have : L.length ≠ 16 := fun w => q (by rw [w]; rfl)
      omega
    have ea : (32 : Int32) + 2 * nI L.length = nI (32 + 2 * L.length) := by
      rw [show (2 : Int32) * nI L.length = nI (2 * L.length) from pk_mul 2 _]; exact nI_add 32 _
    have eb : (32 : Int32) + 2 * nI L.length + 1 = nI (33 + 2 * L.length) := by
      rw [ea, nI_1, show 32 + 2 * L.length + 1 = 33 + 2 * L.length by omega]
    rw [eb, ea, ixn (show 32 + 2 * L.length < 2 ^ 31 by omega), ixn (show 33 + 2 * L.length < 2 ^ 31 by omega)]
    have bad : ∀ (f e : Nat) (M2 : Mem), skyP (tyT b n) (tyV b n) L.length i = .error (f, e) → RErr b n f e N M2 → ∀ c t, sc c t = true → 166 < c → RErr b n f e N (xu M2 c t (-1)) := by
      intro f e M2 _ he c t h3 h4
      exact ⟨by rw [xu_ne _ _ (by omega)]; exact he.1, by rw [xu_ne _ _ (by omega)]; exact he.2.1, he.2.2.trans (xu_rf _ h3 (by omega))⟩
    have badk : ∀ (f e : Nat) (M2 : Mem), skyP (tyT b n) (tyV b n) L.length i = .error (f, e) → RErr b n f e N M2 → ∀ M6, M6 = xu M2 182 (32 + 2 * L.length) (-1) → M6 182 (32 + 2 * L.length) = -1 ∧ Q (-1) M6 := by
      rintro f e M2 e1 he M6 rfl
      exact ⟨xu_same _ _ _ _, err f e _ hz e1 (bad f e M2 e1 he _ _ (sc182 (by omega)) (by omega))⟩
    have badk2 : ∀ (f e : Nat) (M2 : Mem), skyP (tyT b n) (tyV b n) L.length i = .error (f, e) → RErr b n f e N M2 → ∀ M6, M6 = xu M2 182 (33 + 2 * L.length) (-1) → M6 182 (33 + 2 * L.length) = -1 ∧ Q (-1) M6 := by
      rintro f e M2 e1 he M6 rfl
      exact ⟨xu_same _ _ _ _, err f e _ hz e1 (bad f e M2 e1 he _ _ (sc182 (by omega)) (by omega))⟩
    have v1 : vp_in (nI (32 + 2 * L.length)) 64 := vp_in_nI (by omega) (by omega)
    have v2 : vp_in (nI (33 + 2 * L.length)) 64 := vp_in_nI (by omega) (by omega)
    refine s12_readTold (g := 15) (lo := 0) (hi := 999) ra (by omega) (by omega) (by omega) (fun q => absurd q1 q) (fun _ q3 _ q4 M2 ra2 f2 => ?_) (fun _ q3 M2 he => ?_) (fun _ q3 q4 M2 he => ?_)
    rotate_left
    · refine ⟨v1, fun M6 e6 => ⟨v1, ?_⟩⟩
      have := badk 1 (i + 1) M2 (by unfold skyP; rw [if_pos q1, if_pos q2, if_neg q3]) he M6 e6
      exact ⟨fun w => absurd this.1 w, fun _ => this.2⟩
    · refine ⟨v1, fun M6 e6 => ⟨v1, ?_⟩⟩
      have := badk 2 (i + 1) M2 (by unfold skyP; rw [if_pos q1, if_pos q2, if_pos q3, if_neg q4]) he M6 e6
      exact ⟨fun w => absurd this.1 w, fun _ => this.2⟩
    refine ⟨v1, ?_⟩
    rintro M6 rfl
    have hv1 := tyV_num q3
    refine ⟨v1, fun _ => ?_, fun w => absurd ((xu_same M2 182 _ _).symm.trans w) (m1_ne (by omega))⟩
    have ra6 := ra2.put (nI (tyV b n (i + 1))) (sc182 (show 32 ≤ 32 + 2 * L.length by omega)) (by omega)
    have f6 : rfr N (xu M2 182 (32 + 2 * L.length) (nI (tyV b n (i + 1)))) := f2.rfr.trans (xu_rf _ (sc182 (by omega)) (by omega))
    refine s12_readTold (g := 16) (lo := 0) (hi := 9) ra6 (by omega) (by omega) (by omega) (fun q5 M3 he => ?_) (fun q5 q6 _ q7 M3 ra3 f3 => ?_) (fun q5 q6 M3 he => ?_) (fun q5 q6 q7 M3 he => ?_)
    · refine ⟨v2, fun M9 e9 => ⟨v2, ?_⟩⟩
      have := badk2 1 (i + 2) M3 (by unfold skyP; rw [if_pos q1, if_pos q2, if_pos q3, if_pos ⟨Nat.zero_le _, q4⟩, if_neg q5]) (he.of f6) M9 e9
      exact ⟨fun _ => this.2, fun w => absurd this.1 w⟩
    rotate_left
    · refine ⟨v2, fun M9 e9 => ⟨v2, ?_⟩⟩
      have := badk2 1 (i + 3) M3 (by unfold skyP; rw [if_pos q1, if_pos q2, if_pos q3, if_pos ⟨Nat.zero_le _, q4⟩, if_pos q5, if_neg (show ¬ tyT b n (i + 3) = 3 from q6)]) (he.of f6) M9 e9
      exact ⟨fun _ => this.2, fun w => absurd this.1 w⟩
    · refine ⟨v2, fun M9 e9 => ⟨v2, ?_⟩⟩
      have := badk2 2 (i + 3) M3 (by unfold skyP; rw [if_pos q1, if_pos q2, if_pos q3, if_pos ⟨Nat.zero_le _, q4⟩, if_pos q5, if_pos (show tyT b n (i + 3) = 3 from q6), if_neg (show ¬ (0 ≤ tyV b n (i + 3) ∧ tyV b n (i + 3) ≤ 9) from q7)]) (he.of f6) M9 e9
      exact ⟨fun _ => this.2, fun w => absurd this.1 w⟩
    refine ⟨v2, ?_⟩
    rintro M9 rfl
    have hv2 := tyV_num q6
    refine ⟨v2, fun w => absurd ((xu_same M3 182 _ _).symm.trans w) (m1_ne (by omega)), fun _ => ?_⟩
    have ra9 := ra3.put (nI (tyV b n (i + 2 + 1))) (sc182 (show 32 ≤ 33 + 2 * L.length by omega)) (by omega)
    have f9 : rfr N (xu M3 182 (33 + 2 * L.length) (nI (tyV b n (i + 2 + 1)))) := (f6.trans f3.rfr).trans (xu_rf _ (sc182 (by omega)) (by omega))
    refine s12_readMark (g := 59) ra9 (by omega) (fun q8 M4 ra4 f4 => ?_) (fun q8 M4 he => ?_)
    · refine ⟨fun _ => ?_, fun w => absurd w (by decide)⟩
      have e1 : skyP (tyT b n) (tyV b n) L.length i = .ok ([tyV b n (i + 1), tyV b n (i + 3)], i + 5) := by
        unfold skyP; rw [if_pos q1, if_pos q2, if_pos q3, if_pos ⟨Nat.zero_le _, q4⟩, if_pos q5, if_pos (show tyT b n (i + 3) = 3 from q6), if_pos (show 0 ≤ tyV b n (i + 3) ∧ tyV b n (i + 3) ≤ 9 from ⟨Nat.zero_le _, q7⟩), if_pos (show tyT b n (i + 4) = 4 ∧ tyV b n (i + 4) = 59 from q8)]
      rw [nI_1]
      refine hB [tyV b n (i + 1), tyV b n (i + 3)] (i + 5) M4 q2 ra4 ((hf.trans f9).trans f4.rfr) (fun j hj => ?_) ((pAll_k hz e1).symm.trans hp)
      rw [f4 182 _ (fun w => by have := w.1; omega), f4 182 _ (fun w => by have := w.1; omega)]
      rw [List.length_append] at hj
      by_cases hjl : j = L.length
      · subst hjl
        rw [rw_new, rw_new, xu_same, xu_at _ _ _ (by omega), f3 182 _ (fun w => by have := w.1; omega), xu_same]
        exact ⟨rfl, rfl⟩
      · have hj2 : j < L.length := by simp at hj; omega
        rw [rw_old _ hj2, rw_old _ hj2, xu_at _ _ _ (by omega), xu_at _ _ _ (by omega), f3 182 _ (fun w => by have := w.1; omega), f3 182 _ (fun w => by have := w.1; omega), xu_at _ _ _ (by omega), xu_at _ _ _ (by omega), f2 182 _ (fun w => by have := w.1; omega), f2 182 _ (fun w => by have := w.1; omega)]
        exact hR j hj2
    · refine ⟨fun w => absurd rfl w, fun _ => err 1 (i + 4) M4 hz ?_ (he.of f9)⟩
      unfold skyP; rw [if_pos q1, if_pos q2, if_pos q3, if_pos ⟨Nat.zero_le _, q4⟩, if_pos q5, if_pos (show tyT b n (i + 3) = 3 from q6), if_pos (show 0 ≤ tyV b n (i + 3) ∧ tyV b n (i + 3) ≤ 9 from ⟨Nat.zero_le _, q7⟩), if_neg (show ¬ (tyT b n (i + 4) = 4 ∧ tyV b n (i + 4) = 59) from q8)]
  refine xlp_for (fun r (a : Int32 × Mem) => ∃ (L : List (List Nat)) (i : Nat), L.length + r = 16 ∧ a.1 = nI L.length ∧ RA b n i a.2 ∧ skR L a.2 ∧ pAll (tyT b n) (skyP (tyT b n) (tyV b n)) (r + 2) i L = pAll (tyT b n) (skyP (tyT b n) (tyV b n)) 18 0 [] ∧ rfr M a.2) ?_ ?_ 16 _ ⟨[], 0, rfl, rfl, ra, fun j hj => absurd hj (by simp), rfl, fun _ _ _ => rfl⟩
  · rintro ⟨a, N⟩ B ⟨L, i, hr, ha, ra, hRL, hp, hf⟩
    have ha' : a = nI L.length := ha
    subst ha'
    exact stp B L i 1 N (by omega) ra hRL hp hf (fun x j M2 hlt => absurd hlt (by omega))
  · rintro r ⟨a, N⟩ B ⟨L, i, hr, ha, ra, hRL, hp, hf⟩ hB
    have ha' : a = nI L.length := ha
    subst ha'
    exact stp B L i (r + 2) N (by omega) ra hRL hp hf (fun x j M2 hlt ra2 f2 r2 hp2 => hB _ ⟨L ++ [x], j, by simp; omega, by simp, ra2, r2, hp2, f2⟩)
