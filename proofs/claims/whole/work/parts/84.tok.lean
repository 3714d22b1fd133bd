/-! the pieces of a text, one behind the other -/
def wof (b : Nat → Nat) (n p : Nat) : Option Nat := wix gWords (slc b p (ren b n isL (p + 1))) 0
def dgs (b : Nat → Nat) (p : Nat) : Nat → Nat
  | 0 => 0
  | k + 1 => 10 * dgs b p k + (b (p + k) - 48)
def pcT (b : Nat → Nat) (n p : Nat) : Nat := if n ≤ p then 0 else if isL (b p) = true then (if wof b n p = none then 1 else 2) else if isD (b p) = true then (if ren b n isD (p + 1) - p ≤ 4 then 3 else 1) else if isM (b p) = true then 4 else 1
def pcV (b : Nat → Nat) (n p : Nat) : Nat := if isL (b p) = true then (wof b n p).getD 0 else if isD (b p) = true then dgs b p (ren b n isD (p + 1) - p) else b p
def pcE (b : Nat → Nat) (n p : Nat) : Nat := if n ≤ p then p else if isL (b p) = true then ren b n isL (p + 1) else if isD (b p) = true then ren b n isD (p + 1) else p + 1
def pos (b : Nat → Nat) (n : Nat) : Nat → Nat
  | 0 => ren b n isB 0
  | k + 1 => ren b n isB (pcE b n (pos b n k))
theorem pcE_bd {b : Nat → Nat} {n p : Nat} (h : p ≤ n) : p ≤ pcE b n p ∧ pcE b n p ≤ n ∧ (p < n → p < pcE b n p) := by
  unfold pcE
  split
  · exact ⟨Nat.le_refl _, h, fun q => absurd q (by omega)⟩
  · next hp =>
    split
    · have := ren_bd (b := b) (n := n) (f := isL) (p := p + 1) (by omega)
      exact ⟨by omega, this.2.1, fun _ => by omega⟩
    · split
      · have := ren_bd (b := b) (n := n) (f := isD) (p := p + 1) (by omega)
        exact ⟨by omega, this.2.1, fun _ => by omega⟩
      · exact ⟨by omega, by omega, fun _ => by omega⟩
theorem pos_le {b : Nat → Nat} {n : Nat} : ∀ k, pos b n k ≤ n
  | 0 => (ren_bd (by omega)).2.1
  | k + 1 => (ren_bd (pcE_bd (pos_le k)).2.1).2.1
theorem pos_st {b : Nat → Nat} {n k : Nat} : pos b n k ≤ pos b n (k + 1) ∧ (pos b n k < n → pos b n k < pos b n (k + 1)) ∧ (pos b n k = n → pos b n (k + 1) = n) := by
  have h1 := pcE_bd (b := b) (pos_le (b := b) (n := n) k)
  have h2 := ren_bd (b := b) (n := n) (f := isB) h1.2.1
  show _ ≤ ren b n isB (pcE b n (pos b n k)) ∧ (_ → _ < ren b n isB (pcE b n (pos b n k))) ∧ (_ → ren b n isB (pcE b n (pos b n k)) = n)
  refine ⟨by omega, fun q => ?_, fun q => ?_⟩
  · have := h1.2.2 q
    omega
  · omega
theorem pos_nb {b : Nat → Nat} {n k : Nat} (h : pos b n k < n) : isB (b (pos b n k)) = false := by
  cases k with
  | zero => exact (ren_bd (b := b) (n := n) (f := isB) (p := 0) (by omega)).2.2.2 h
  | succ k => exact (ren_bd (b := b) (n := n) (f := isB) (p := pcE b n (pos b n k)) (pcE_bd (pos_le k)).2.1).2.2.2 h
theorem dgs_le {b : Nat → Nat} {p : Nat} : ∀ k, (∀ j, j < k → isD (b (p + j)) = true) → dgs b p k < 10 ^ k
  | 0, _ => by show 0 < 1; decide
  | k + 1, h => by
    have h1 := dgs_le k (fun j hj => h j (by omega))
    have h2 := h k (by omega)
    simp [isD] at h2
    show 10 * dgs b p k + (b (p + k) - 48) < 10 ^ (k + 1)
    rw [Nat.pow_succ]
    omega
theorem pcT_0 {b : Nat → Nat} {n p : Nat} (h : p ≤ n) : pcT b n p = 0 ↔ p = n := by
  unfold pcT
  constructor
  · intro h1
    by_cases hp : n ≤ p
    · omega
    · rw [if_neg hp] at h1
      exfalso
      split at h1
      · split at h1 <;> omega
      · split at h1
        · split at h1 <;> omega
        · split at h1 <;> omega
  · intro h1
    rw [if_pos (by omega)]
/-- the class's name of a piece -/
def wkI (k v : Nat) : Int32 := match wix (cWords k) (gWords.getD v []) 0 with
  | some i => nI (300 + i)
  | none => 202
def KR (k t v : Nat) (x : Int32) : Prop := (t = 0 ∧ x = 200) ∨ (t = 3 ∧ x = 201) ∨ (t = 2 ∧ v < 24 ∧ x = wkI k v) ∨ (t = 4 ∧ x = nI v ∧ isM v = true) ∨ (t = 1 ∧ (x = 202 ∨ ∃ c, c < 128 ∧ x = nI c ∧ isM c = false))
theorem wix_some : ∀ (L : List (List Nat)) (w : List Nat) (j g : Nat), wix L w j = some g → j ≤ g ∧ g < j + L.length ∧ L.getD (g - j) [] = w
  | [], _, _, _, h => by cases h
  | x :: L, w, j, g, h => by
    unfold wix at h
    split at h
    · next e =>
      cases h
      exact ⟨Nat.le_refl _, by simp, by simp [e]⟩
    · obtain ⟨a1, a2, a3⟩ := wix_some L w (j + 1) g h
      refine ⟨by omega, by simp; omega, ?_⟩
      rw [show g - j = (g - (j + 1)) + 1 by omega]
      simpa using a3
theorem wix_none : ∀ (L : List (List Nat)) (w : List Nat) (j : Nat), wix L w j = none ↔ w ∉ L
  | [], w, j => by simp [wix]
  | x :: L, w, j => by
    unfold wix
    split
    · next e => simp [e]
    · next e =>
      rw [wix_none L w (j + 1)]
      simp [Ne.symm e]
theorem cW_sub : ∀ k, k < 4 → ∀ x ∈ cWords k, x ∈ gWords := by decide +kernel
theorem s8_add {M : Mem} {Q : Mem → Prop} {c : Nat} {x y z : Int32} (hc : M 158 3 = nI c) (hc4 : c ≤ 400) (h : Q (xu (xu (xu (xu M 159 c x) 160 c y) 161 c z) 158 3 (nI (c + 1)))) : FX8_add Q 158 x y z M := by
  unfold FX8_add
  refine ⟨fun q => ?_, fun _ => ⟨?_, ?_⟩⟩
  · rw [hc] at q
    exact absurd ((nI_leI (a := 401) (by omega) (by omega)).mp q) (by omega)
  · rw [hc]; exact vp_in_nI (by omega) (by omega)
  rintro M1 rfl
  rw [hc, ixn (by omega), show xu M (158 + 1) c x 158 3 = nI c by rw [xu_cell _ _ _ (by decide)]; exact hc, ixn (by omega)]
  refine ⟨vp_in_nI (by omega) (by omega), ?_⟩
  rintro M2 rfl
  rw [show xu (xu M (158 + 1) c x) (158 + 2) c y 158 3 = nI c by rw [xu_cell _ _ _ (by decide), xu_cell _ _ _ (by decide)]; exact hc, ixn (by omega)]
  refine ⟨vp_in_nI (by omega) (by omega), ?_⟩
  rintro M3 rfl M4 rfl
  rw [show xu (xu (xu M (158 + 1) c x) (158 + 2) c y) (158 + 3) c z 158 3 = nI c by rw [xu_cell _ _ _ (by decide), xu_cell _ _ _ (by decide), xu_cell _ _ _ (by decide)]; exact hc, nI_1]
  exact h
theorem LD {c : Nat} (h : isD c = true) : isL c = false := by
  simp [isD] at h
  simp [isL]
  omega
theorem bI_0 {A B : Prop} {r : Bool} (h1 : r = false → A) (h2 : r = true → B) : (bI r = 0 → A) ∧ (¬ bI r = 0 → B) := by
  cases r
  · exact ⟨fun _ => h1 rfl, fun q => absurd rfl q⟩
  · exact ⟨fun q => absurd q (by decide), fun _ => h2 rfl⟩
theorem s8_endOf {b : Nat → Nat} {n p : Nat} {M : Mem} {Q : Int32 → Prop} (hb : BT b n M) (hn : n ≤ 400) (hp : p < n) (h : Q (nI (pcE b n p))) : FX8_endOf Q 165 (nI p) (nI n) M := by
  unfold FX8_endOf NX8_endOf_24
  have hbp := (hb p hp).1
  refine s8_signAt hb hn hp (s8_isLetter hbp (s8_signAt hb hn hp (s8_isDigit hbp ?_)))
  rw [nI_1]
  have key : pcE b n p = (if isL (b p) = true then ren b n isL (p + 1) else if isD (b p) = true then ren b n isD (p + 1) else p + 1) := by
    unfold pcE; rw [if_neg (by omega)]
  rw [key] at h
  refine xlp_for (fun r (a : Int32) => ∃ s, s + r = n ∧ p < s ∧ a = nI s ∧ Q (nI (if isL (b p) = true then ren b n isL s else if isD (b p) = true then ren b n isD s else s))) ?_ ?_ (n - (p + 1)) _ ⟨p + 1, by omega, by omega, rfl, h⟩
  · rintro a B ⟨s, hs, hps, rfl, hq⟩
    unfold lbX8_endOf_24
    refine ⟨fun _ => ?_, fun q => absurd ((nI_leI (by omega) (by omega)).mpr (by omega)) q⟩
    rw [ren_at (fun q => absurd q.1 (by omega)), ren_at (fun q => absurd q.1 (by omega))] at hq
    simpa using hq
  · rintro r a B ⟨s, hs, hps, rfl, hq⟩ hB
    unfold lbX8_endOf_24
    have hbs := (hb s (by omega)).1
    refine ⟨fun q => absurd ((nI_leI (by omega) (by omega)).mp q) (by omega), fun _ => ?_⟩
    rw [nI_1]
    have dig : (isL (b p) = true → isL (b s) = false) → NX8_endOf_46 Q (fun l5 => B l5) 165 (nI n) (bI (isL (b p))) (bI (isD (b p))) (nI s) M := by
      intro hnl
      unfold NX8_endOf_46
      rw [nI_1]
      refine bI_0 (fun h1 => ?_) (fun h1 => ?_)
      · by_cases h2 : isL (b p) = true
        · rw [if_pos h2, ren_at (fun q => absurd q.2 (by simp [hnl h2]))] at hq
          exact hq
        · rw [if_neg h2, if_neg (by simp [h1])] at hq
          exact hq
      · refine s8_signAt hb hn (by omega) (s8_isDigit hbs ?_)
        rw [if_neg (by simp [LD h1]), if_pos h1] at hq
        refine ⟨fun h2 => ?_, fun h2 => ?_⟩
        · rw [ren_at (fun q => absurd q.2 (by simp [h2]))] at hq
          exact hq
        · rw [ren_go (by omega) h2] at hq
          refine hB _ ⟨s + 1, by omega, by omega, rfl, ?_⟩
          rw [if_neg (by simp [LD h1]), if_pos h1]
          exact hq
    refine bI_0 (fun h1 => dig (fun q => absurd q (by simp [h1]))) (fun h1 => ?_)
    refine s8_signAt hb hn (by omega) (s8_isLetter hbs ⟨fun h2 => ?_, fun h2 => dig (fun _ => h2)⟩)
    refine hB _ ⟨s + 1, by omega, by omega, rfl, ?_⟩
    rw [if_pos h1, ren_go (by omega) h2] at hq
    rw [if_pos h1]
    exact hq
theorem s8_numberOf {b : Nat → Nat} {n p e : Nat} {M : Mem} {Q : Int32 → Prop} (hb : BT b n M) (hn : n ≤ 400) (hp : p < e) (he : e ≤ n) (hd : ∀ j, p ≤ j → j < e → isD (b j) = true) (h : ∀ v, (e - p ≤ 4 → v = nI (dgs b p (e - p))) → Q v) : FX8_numberOf Q 165 (nI p) (nI e) M := by
  unfold FX8_numberOf NX8_numberOf_5
  refine xlp_for (fun r (a : Int32 × Int32) => ∃ s, s + r = e ∧ p ≤ s ∧ s ≤ p + 4 ∧ a = (nI (dgs b p (s - p)), nI s)) ?_ ?_ (e - p) _ ⟨p, by omega, by omega, by omega, by rw [Nat.sub_self]; rfl⟩
  · rintro a B ⟨s, hs, h1, h2, rfl⟩
    show lbX8_numberOf_5 Q 165 (nI p) (nI e) M (fun l3 l4 => B (l3, l4)) (nI (dgs b p (s - p))) (nI s)
    unfold lbX8_numberOf_5
    refine ⟨fun _ => h _ (fun _ => by rw [show s = e by omega]), fun q => absurd ((nI_leI (by omega) (by omega)).mpr (by omega)) q⟩
  · rintro r a B ⟨s, hs, h1, h2, rfl⟩ hB
    show lbX8_numberOf_5 Q 165 (nI p) (nI e) M (fun l3 l4 => B (l3, l4)) (nI (dgs b p (s - p))) (nI s)
    unfold lbX8_numberOf_5
    refine ⟨fun q => absurd ((nI_leI (by omega) (by omega)).mp q) (by omega), fun _ => ?_⟩
    rw [show nI p + 4 = nI (p + 4) from nI_add p 4]
    refine ⟨fun q => h _ (fun q2 => absurd ((nI_leI (by omega) (by omega)).mp q) (by omega)), fun q => ?_⟩
    have hs4 : s < p + 4 := by
      have := mt (nI_leI (a := p + 4) (b := s) (by omega) (by omega)).mpr q
      omega
    refine s8_signAt hb hn (by omega) ?_
    rintro y rfl
    have hds := hd s h1 (by omega)
    simp [isD] at hds
    rw [show nI (dgs b p (s - p)) * 10 = nI (dgs b p (s - p) * 10) from pk_mul _ 10, nI_add, show nI (dgs b p (s - p) * 10 + b s) - 48 = nI (dgs b p (s - p) * 10 + b s - 48) from pk_sub (b := 48) (by omega), nI_1]
    refine hB _ ⟨s + 1, by omega, by omega, by omega, ?_⟩
    rw [show s + 1 - p = (s - p) + 1 by omega]
    show _ = (nI (10 * dgs b p (s - p) + (b (p + (s - p)) - 48)), _)
    rw [show p + (s - p) = s by omega, show dgs b p (s - p) * 10 + b s - 48 = 10 * dgs b p (s - p) + (b s - 48) by omega]
theorem pcT_L {b : Nat → Nat} {n p : Nat} (hp : p < n) (h : isL (b p) = true) : pcT b n p = (if wof b n p = none then 1 else 2) := by
  unfold pcT; rw [if_neg (by omega), if_pos h]
theorem pcT_D {b : Nat → Nat} {n p : Nat} (hp : p < n) (h : isD (b p) = true) : pcT b n p = (if ren b n isD (p + 1) - p ≤ 4 then 3 else 1) := by
  unfold pcT; rw [if_neg (by omega), if_neg (by simp [LD h]), if_pos h]
theorem pcT_S {b : Nat → Nat} {n p : Nat} (hp : p < n) (h : isL (b p) = false) (h2 : isD (b p) = false) : pcT b n p = (if isM (b p) = true then 4 else 1) := by
  unfold pcT; rw [if_neg (by omega), if_neg (by simp [h]), if_neg (by simp [h2])]
theorem pcV_L {b : Nat → Nat} {n p : Nat} (h : isL (b p) = true) : pcV b n p = (wof b n p).getD 0 := by
  unfold pcV; rw [if_pos h]
theorem pcV_D {b : Nat → Nat} {n p : Nat} (h : isD (b p) = true) : pcV b n p = dgs b p (ren b n isD (p + 1) - p) := by
  unfold pcV; rw [if_neg (by simp [LD h]), if_pos h]
theorem pcV_S {b : Nat → Nat} {n p : Nat} (h : isL (b p) = false) (h2 : isD (b p) = false) : pcV b n p = b p := by
  unfold pcV; rw [if_neg (by simp [h]), if_neg (by simp [h2])]
theorem pcE_L {b : Nat → Nat} {n p : Nat} (hp : p < n) (h : isL (b p) = true) : pcE b n p = ren b n isL (p + 1) := by
  unfold pcE; rw [if_neg (by omega), if_pos h]
theorem pcE_D {b : Nat → Nat} {n p : Nat} (hp : p < n) (h : isD (b p) = true) : pcE b n p = ren b n isD (p + 1) := by
  unfold pcE; rw [if_neg (by omega), if_neg (by simp [LD h]), if_pos h]
theorem pcE_S {b : Nat → Nat} {n p : Nat} (hp : p < n) (h : isL (b p) = false) (h2 : isD (b p) = false) : pcE b n p = p + 1 := by
  unfold pcE; rw [if_neg (by omega), if_neg (by simp [h]), if_neg (by simp [h2])]
theorem pcE_E {b : Nat → Nat} {n : Nat} : pcE b n n = n := by unfold pcE; rw [if_pos (Nat.le_refl _)]
/-- the rows of pieces that the class has cut -/
def TKr (k : Nat) (b : Nat → Nat) (n c : Nat) (M : Mem) : Prop := ∀ i, i < c → KR k (pcT b n (pos b n i)) (pcV b n (pos b n i)) (M 159 i) ∧ (pcT b n (pos b n i) = 3 → M 160 i = nI (pcV b n (pos b n i))) ∧ M 161 i = nI (pos b n i)
theorem TKr_add {k : Nat} {b : Nat → Nat} {n c : Nat} {M : Mem} {x y z : Int32} (h : TKr k b n c M) (h1 : KR k (pcT b n (pos b n c)) (pcV b n (pos b n c)) x) (h2 : pcT b n (pos b n c) = 3 → y = nI (pcV b n (pos b n c))) (h3 : z = nI (pos b n c)) (w : Int32) : TKr k b n (c + 1) (xu (xu (xu (xu M 159 c x) 160 c y) 161 c z) 158 3 w) := by
  intro i hi
  by_cases hc : i = c
  · subst hc
    simp [xu_if]
    exact ⟨h1, h2, h3⟩
  · simp [xu_if, hc]
    exact h i (by omega)
theorem s8_cut {k : Nat} {b : Nat → Nat} {n : Nat} {M : Mem} {Q : Mem → Prop} (hk : k < 4) (hb : BT b n M) (hn : n ≤ 400) (h : ∀ M2 m, m ≤ n → pos b n m = n → (∀ i, i < m → pos b n i < n) → TKr k b n (m + 1) M2 → M2 158 3 = nI (m + 1) → (∀ c i, (c < 158 ∨ 161 < c) → M2 c i = M c i) → Q M2) : FX8_cut Q 158 165 (nI n) (1000 + k) M := by
  unfold FX8_cut NX8_cut_8
  rintro M0 rfl
  refine xlp_ind (fun (a : Int32 × Mem) => ∃ p c, p ≤ n ∧ c ≤ p ∧ a.1 = nI p ∧ ren b n isB p = pos b n c ∧ (∀ i, i < c → pos b n i < n) ∧ TKr k b n c a.2 ∧ a.2 158 3 = nI c ∧ (∀ d i, (d < 158 ∨ 161 < d) → a.2 d i = M d i)) (fun a => n - ix a.1) ?_ _ ⟨0, 0, by omega, by omega, rfl, rfl, fun i hi => absurd hi (by omega), fun i hi => absurd hi (by omega), (by exact xu_same M 158 3 0), fun d i hd => (by exact xu_ne M 0 (by omega))⟩
  rintro ⟨a, N⟩ B ⟨p, c, hp, hcp, ha, hpos, hlt, hT, hc, hf⟩ hB
  have ha' : a = nI p := ha
  subst ha'
  replace hf : ∀ d i, (d < 158 ∨ 161 < d) → N d i = M d i := hf
  replace hc : N 158 3 = nI c := hc
  have hb' : BT b n N := fun i hi => by rw [hf 172 i (by omega), hf 165 i (by omega)]; exact hb i hi
  show lbX8_cut_8 Q 158 165 (nI n) (1000 + k) (fun l4 M => B (l4, M)) (nI p) N
  unfold lbX8_cut_8
  refine ⟨fun q => ?_, fun q => ?_⟩
  · have hpn : p = n := by
      have := (nI_leI (by omega) (by omega)).mp q
      omega
    have hpc : pos b n c = n := by rw [← hpos, hpn, ren_at (fun q => absurd q.1 (by omega))]
    refine s8_add hc (by omega) (h _ c (by omega) hpc hlt (TKr_add hT ?_ ?_ ?_ _) (xu_same _ _ _ _) (fun d i hd => ?_))
    · exact Or.inl ⟨(pcT_0 (pos_le _)).mpr hpc, rfl⟩
    · intro h3
      rw [(pcT_0 (pos_le _)).mpr hpc] at h3
      omega
    · rw [hpc]
    · simp only [xu_if]
      rw [if_neg (by omega), if_neg (by omega), if_neg (by omega), if_neg (by omega)]
      exact hf d i hd
  · have hpn : p < n := by
      have := mt (nI_leI (a := n) (b := p) (by omega) (by omega)).mpr q
      omega
    have hbp := (hb p hpn).1
    obtain ⟨e1, e2, e3⟩ := pcE_bd (b := b) hp
    have e4 := e3 hpn
    refine s8_endOf hb' hn hpn ?_
    rw [nI_1]
    have hmax : ∀ R : Int32 → Prop, R (nI (pcE b n p)) → FJ9_max_7cf53 R (nI (p + 1)) (nI (pcE b n p)) N := by
      intro R hR
      unfold FJ9_max_7cf53
      refine ⟨fun _ => hR, fun q => ?_⟩
      have := mt (nI_ltI (a := p + 1) (b := pcE b n p) (by omega) (by omega)).mpr q
      rwa [show p + 1 = pcE b n p by omega]
    refine hmax _ (s8_signAt hb' hn hpn (s8_isLetter hbp ?_))
    -- a piece that is put into the rows
    have put : isB (b p) = false → ∀ x y : Int32, KR k (pcT b n p) (pcV b n p) x → (pcT b n p = 3 → y = nI (pcV b n p)) → FX8_add (fun M1 => B (nI (pcE b n p), M1)) 158 x y (nI p) N := by
      intro hnb x y h1 h2
      have hpc : pos b n c = p := by rw [← hpos, ren_at (fun q => absurd q.2 (by simp [hnb]))]
      refine s8_add hc (by omega) (hB _ ⟨pcE b n p, c + 1, e2, by omega, rfl, by show _ = ren b n isB (pcE b n (pos b n c)); rw [hpc], fun i hi => ?_, TKr_add hT (by rw [hpc]; exact h1) (by rw [hpc]; exact h2) (by rw [hpc]) _, (by simp [xu_if]), fun d i hd => ?_⟩ ?_)
      · by_cases hi2 : i = c
        · rw [hi2, hpc]; exact hpn
        · exact hlt i (by omega)
      · show xu (xu (xu (xu N 159 c x) 160 c y) 161 c (nI p)) 158 3 _ d i = _
        simp only [xu_if]
        rw [if_neg (by omega), if_neg (by omega), if_neg (by omega), if_neg (by omega)]
        exact hf d i hd
      · show n - ix (nI (pcE b n p)) < n - ix (nI p)
        rw [ixn (by omega), ixn (by omega)]
        omega
    refine ⟨fun hL => s8_isDigit hbp ⟨fun hD => ?_, fun hD => ?_⟩, fun hL => ?_⟩
    · -- a sign
      have eE := pcE_S hpn hL hD
      have bl : isB (b p) = true → B (nI (pcE b n p), N) := by
        intro hbl
        refine hB _ ⟨pcE b n p, c, e2, by omega, rfl, ?_, hlt, hT, hc, hf⟩ ?_
        · rw [← hpos, ren_go hpn hbl, eE]
        · show n - ix (nI (pcE b n p)) < n - ix (nI p)
          rw [ixn (by omega), ixn (by omega)]
          omega
      refine ⟨fun h1 => bl ?_, fun h1 => ⟨fun h2 => bl ?_, fun h2 => ?_⟩⟩
      · have : b p = 32 := (nI_eq (b := 32) (by omega) (by omega)).mp h1
        simp [isB, this]
      · have : b p = 10 := (nI_eq (b := 10) (by omega) (by omega)).mp h2
        simp [isB, this]
      · have hnb : isB (b p) = false := by
          simp only [isB, Bool.or_eq_false_iff, decide_eq_false_iff_not]
          exact ⟨fun q => h1 (by rw [q]; rfl), fun q => h2 (by rw [q]; rfl)⟩
        have h3 : ¬ pcT b n p = 3 := by
          rw [pcT_S hpn hL hD]
          split <;> omega
        refine ⟨fun h4 => put hnb _ _ ?_ (fun q => absurd q h3), fun h4 => put hnb _ _ ?_ (fun q => absurd q h3)⟩
        · have h5 := (nI_leI (a := 128) (by omega) (by omega)).mp h4
          have h6 : isM (b p) = false := by simp [isM]; omega
          rw [pcT_S hpn hL hD, h6]
          exact Or.inr (Or.inr (Or.inr (Or.inr ⟨rfl, Or.inl rfl⟩)))
        · have h5 : b p < 128 := by
            have := mt (nI_leI (a := 128) (b := b p) (by omega) (by omega)).mpr h4
            omega
          rw [pcT_S hpn hL hD, pcV_S hL hD]
          cases h6 : isM (b p)
          · exact Or.inr (Or.inr (Or.inr (Or.inr ⟨rfl, Or.inr ⟨b p, h5, rfl, h6⟩⟩)))
          · exact Or.inr (Or.inr (Or.inr (Or.inl ⟨rfl, rfl, h6⟩)))
    · -- a number
      have hnb : isB (b p) = false := by
        simp [isD] at hD
        simp [isB]; omega
      have eE := pcE_D hpn hD
      have eT := pcT_D hpn hD
      have rb := ren_bd (b := b) (n := n) (f := isD) (p := p + 1) (by omega)
      have hds : ∀ j, p ≤ j → j < pcE b n p → isD (b j) = true := by
        intro j h1 h2
        by_cases hj : j = p
        · rw [hj]; exact hD
        · exact rb.2.2.1 j (by omega) (by rw [← eE]; exact h2)
      rw [pk_sub e1]
      refine ⟨fun h1 => ?_, fun h1 => ?_⟩
      · have h2 := (nI_leI (b := 4) (by omega) (by omega)).mp h1
        refine s8_numberOf hb' hn e4 e2 hds (fun v hv => ?_)
        refine put hnb _ _ ?_ (fun _ => ?_)
        · rw [eT, if_pos (by rw [← eE]; exact h2)]
          exact Or.inr (Or.inl ⟨rfl, rfl⟩)
        · rw [hv h2, pcV_D hD, eE]
      · have h2 : ¬ pcE b n p - p ≤ 4 := mt (nI_leI (a := pcE b n p - p) (b := 4) (by omega) (by omega)).mpr h1
        refine s8_numberOf hb' hn e4 e2 hds (fun v hv => ?_)
        have : pcT b n p = 1 := by rw [eT, if_neg (by rw [← eE]; exact h2)]
        refine put hnb _ _ ?_ (fun q => by omega)
        rw [this]
        exact Or.inr (Or.inr (Or.inr (Or.inr ⟨rfl, Or.inl rfl⟩)))
    · -- a word
      have hnb : isB (b p) = false := by
        simp [isL] at hL
        simp [isB]; omega
      have eE := pcE_L hpn hL
      have eT := pcT_L hpn hL
      refine s8_wordOf hb' hn hk e1 e2 ?_
      have h3 : ¬ pcT b n p = 3 := by rw [eT]; split <;> omega
      rw [eE]
      have ew : wix gWords (slc b p (ren b n isL (p + 1))) 0 = wof b n p := rfl
      cases hw : wof b n p with
      | none =>
        rw [hw] at ew
        have : wix (cWords k) (slc b p (ren b n isL (p + 1))) 0 = none := (wix_none _ _ _).mpr (fun q => (wix_none _ _ _).mp ew (cW_sub k hk _ q))
        rw [this, ← eE]
        refine ⟨fun q => absurd rfl q, fun _ => put hnb _ _ ?_ (fun q => absurd q h3)⟩
        rw [eT, hw]
        exact Or.inr (Or.inr (Or.inr (Or.inr ⟨rfl, Or.inl rfl⟩)))
      | some g =>
        rw [hw] at ew
        obtain ⟨g1, g2, g3⟩ := wix_some _ _ _ _ ew
        have g4 : g < 24 := by rw [gW_n] at g2; omega
        have hkr : ∀ x, x = wkI k g → KR k (pcT b n p) (pcV b n p) x := by
          rintro x rfl
          rw [eT, hw, if_neg (by simp), pcV_L hL, hw]
          exact Or.inr (Or.inr (Or.inl ⟨rfl, g4, rfl⟩))
        rw [← g3, Nat.sub_zero, ← eE]
        unfold wkI at hkr
        cases hl : wix (cWords k) (gWords.getD g []) 0 with
        | none =>
          rw [hl] at hkr
          exact ⟨fun q => absurd rfl q, fun _ => put hnb _ _ (hkr _ rfl) (fun q => absurd q h3)⟩
        | some i =>
          rw [hl] at hkr
          have hi := (wix_some _ _ _ _ hl).2.1
          have hi2 : ∀ k, k < 4 → (cWords k).length ≤ 16 := by decide +kernel
          have := hi2 k hk
          exact ⟨fun _ => put hnb _ _ (hkr _ (nI_add 300 i)) (fun q => absurd q h3), fun q => absurd q (m1_ne (by omega))⟩
