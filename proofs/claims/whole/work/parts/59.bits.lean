/-! sets of saints as bits -/
theorem sm14 : ∀ t, t < 14 → ((nI t &&& 31).toBitVec.smod 32).toNat = t := by decide +kernel
theorem shl1_bit : ∀ k, k < 16 → ∀ j, j < 32 → ((1 : Int32) <<< (nI k &&& 31)).toBitVec.getLsbD j = decide (j = k) := by decide +kernel
theorem or_bit (x y : Int32) (j : Nat) : (x ||| y).toBitVec.getLsbD j = (x.toBitVec.getLsbD j || y.toBitVec.getLsbD j) := by
  rw [Int32.toBitVec_or, BitVec.getLsbD_or]
theorem i32_ext {x y : Int32} (h : ∀ j, j < 32 → x.toBitVec.getLsbD j = y.toBitVec.getLsbD j) : x = y := by
  apply Int32.toBitVec_inj.mp
  exact BitVec.eq_of_getLsbD_eq (fun j hj => h j hj)
theorem dset_bit {f : Nat → Int32} : ∀ {n j : Nat}, n ≤ 16 → j < 32 → (dset f n).toBitVec.getLsbD j = decide (j < n ∧ f j = 1)
  | 0, j, _, _ => by simp [dset]
  | n + 1, j, hn, hj => by
    have ih := dset_bit (f := f) (n := n) (j := j) (by omega) hj
    simp only [dset]
    split
    · next h1 =>
      rw [or_bit, ih, shl1_bit n (by omega) j hj]
      by_cases e : j = n
      · subst e; simp [h1]
      · rw [decide_eq_false e, Bool.or_false]
        congr 1
        have : (j < n ↔ j < n + 1) := by omega
        rw [this]
    · next h1 =>
      rw [ih]
      by_cases e : j = n
      · subst e; simp [h1]
      · congr 1
        have : (j < n ↔ j < n + 1) := by omega
        rw [this]
theorem bit_dead {x : Int32} {t : Nat} (ht : t < 14) : (x >>> (nI t &&& 31)) &&& 1 = 0 ↔ x.toBitVec.getLsbD t = false := by
  have hs := sm14 t ht
  have e : ((x >>> (nI t &&& 31)) &&& 1).toBitVec.getLsbD 0 = x.toBitVec.getLsbD t := by
    rw [Int32.toBitVec_and, Int32.toBitVec_shiftRight, BitVec.getLsbD_and, BitVec.sshiftRight', hs, BitVec.getLsbD_sshiftRight]
    have : (1 : Int32).toBitVec.getLsbD 0 = true := by decide
    rw [this]
    simp
    omega
  constructor
  · intro h
    rw [h] at e
    rw [← e]; decide
  · intro h
    apply i32_ext
    intro j hj
    by_cases e0 : j = 0
    · subst e0; rw [e, h]; decide
    · rw [Int32.toBitVec_and, BitVec.getLsbD_and]
      have h1 : (1 : Int32).toBitVec.getLsbD j = false := by
        have : ∀ j, j < 32 → j ≠ 0 → (1 : Int32).toBitVec.getLsbD j = false := by decide +kernel
        exact this j hj e0
      have h0 : (0 : Int32).toBitVec.getLsbD j = false := by
        have : ∀ j, j < 32 → (0 : Int32).toBitVec.getLsbD j = false := by decide +kernel
        exact this j hj
      rw [h1, h0]; simp
theorem s9_isDead {Q : Bool → Prop} {w : Nat} {V M : Mem} {P N g t : Nat} (hC : CW w V M) (ha : WFa V P N g) (ht : t < N) (hy : V 167 (49 + t) = 1 → Q true) (hn : V 167 (49 + t) = 0 → Q false) : FX9_isDead Q w (nI t) M := by
  have h14 := ha.1.2.2.2.2.1
  have e12 : M w 12 = dset (fun t => V 167 (49 + t)) 14 := hC.1.2.2.2.2.2.2.2.2.2
  unfold FX9_isDead
  rw [e12, bit_dead (by omega), dset_bit (by omega) (by omega)]
  refine ⟨fun h => hn ?_, fun h => hy ?_⟩
  · have h := of_decide_eq_false h
    rcases ha.2.2.2.2.2.2.1 t (by omega) with q | q
    · exact q
    · exact absurd ⟨by omega, q⟩ h
  · rcases ha.2.2.2.2.2.2.1 t (by omega) with q | q
    · exact absurd (decide_eq_false (by rintro ⟨-, z⟩; rw [q] at z; exact absurd z (by decide))) h
    · exact q
/-- one more is dead -/
theorem dset_or {f : Nat → Int32} {t : Nat} (ht : t < 14) : dset (fun k => if k = t then 1 else f k) 14 = dset f 14 ||| ((1 : Int32) <<< (nI t &&& 31)) := by
  apply i32_ext
  intro j hj
  rw [dset_bit (by decide) hj, or_bit, dset_bit (by decide) hj, shl1_bit t (by omega) j hj]
  by_cases e : j = t
  · subst e; simp; exact ht
  · simp [e]
/-- the place on the ground -/
def grd (V : Mem) (x : Int32) (k : Nat) : Bool := decide (V 167 (93 + k) = x)
def plc (V : Mem) (g : Nat) (x : Int32) : Option Nat := fnd (grd V x) g 0
theorem s12_placeOf {Q : Int32 → Prop} {V M : Mem} {g : Nat} {x : Int32} (hR : RV V M) (hg : V 167 6 = nI g) (h14 : g ≤ 14) (h : Q (oI (plc V g x))) : FX12_placeOf Q 166 x M := by
  unfold FX12_placeOf NX12_placeOf_2
  have e6 : M (166 + 1) 6 = nI g := (hR.r 6).trans hg
  refine xlp_for (fun r a => ∃ k, k + r = g ∧ a = nI k ∧ fnd (grd V x) r k = plc V g x) ?_ ?_ g _ ⟨0, by omega, rfl, rfl⟩
  · rintro a B ⟨k, hk, rfl, e⟩
    unfold lbX12_placeOf_2
    rw [e6]
    have : k = g := by omega
    subst this
    refine ⟨fun _ => ?_, fun hc => absurd (nI_le (Nat.le_refl _) (by omega)) hc⟩
    rw [← e] at h; exact h
  · rintro r a B ⟨k, hk, rfl, e⟩ hB
    unfold lbX12_placeOf_2
    rw [e6, ix93 (by omega), show M (166 + 1) (93 + k) = V 167 (93 + k) from hR.r _, nI_1]
    simp only [fnd] at e
    refine ⟨fun hc => absurd hc (nI_ge (by omega) (by omega)), fun _ => ⟨vp93 (by omega), fun h0 => hB _ ⟨k + 1, by omega, rfl, ?_⟩, fun h0 => ?_⟩⟩
    · rw [if_neg (by simp [grd, h0])] at e; exact e
    · rw [if_pos (by simp [grd, h0])] at e; rw [← e] at h; exact h
theorem s9_ahead {Q : Int32 → Prop} {w : Nat} {V M : Mem} {g : Nat} {x : Int32} (hC : CW w V M) (hg : V 167 6 = nI g) (h14 : g ≤ 14) (h : Q (oI (plc V g x))) : FX9_aheadOnGround Q w x M := by
  unfold FX9_aheadOnGround NX9_aheadOnGround_2
  have e6 : M w 9 = nI g := hC.1.2.2.2.2.2.2.2.2.1.trans hg
  refine xlp_for (fun r a => ∃ k, k + r = g ∧ a = nI k ∧ fnd (grd V x) r k = plc V g x) ?_ ?_ g _ ⟨0, by omega, rfl, rfl⟩
  · rintro a B ⟨k, hk, rfl, e⟩
    unfold lbX9_aheadOnGround_2
    rw [e6]
    have : k = g := by omega
    subst this
    refine ⟨fun _ => ?_, fun hc => absurd (nI_le (Nat.le_refl _) (by omega)) hc⟩
    rw [← e] at h; exact h
  · rintro r a B ⟨k, hk, rfl, e⟩ hB
    unfold lbX9_aheadOnGround_2
    rw [e6, ixn (by omega), show M (w + 8) k = V 167 (93 + k) from (hC.2.1 k (by omega)).2.2.2.2, nI_1]
    simp only [fnd] at e
    refine ⟨fun hc => absurd hc (nI_ge (by omega) (by omega)), fun _ => ⟨vp_in_nI (by omega) (by decide), fun h0 => hB _ ⟨k + 1, by omega, rfl, ?_⟩, fun h0 => ?_⟩⟩
    · rw [if_neg (by simp [grd, h0])] at e; exact e
    · rw [if_pos (by simp [grd, h0])] at e; rw [← e] at h; exact h
