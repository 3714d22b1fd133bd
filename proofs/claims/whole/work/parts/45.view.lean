/-! THE WORLD of the class by the view: one place of the one is one place of the other -/
def wdom (d i : Nat) : Bool := if d = 0 then (i == 9 || i == 10 || i == 11 || i == 13 || i == 14 || i == 15 || i == 16 || i == 17 || i == 18) else if d ≤ 3 then decide (i < 10) else if d ≤ 8 then decide (i < 14) else false
def lcC (d i : Nat) : Nat := if d = 0 then (if i = 10 ∨ i = 11 then 166 else 167) else if d = 5 then 170 else 167
def lcJ (d i : Nat) : Nat := if d = 0 then (if i = 9 then 6 else if i = 10 then 6 else if i = 11 then 7 else if i = 13 then 3 else if i = 14 then 5 else if i = 15 then 0 else if i = 16 then 4 else if i = 17 then 1 else 2) else if d = 1 then 63 + i else if d = 2 then 73 + i else if d = 3 then 83 + i else if d = 4 then 7 + i else if d = 5 then i else if d = 6 then 21 + i else if d = 7 then 35 + i else 93 + i
def lcK (d : Nat) : Int32 := if d = 2 then 1 else if d = 3 then 100 else 0
theorem lc_inj0 : ∀ i, i < 19 → ∀ j, j < 19 → (!(wdom 0 i && (wdom 0 j && (lcC 0 i == lcC 0 j && lcJ 0 i == lcJ 0 j))) || i == j) = true := by decide +kernel
theorem lc_inj {d i d' i' : Nat} (h : wdom d i = true) (h' : wdom d' i' = true) (e1 : lcC d i = lcC d' i') (e2 : lcJ d i = lcJ d' i') : d = d' ∧ i = i' := by
  have q : d ≤ 8 ∧ d' ≤ 8 := by
    simp only [wdom] at h h'
    constructor
    · split at h
      · omega
      · split at h
        · omega
        · split at h
          · omega
          · cases h
    · split at h'
      · omega
      · split at h'
        · omega
        · split at h'
          · omega
          · cases h'
  by_cases q2 : d = 0 ∧ d' = 0
  · obtain ⟨rfl, rfl⟩ := q2
    have q3 := lc_inj0 i (by simp [wdom] at h; omega) i' (by simp [wdom] at h'; omega)
    rw [h, h', e1, e2] at q3
    simp at q3
    exact ⟨rfl, q3⟩
  rcases (show d = 0 ∨ d = 1 ∨ d = 2 ∨ d = 3 ∨ d = 4 ∨ d = 5 ∨ d = 6 ∨ d = 7 ∨ d = 8 by omega) with rfl | rfl | rfl | rfl | rfl | rfl | rfl | rfl | rfl <;>
  rcases (show d' = 0 ∨ d' = 1 ∨ d' = 2 ∨ d' = 3 ∨ d' = 4 ∨ d' = 5 ∨ d' = 6 ∨ d' = 7 ∨ d' = 8 by omega) with rfl | rfl | rfl | rfl | rfl | rfl | rfl | rfl | rfl <;>
  first | exact absurd ⟨rfl, rfl⟩ q2 | (simp [wdom] at h h' <;> simp [lcC, lcJ] at e1 e2 <;> grind)
theorem lc_nd {d i : Nat} (h : wdom d i = true) (t : Nat) (ht : t < 14) : ¬ (167 = lcC d i ∧ 49 + t = lcJ d i) := by
  rintro ⟨e1, e2⟩
  simp only [wdom] at h
  simp only [lcC, lcJ] at e1 e2
  grind
theorem lc_ge {d i : Nat} : 166 ≤ lcC d i ∧ lcC d i ≤ 170 ∧ lcC d i ≠ 168 ∧ lcC d i ≠ 169 := by
  simp only [lcC]
  grind
theorem lc_n5 {d i : Nat} (h : wdom d i = true) : ¬ (166 = lcC d i ∧ 5 = lcJ d i) := by
  rintro ⟨e1, e2⟩
  simp only [wdom] at h
  simp only [lcC, lcJ] at e1 e2
  grind
def CWx (w : Nat) (V M : Mem) : Prop := (∀ d i, wdom d i = true → M (w + d) i = V (lcC d i) (lcJ d i) - lcK d) ∧ M w 12 = dset (fun t => V 167 (49 + t)) 14
theorem sub0 (x : Int32) : x - 0 = x := by grind
theorem CW_iff {w : Nat} {V M : Mem} : CW w V M ↔ CWx w V M := by
  constructor
  · rintro ⟨⟨a1, a2, a3, a4, a5, a6, a7, a8, a9, a10⟩, ht, hp⟩
    refine ⟨fun d i h => ?_, a10⟩
    have q : d ≤ 8 := by
      simp only [wdom] at h
      grind
    rcases (show d = 0 ∨ d = 1 ∨ d = 2 ∨ d = 3 ∨ d = 4 ∨ d = 5 ∨ d = 6 ∨ d = 7 ∨ d = 8 by omega) with rfl | rfl | rfl | rfl | rfl | rfl | rfl | rfl | rfl
    · simp [wdom] at h
      rcases h with (((((((rfl | rfl) | rfl) | rfl) | rfl) | rfl) | rfl) | rfl) | rfl <;> simp [lcC, lcJ, lcK, sub0] <;> assumption
    all_goals simp [wdom] at h
    · simp [lcC, lcJ, lcK, sub0]; exact (hp i h).1
    · simp [lcC, lcJ, lcK]; exact (hp i h).2.1
    · simp [lcC, lcJ, lcK]; exact (hp i h).2.2
    · simp [lcC, lcJ, lcK, sub0]; exact (ht i h).1
    · simp [lcC, lcJ, lcK, sub0]; exact (ht i h).2.1
    · simp [lcC, lcJ, lcK, sub0]; exact (ht i h).2.2.1
    · simp [lcC, lcJ, lcK, sub0]; exact (ht i h).2.2.2.1
    · simp [lcC, lcJ, lcK, sub0]; exact (ht i h).2.2.2.2
  · rintro ⟨h, h12⟩
    have f : ∀ i, wdom 0 i = true → M w i = V (lcC 0 i) (lcJ 0 i) := fun i hi => (h 0 i hi).trans (sub0 _)
    refine ⟨⟨f 10 rfl, f 11 rfl, f 15 rfl, f 17 rfl, f 18 rfl, f 13 rfl, f 16 rfl, f 14 rfl, f 9 rfl, h12⟩, fun t ht => ⟨?_, ?_, ?_, ?_, ?_⟩, fun p hp => ⟨?_, ?_, ?_⟩⟩
    · exact (h 4 t (by simp [wdom, ht])).trans (sub0 _)
    · exact (h 5 t (by simp [wdom, ht])).trans (sub0 _)
    · exact (h 6 t (by simp [wdom, ht])).trans (sub0 _)
    · exact (h 7 t (by simp [wdom, ht])).trans (sub0 _)
    · exact (h 8 t (by simp [wdom, ht])).trans (sub0 _)
    · exact (h 1 p (by simp [wdom, hp])).trans (sub0 _)
    · exact h 2 p (by simp [wdom, hp])
    · exact h 3 p (by simp [wdom, hp])
/-- one place of both is put -/
theorem CW_up {w d i : Nat} {V M : Mem} {v v2 : Int32} (h : CW w V M) (hd : wdom d i = true) (hv : v2 - lcK d = v) : CW w (xu V (lcC d i) (lcJ d i) v2) (xu M (w + d) i v) := by
  obtain ⟨h1, h2⟩ := CW_iff.mp h
  refine CW_iff.mpr ⟨fun d' i' h' => ?_, ?_⟩
  · by_cases e : d' = d ∧ i' = i
    · obtain ⟨rfl, rfl⟩ := e
      rw [xu_same, xu_same, hv]
    · rw [xu_ne _ _ (by omega), xu_ne _ _ (fun q => e (lc_inj h' hd q.1 q.2))]
      exact h1 d' i' h'
  · have : ¬ (w = w + d ∧ 12 = i) := by
      rintro ⟨q1, rfl⟩
      have : d = 0 := by omega
      subst this
      simp [wdom] at hd
    rw [xu_ne _ _ this, h2]
    exact dset_congr (fun t ht => (xu_ne _ _ (lc_nd hd t ht)).symm)
def RV (V M : Mem) : Prop := ∀ c i, 166 ≤ c → c ≠ 185 → c ≠ 186 → M c i = V c i
theorem RV.up {V M : Mem} (h : RV V M) (c i : Nat) (v : Int32) : RV (xu V c i v) (xu M c i v) := fun a j h1 h2 h3 => by
  rw [xu_if, xu_if]
  split
  · rfl
  · exact h a j h1 h2 h3
theorem RV.refl (M : Mem) : RV M M := fun _ _ _ _ _ => rfl
def LO (M M2 : Mem) : Prop := ∀ c i, c < 166 → M2 c i = M c i
theorem LO.refl (M : Mem) : LO M M := fun _ _ _ => rfl
theorem LO.up {M M2 : Mem} (h : LO M M2) {c : Nat} (hc : 166 ≤ c) (i : Nat) (v : Int32) : LO M (xu M2 c i v) := fun a j h1 => by
  rw [xu_ne _ _ (by omega)]; exact h a j h1
theorem LO.trans {M M2 M3 : Mem} (h : LO M M2) (h2 : LO M2 M3) : LO M M3 := fun c i hc => (h2 c i hc).trans (h c i hc)
/-- what a step on the world at cell w leaves as it was -/
def FR (w : Nat) (M M2 : Mem) : Prop := ∀ c i, ¬ (w ≤ c ∧ c ≤ w + 9) → c ≠ 18 → M2 c i = M c i
theorem FR.refl (w : Nat) (M : Mem) : FR w M M := fun _ _ _ _ => rfl
theorem FR.up {w : Nat} {M M2 : Mem} (h : FR w M M2) {d : Nat} (hd : d ≤ 9) (i : Nat) (v : Int32) : FR w M (xu M2 (w + d) i v) := fun a j h1 h2 => by
  rw [xu_ne _ _ (by omega)]; exact h a j h1 h2
theorem FR.trans {w : Nat} {M M2 M3 : Mem} (h : FR w M M2) (h2 : FR w M2 M3) : FR w M M3 := fun c i h3 h4 => (h2 c i h3 h4).trans (h c i h3 h4)
/-- the class's world and THE BOOK; in thought nothing is written -/
def CB (w : Nat) (V M : Mem) : Prop := CW w V M ∧ ((w = 2 ∧ V 166 5 = 0 ∧ ∀ i, i < 600 → M 11 i = V 171 i) ∨ (w = 67 ∧ V 166 5 = 1))
theorem CB_up {w d i : Nat} {V M : Mem} {v v2 : Int32} (h : CB w V M) (hd : wdom d i = true) (hv : v2 - lcK d = v) : CB w (xu V (lcC d i) (lcJ d i) v2) (xu M (w + d) i v) := by
  have h8 : d ≤ 8 := by simp only [wdom] at hd; grind
  refine ⟨CW_up h.1 hd hv, ?_⟩
  rw [xu_ne _ _ (lc_n5 hd)]
  rcases h.2 with ⟨rfl, h1, h2⟩ | h2
  · refine Or.inl ⟨rfl, h1, fun j hj => ?_⟩
    have := lc_ge (d := d) (i := i)
    rw [xu_ne _ _ (by omega), xu_ne _ _ (by omega)]
    exact h2 j hj
  · exact Or.inr h2
