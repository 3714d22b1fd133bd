/-! in thought nothing is written -/
def GN (V V2 : Mem) : Prop := GF V V2 ∧ (V 166 5 ≠ 0 → ∀ i, V2 171 i = V 171 i)
theorem GN.refl (V : Mem) : GN V V := ⟨GF.refl V, fun _ _ => rfl⟩
theorem GN.trans {V V2 V3 : Mem} (h : GN V V2) (h2 : GN V2 V3) : GN V V3 := ⟨h.1.trans h2.1, fun q i => by
  have e : V2 166 5 = V 166 5 := h.1 166 5 (by decide) (by decide)
  rw [h2.2 (by rw [e]; exact q) i, h.2 q i]⟩
theorem GN.up {V V2 : Mem} (h : GN V V2) (i : Nat) (v : Int32) : GN V (xu V2 167 i v) := ⟨h.1.up i v, fun q j => by rw [xu_ne _ _ (by omega)]; exact h.2 q j⟩
theorem GN_note (a b c : Int32) (V : Mem) : GN V (gNote a b c V) := ⟨GF_note a b c V, fun q i => by unfold gNote; rw [if_neg (fun z => q z.1)]⟩
theorem GN_lvR : ∀ (r k : Nat) (V : Mem), GN V (lvR r k V) := fun r k V => ⟨GF_lvR r k V, fun _ i => by rw [lvR_at, if_neg (by omega)]⟩
theorem GN_leave (k : Nat) (V : Mem) : GN V (gLeave k V) := (GN.refl V).up _ _ |>.trans (GN_lvR _ _ _)
theorem GN_clStep (p : Nat) (V : Mem) : GN V (clStep p V) := by
  unfold clStep
  split
  · split
    · exact (((GN.refl V).up _ _).up _ _).trans (GN_note _ _ _ _)
    · split
      · exact GN.refl V
      · exact ((GN_leave 0 V).up _ _).trans (GN_note _ _ _ _)
  · exact GN.refl V
theorem GN_climb : ∀ (p : Nat) (V : Mem), GN V (gClimb p V)
  | 0, V => GN.refl V
  | p + 1, V => (GN_clStep p V).trans (GN_climb p _)
theorem GN_down (P g p t : Nat) (V : Mem) : GN V (gDown P g p t V) := ((((GN.refl V).up _ _).up _ _).up _ _).trans ((GN_note _ _ _ _).trans (GN_climb _ _))
theorem gDoes_GN {P : Nat} {w a h : Int32} {V : Mem} : GN V (gDoes P w a h V) := by
  unfold gDoes
  split
  · exact (GN.refl V).up _ _
  · split
    · split
      · exact GN.refl V
      · exact (GN.refl V).up _ _
    · split
      · split
        · exact GN.refl V
        · exact GN_down _ _ _ _ _
      · split
        · exact (GN.refl V).up _ _
        · split
          · exact (GN.refl V).up _ _
          · exact GN.refl V
theorem gDeed_GN {P l : Nat} {V : Mem} : GN V (gDeed P l V) := by
  unfold gDeed
  split
  · exact gDoes_GN
  · exact GN.refl V
theorem GN_fo {f : Nat → Mem → Mem} (hf : ∀ k V, GN V (f k V)) (V : Mem) : ∀ n, GN V (fo f V n)
  | 0 => GN.refl V
  | n + 1 => (GN_fo hf V n).trans (hf n _)
theorem gEat_GN {P t : Nat} {V : Mem} : GN V (gEat P t V) := by
  unfold gEat
  split
  · exact ((GN.refl V).up _ _).up _ _
  · exact (((GN.refl V).up _ _).up _ _).trans (GN_note _ _ _ _)
theorem gBask_GN {P k : Nat} {V : Mem} : GN V (gBask P k V) := by
  unfold gBask
  split
  · exact GN.refl V
  · exact gEat_GN
theorem hung_GN {k : Nat} {V : Mem} : GN V (gHung k V) := (GN.refl V).up _ _
theorem gAdv_GN {P p : Nat} {V : Mem} : GN V (gAdv P p V) := by
  unfold gAdv
  split
  · exact GN.refl V
  · exact (((GN.refl V).up _ _).up _ _).trans (GN_note _ _ _ _)
theorem gLean_GN {P p : Nat} {V : Mem} : GN V (gLean P p V) := by
  unfold gLean
  split
  · exact GN.refl V
  · exact (GN.refl V).up _ _
theorem gDie_GN {P t : Nat} {V : Mem} : GN V (gDie P t V) := by
  unfold gDie
  split
  · exact (((GN.refl V).up _ _).up _ _).trans (GN_note _ _ _ _)
  · split
    · exact (((GN.refl V).up _ _).trans (GN_leave _ _)).trans (GN_note _ _ _ _)
    · exact GN.refl V
theorem gMay1_GN {P t : Nat} {V : Mem} : GN V (gMay1 P t V).2 := by
  unfold gMay1
  split
  · split
    · exact GN.refl V
    · exact (GN.refl V).up _ _
  · exact GN.refl V
theorem gMay_GN {P t : Nat} {s : Int32 × Mem} : GN s.2 (gMay P t s).2 := by
  unfold gMay
  split
  · exact GN.refl _
  · have g1 : GN s.2 (gMay1 P t (gOld t s.2)).2 := ((GN.refl s.2).up _ _).trans gMay1_GN
    split
    · exact g1.trans gDie_GN
    · exact g1
theorem gSky_GN {V : Mem} : GN V (gSky V) := by
  unfold gSky
  split
  · exact GN.refl V
  · exact (GN.refl V).up _ _
theorem gAdv0_GN {P : Nat} {V : Mem} : GN V (gAdv0 P V) := by
  unfold gAdv0
  split
  · exact GN.refl V
  · exact (GN.refl V).up _ _
theorem may_GN (P : Nat) (V : Mem) : ∀ n, GN V (fo (gMay P) ((0, V) : Int32 × Mem) n).2
  | 0 => GN.refl V
  | n + 1 => (may_GN P V n).trans gMay_GN
theorem gDay4_GN {P : Nat} {V : Mem} : GN V (gDay4 P V) :=
  ((((GN_fo (fun _ _ => gDeed_GN) V _).trans gSky_GN).trans (((GN_fo (fun _ _ => gBask_GN) _ _).up _ _).up _ _)).trans (GN_fo (fun _ _ => hung_GN) _ _)).trans (gAdv0_GN.trans ((GN_fo (fun _ _ => gAdv_GN) _ _).trans (GN_fo (fun _ _ => gLean_GN) _ _)))
theorem gDay_GN {P N : Nat} {V : Mem} : GN V (gDay P N V).2 := ((gDay4_GN.trans (may_GN P _ N)).trans (GN_climb P _)).up _ _
