/-! the reference reads a condition: its stack -/
def stC : List Nat → Mem → Prop
  | [], _ => True
  | x :: S, M => M 181 S.length = nI x ∧ stC S M
theorem stC.cg {M M2 : Mem} : ∀ {S : List Nat}, stC S M → (∀ t, t < S.length → M2 181 t = M 181 t) → stC S M2
  | [], _, _ => trivial
  | x :: S, h, f => ⟨by rw [f _ (by rw [List.length_cons]; omega)]; exact h.1, stC.cg h.2 (fun t ht => f t (by rw [List.length_cons]; omega))⟩
def opn : List Nat → Nat
  | [] => 0
  | x :: S => opn S + (if x = 9 ∨ x = 12 then 1 else 0)
def wts : List Nat → Nat
  | [] => 0
  | x :: S => wts S + (if x = 12 then 0 else 1)
def brk : List Nat → Nat
  | [] => 0
  | x :: S => brk S + (if x = 12 then 1 else 0)
theorem opn_c (x : Nat) (S : List Nat) : opn (x :: S) = opn S + (if x = 9 ∨ x = 12 then 1 else 0) := rfl
theorem wts_c (x : Nat) (S : List Nat) : wts (x :: S) = wts S + (if x = 12 then 0 else 1) := rfl
theorem brk_c (x : Nat) (S : List Nat) : brk (x :: S) = brk S + (if x = 12 then 1 else 0) := rfl
def sE (x : Nat) : List Nat → List (Nat × Nat)
  | [] => []
  | y :: S => if y = x then (x, 0) :: sE x S else []
def sR (x : Nat) : List Nat → List Nat
  | [] => []
  | y :: S => if y = x then sR x S else y :: S
def okS : List Nat → Prop
  | [] => True
  | x :: S => (9 ≤ x ∧ x ≤ 12) ∧ okS S
/-- what stays while the reference reads conditions -/
def raf (M M2 : Mem) : Prop := ∀ c i, ¬ rdp c i → ¬ (c = 166 ∧ (i = 25 ∨ i = 26 ∨ i = 28)) → ¬ ((c = 179 ∨ c = 180) ∧ 800 ≤ i) → ¬ c = 181 → M2 c i = M c i
theorem raf.refl (M : Mem) : raf M M := fun _ _ _ _ _ _ => rfl
theorem raf.trans {M M2 M3 : Mem} (h : raf M M2) (h2 : raf M2 M3) : raf M M3 := fun c i a1 a2 a3 a4 => (h2 c i a1 a2 a3 a4).trans (h c i a1 a2 a3 a4)
theorem rsl.raf {M M2 : Mem} (h : rsl M M2) : raf M M2 := fun c i a1 a2 a3 _ => h c i a1 (by omega) a3
theorem raf.rfr {M M2 : Mem} (h : raf M M2) : rfr M M2 := fun c i hc => h c i (fun q => by
    rcases hc with hc | hc
    · rw [sc_rd q] at hc; cases hc
    · have := q.1; omega) (fun q => by
    rcases hc with hc | hc
    · rcases q with ⟨rfl, rfl | rfl | rfl⟩ <;> simp [sc] at hc
    · omega) (fun q => by
    rcases hc with hc | hc
    · rw [sc179 q.1 q.2] at hc; cases hc
    · omega) (fun q => by
    rcases hc with hc | hc
    · rw [q] at hc; simp [sc, vr] at hc
    · omega)
def RY (b : Nat → Nat) (n : Nat) (M0 : Mem) (i : Nat) (L : List (Nat × Nat)) (S : List Nat) (M : Mem) : Prop := RA b n i M ∧ RCd L M ∧ M 166 28 = nI S.length ∧ stC S M ∧ M 166 26 = nI (opn S) ∧ raf M0 M
section RYS
variable {b : Nat → Nat} {n : Nat} {M0 : Mem} {i : Nat} {L : List (Nat × Nat)} {S : List Nat} {M : Mem}
theorem RY.rz (h : RY b n M0 i L S M) : RZ b n M i L M := ⟨h.1, h.2.1, rsl.refl M⟩
/-- after a step over sums -/
theorem RY.su {j : Nat} {L2 : List (Nat × Nat)} {M2 : Mem} (h : RY b n M0 i L S M) (z : RZ b n M j L2 M2) : RY b n M0 j L2 S M2 := by
  have f := z.2.2
  refine ⟨z.1, z.2.1, ?_, h.2.2.2.1.cg (fun t _ => f 181 t (fun q => by have := q.1; omega) (by omega) (by omega)), ?_, h.2.2.2.2.2.trans f.raf⟩
  · rw [f 166 28 (fun q => by have := q.2.2; omega) (by omega) (by omega)]; exact h.2.2.1
  · rw [f 166 26 (fun q => by have := q.2.2; omega) (by omega) (by omega)]; exact h.2.2.2.2.1
theorem s12_anext {Q : Mem → Prop} (h : RY b n M0 i L S M) (k : ∀ M2, RY b n M0 (i + 1) L S M2 → Q M2) : FX12_reads Q 166 M :=
  s12_next h.1 (fun M2 ra f => k M2 (h.su (h.rz.mv ra f)))
theorem s12_waits {Q : Mem → Prop} {x : Nat} {N : Mem} (ra : RA b n i N) (rc : RCd L N) (h28 : N 166 28 = nI S.length) (hs : stC S N) (h26 : N 166 26 = nI (opn (x :: S))) (hf : raf M0 N) (hl : S.length < 40) (k : ∀ M2, RY b n M0 i L (x :: S) M2 → Q M2) : FX12_waits Q 166 (nI x) N := by
  unfold FX12_waits
  rw [h28]
  refine ⟨vp_in_nI hl (by omega), ?_⟩
  rw [ixn (by omega)]
  rintro M1 rfl M2 e2
  rw [xu_cell _ _ _ (show (166 : Nat) ≠ 166 + 15 by decide), h28, nI_1] at e2
  have hx : ∀ c j, M2 c j = if c = 166 ∧ j = 28 then nI (S.length + 1) else if c = 181 ∧ j = S.length then nI x else N c j := fun c j => by rw [e2, xu_if, xu_if]
  have f2 : raf N M2 := fun c j a1 a2 a3 a4 => by rw [hx, if_neg (by omega), if_neg (by omega)]
  refine k M2 ⟨ra.mv f2.rfr (ra.rd.cg (fun t a1 a2 => by rw [hx, if_neg (by omega), if_neg (by omega)])), rc.cg (by rw [hx, if_neg (by omega), if_neg (by omega)]) (fun c j hc => by rw [hx, if_neg (by omega), if_neg (by omega)]), by rw [hx, if_pos ⟨rfl, rfl⟩]; rfl, ⟨by rw [hx, if_neg (by omega), if_pos ⟨rfl, rfl⟩], hs.cg (fun t ht => by rw [hx, if_neg (by omega), if_neg (by omega)])⟩, by rw [hx, if_neg (by omega), if_neg (by omega)]; exact h26, hf.trans f2⟩
theorem s12_wait {Q : Mem → Prop} {x : Nat} (h : RY b n M0 i L S M) (hx : x = 10 ∨ x = 11) (hl : S.length < 40) (k : ∀ M2, RY b n M0 i L (x :: S) M2 → Q M2) : FX12_waits Q 166 (nI x) M :=
  s12_waits h.1 h.2.1 h.2.2.1 h.2.2.2.1 (by rw [h.2.2.2.2.1, opn_c, if_neg (by omega)]; rfl) h.2.2.2.2.2 hl k
theorem s12_settles {Q : Mem → Prop} {x : Nat} (h : RY b n M0 i L S M) (hx : 9 ≤ x ∧ x ≤ 11) (hok : okS S) (hl : S.length ≤ 40) (hn : L.length + wts S ≤ 400) (k : ∀ M2, RY b n M0 i (L ++ sE x S) (sR x S) M2 → Q M2) : FX12_settles Q 166 (nI x) M := by
  unfold FX12_settles NX12_settles_0
  refine xlp_for (fun r (a : Mem) => ∃ (L2 : List (Nat × Nat)) (S2 : List Nat), S2.length = r ∧ RY b n M0 i L2 S2 a ∧ okS S2 ∧ L2 ++ sE x S2 = L ++ sE x S ∧ sR x S2 = sR x S ∧ r ≤ 40 ∧ L2.length + wts S2 ≤ 400) ?_ ?_ S.length _ ⟨L, S, rfl, h, hok, rfl, rfl, hl, hn⟩
  · rintro a B ⟨L2, S2, h0, ry, -, e1, e2, -, -⟩
    have : S2 = [] := List.eq_nil_of_length_eq_zero h0
    subst this
    show lbX12_settles_0 Q 166 (nI x) B a
    unfold lbX12_settles_0
    rw [ry.2.2.1]
    refine ⟨fun _ => k a ?_, fun q => absurd (by decide) q⟩
    rw [← e1, ← e2, show sE x [] = [] from rfl, List.append_nil]
    exact ry
  · rintro r a B ⟨L2, S2, h0, ry, ok2, e1, e2, h40, hn2⟩ hB
    cases S2 with
    | nil => cases h0
    | cons y S2 =>
      have h0 : S2.length = r := by rw [List.length_cons] at h0; omega
      show lbX12_settles_0 Q 166 (nI x) B a
      unfold lbX12_settles_0
      have e28 : a 166 28 = nI (S2.length + 1) := ry.2.2.1
      rw [e28, nI_pred]
      refine ⟨fun q => absurd q (nI_nle (by omega) (by omega)), fun _ => ⟨vp_in_nI (by omega) (by omega), ?_⟩⟩
      rw [ixn (by omega), show a (166 + 15) S2.length = nI y from ry.2.2.2.1.1]
      have ok2' : (9 ≤ y ∧ y ≤ 12) ∧ okS S2 := ok2
      refine ⟨fun q => ?_, fun q => ?_⟩
      · have hy : ¬ y = x := fun w => q (by rw [w])
        refine k a ?_
        rw [← e1, ← e2, show sE x (y :: S2) = [] from if_neg hy, show sR x (y :: S2) = y :: S2 from if_neg hy, List.append_nil]
        exact ry
      · have hy : y = x := (nI_eq (by omega) (by omega)).mp q
        subst hy
        intro M1 em1
        have hx1 : ∀ c j, M1 c j = if c = 166 ∧ j = 28 then nI S2.length else a c j := fun c j => by rw [em1, xu_if]
        have f1 : raf a M1 := fun c j a1 a2 a3 a4 => by rw [hx1, if_neg (by omega)]
        have z1 : RZ b n M1 i L2 M1 := ⟨ry.1.mv f1.rfr (ry.1.rd.cg (fun t a1 a2 => by rw [hx1, if_neg (by omega)])), ry.2.1.cg (by rw [hx1, if_neg (by omega)]) (fun c j hc => by rw [hx1, if_neg (by omega)]), rsl.refl _⟩
        have hn3 : wts (y :: S2) = wts S2 + 1 := by rw [wts_c, if_neg (by omega)]
        have E1 : L2 ++ [(y, 0)] ++ sE y S2 = L ++ sE y S := by
          rw [← e1, show sE y (y :: S2) = (y, 0) :: sE y S2 from if_pos rfl]; simp
        have E2 : sR y S2 = sR y S := by rw [← e2]; exact (if_pos rfl).symm
        refine s12_emits (x := (y, 0)) z1 (by omega) (fun M2 z2 => ?_)
        have f2 := z2.2.2
        have s2 : stC S2 M2 := by
          refine ry.2.2.2.1.2.cg (fun t _ => ?_)
          rw [f2 181 t (fun q => by have := q.1; omega) (by omega) (by omega), hx1, if_neg (by omega)]
        have p2 : M2 166 28 = nI S2.length := by
          rw [f2 166 28 (fun q => by have := q.2.2; omega) (by omega) (by omega), hx1, if_pos ⟨rfl, rfl⟩]
        have o2 : M2 166 26 = nI (opn (y :: S2)) := by
          rw [f2 166 26 (fun q => by have := q.2.2; omega) (by omega) (by omega), hx1, if_neg (by omega)]; exact ry.2.2.2.2.1
        have g2 : raf M0 M2 := (ry.2.2.2.2.2.trans f1).trans f2.raf
        refine ⟨fun q9 => ?_, fun q9 => ?_⟩
        · have hy9 : ¬ y = 9 := fun w => q9 (by rw [w]; rfl)
          refine hB _ ⟨L2 ++ [(y, 0)], S2, h0, ⟨z2.1, z2.2.1, p2, s2, ?_, g2⟩, ok2'.2, E1, E2, by omega, by rw [List.length_append]; simp only [List.length_cons, List.length_nil]; omega⟩
          rw [o2, opn_c, if_neg (by omega)]
          rfl
        · have hy9 : y = 9 := (nI_eq (b := 9) (by omega) (by omega)).mp q9
          intro M3 em3
          have o3 : M2 166 26 - 1 = nI (opn S2) := by
            rw [o2]
            show nI (opn S2 + (if y = 9 ∨ y = 12 then 1 else 0)) - 1 = _
            rw [if_pos (Or.inl hy9), nI_pred]
          rw [o3] at em3
          have hx3 : ∀ c j, M3 c j = if c = 166 ∧ j = 26 then nI (opn S2) else M2 c j := fun c j => by rw [em3, xu_if]
          have f3 : raf M2 M3 := fun c j a1 a2 a3 a4 => by rw [hx3, if_neg (by omega)]
          exact hB _ ⟨L2 ++ [(y, 0)], S2, h0, ⟨z2.1.mv f3.rfr (z2.1.rd.cg (fun t a1 a2 => by rw [hx3, if_neg (by omega)])), z2.2.1.cg (by rw [hx3, if_neg (by omega)]) (fun c j hc => by rw [hx3, if_neg (by omega)]), by rw [hx3, if_neg (by omega)]; exact p2, s2.cg (fun t _ => by rw [hx3, if_neg (by omega)]), by rw [hx3, if_pos ⟨rfl, rfl⟩], g2.trans f3⟩, ok2'.2, E1, E2, by omega, by rw [List.length_append]; simp only [List.length_cons, List.length_nil]; omega⟩
end RYS
theorem sE_len (x : Nat) (hx : ¬ x = 12) : ∀ S : List Nat, (sE x S).length + wts (sR x S) = wts S
  | [] => rfl
  | y :: S => by
    by_cases h : y = x
    · rw [show sE x (y :: S) = (x, 0) :: sE x S from if_pos h, show sR x (y :: S) = sR x S from if_pos h, List.length_cons]
      have := sE_len x hx S
      rw [wts_c, if_neg (by omega)]
      omega
    · rw [show sE x (y :: S) = [] from if_neg h, show sR x (y :: S) = y :: S from if_neg h]
      simp
theorem sR_ok (x : Nat) : ∀ S : List Nat, okS S → okS (sR x S)
  | [], h => h
  | y :: S, h => by
    by_cases e : y = x
    · rw [show sR x (y :: S) = sR x S from if_pos e]; exact sR_ok x S h.2
    · rw [show sR x (y :: S) = y :: S from if_neg e]; exact h
theorem sR_len (x : Nat) : ∀ S : List Nat, (sR x S).length ≤ S.length
  | [] => Nat.le_refl _
  | y :: S => by
    by_cases e : y = x
    · rw [show sR x (y :: S) = sR x S from if_pos e, List.length_cons]; have := sR_len x S; omega
    · rw [show sR x (y :: S) = y :: S from if_neg e]; exact Nat.le_refl _
theorem sR_brk (x : Nat) (hx : ¬ x = 12) : ∀ S : List Nat, brk (sR x S) = brk S
  | [] => rfl
  | y :: S => by
    by_cases e : y = x
    · rw [show sR x (y :: S) = sR x S from if_pos e, sR_brk x hx S]
      show brk S = brk S + (if y = 12 then 1 else 0)
      rw [if_neg (by omega)]
      rfl
    · rw [show sR x (y :: S) = y :: S from if_neg e]
theorem brk_le : ∀ S : List Nat, brk S ≤ S.length
  | [] => Nat.le_refl _
  | y :: S => by
    have := brk_le S
    show brk S + (if y = 12 then 1 else 0) ≤ S.length + 1
    split <;> omega
theorem opn_le : ∀ S : List Nat, opn S ≤ S.length
  | [] => Nat.le_refl _
  | y :: S => by
    have := opn_le S
    show opn S + (if y = 9 ∨ y = 12 then 1 else 0) ≤ S.length + 1
    split <;> omega
