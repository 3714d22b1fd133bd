/-! THE LAW told of a saint: class and reference -/
theorem s12_partOf {Q : Int32 → Prop} {x y : Int32} {M : Mem} (hy : ¬ y = 0) (h : Q (if x < 0 then -((y - 1 - x) / y) else x / y)) : FX12_partOf Q 166 x y M := by
  unfold FX12_partOf
  exact ⟨fun q => ⟨hy, by rwa [if_pos q] at h⟩, fun q => ⟨hy, by rwa [if_neg q] at h⟩⟩
def fdv (x y : Int32) : Int32 := if x < 0 then -((y - 1 - x) / y) else x / y
def jfd (x y : Int32) : Int32 := if 0 ≤ (x ^^^ y) then x / y else if x / y * y = x then x / y else x / y - 1
theorem fdv_all : ∀ n, n < 401 → jfd (nI n - 200) 4 = fdv (nI n - 200) 4 ∧ jfd (nI n - 200) 9 = fdv (nI n - 200) 9 := by decide +kernel
theorem fdv_eq {x y : Int32} (hy : y = 4 ∨ y = 9) (h1 : -200 ≤ x.toInt) (h2 : x.toInt ≤ 200) : jfd x y = fdv x y := by
  have e : x = nI (x.toInt + 200).toNat - 200 := by
    apply Int32.toInt_inj.mp
    have : (200 : Int32) = nI 200 := rfl
    rw [this, pk_sub_toInt (by omega) (by omega)]
    omega
  have := fdv_all (x.toInt + 200).toNat (by omega)
  rw [← e] at this
  rcases hy with rfl | rfl
  · exact this.1
  · exact this.2
theorem s_fdiv {Q : Int32 → Prop} {x y : Int32} {M : Mem} (hy : y = 4 ∨ y = 9) (h1 : -200 ≤ x.toInt) (h2 : x.toInt ≤ 200) (h : Q (fdv x y)) : FJ9_floorDiv_7cf53 Q x y M := by
  rw [← fdv_eq hy h1 h2] at h
  unfold jfd at h
  unfold FJ9_floorDiv_7cf53
  refine ⟨by rcases hy with rfl | rfl <;> decide, fun q => by rwa [if_pos q] at h, fun q => ⟨fun q2 => ?_, fun q2 => ?_⟩⟩
  · rwa [if_neg q, if_pos q2] at h
  · rwa [if_neg q, if_neg q2] at h
def two (o x y : Int32) : Int32 := if o = 2 then x + y else if o = 3 then x - y else if o = 4 then x * y else if o = 5 then x / y else if o = 6 then (if y ≤ x then 0 else 1) else if o = 7 then (if x = y then 1 else 0) else if o = 8 then (if x ≤ y then 0 else 1) else if o = 10 then x * y else if x + y ≤ 0 then 0 else 1
theorem s12_twoOf {Q : Int32 → Prop} {o x y : Int32} {M : Mem} (h5 : o = 5 → ¬ y = 0) (h : Q (two o x y)) : FX12_twoOf Q 166 o x y M := by
  unfold FX12_twoOf
  unfold two at h
  by_cases e2 : o = 2
  · rw [if_pos e2] at h; exact br_p e2 h
  rw [if_neg e2] at h
  by_cases e3 : o = 3
  · rw [if_pos e3] at h; exact br_n e2 (br_p e3 h)
  rw [if_neg e3] at h
  by_cases e4 : o = 4
  · rw [if_pos e4] at h; exact br_n e2 (br_n e3 (br_p e4 h))
  rw [if_neg e4] at h
  by_cases e5 : o = 5
  · rw [if_pos e5] at h; exact br_n e2 (br_n e3 (br_n e4 (br_p e5 ⟨h5 e5, h⟩)))
  rw [if_neg e5] at h
  by_cases e6 : o = 6
  · rw [if_pos e6] at h; exact br_n e2 (br_n e3 (br_n e4 (br_n e5 (br_p e6 ⟨fun q => by rwa [if_pos q] at h, fun q => by rwa [if_neg q] at h⟩))))
  rw [if_neg e6] at h
  by_cases e7 : o = 7
  · rw [if_pos e7] at h; exact br_n e2 (br_n e3 (br_n e4 (br_n e5 (br_n e6 (br_p e7 ⟨fun q => by rwa [if_neg q] at h, fun q => by rwa [if_pos q] at h⟩)))))
  rw [if_neg e7] at h
  by_cases e8 : o = 8
  · rw [if_pos e8] at h; exact br_n e2 (br_n e3 (br_n e4 (br_n e5 (br_n e6 (br_n e7 (br_p e8 ⟨fun q => by rwa [if_pos q] at h, fun q => by rwa [if_neg q] at h⟩))))))
  rw [if_neg e8] at h
  by_cases e10 : o = 10
  · rw [if_pos e10] at h; exact br_n e2 (br_n e3 (br_n e4 (br_n e5 (br_n e6 (br_n e7 (br_n e8 (br_p e10 h)))))))
  rw [if_neg e10] at h
  exact br_n e2 (br_n e3 (br_n e4 (br_n e5 (br_n e6 (br_n e7 (br_n e8 (br_n e10 ⟨fun q => by rwa [if_pos q] at h, fun q => by rwa [if_neg q] at h⟩)))))))
theorem s2_joined {Q : Int32 → Prop} {o a c x y : Int32} {M : Mem} (hc : cRel c o a) (n0 : o ≠ 0) (n1 : o ≠ 1) (n9 : o ≠ 9) (h5 : o = 5 → ¬ y = 0) (hb : o = 10 ∨ o = 11 → (x = 0 ∨ x = 1) ∧ (y = 0 ∨ y = 1)) (h : Q (two o x y)) : FX2_joined Q c x y M := by
  unfold FX2_joined
  rcases hc with ⟨e, -⟩ | ⟨e, -⟩ | ⟨rfl, rfl⟩ | ⟨rfl, rfl⟩ | ⟨rfl, rfl⟩ | ⟨rfl, rfl⟩ | ⟨rfl, rfl⟩ | ⟨rfl, rfl⟩ | ⟨rfl, rfl⟩ | ⟨e, -⟩ | ⟨rfl, rfl⟩ | ⟨rfl, rfl⟩
  · exact absurd e n0
  · exact absurd e n1
  · exact ⟨fun q => absurd q (by decide), fun q => absurd q (by decide), fun q => absurd q (by decide), fun q => absurd q (by decide), fun q => absurd q (by decide), fun q => absurd q (by decide), fun q => absurd q (by decide), fun _ => h, fun m8 m7 m6 m5 m4 m3 m2 n1 => absurd rfl n1⟩
  · exact ⟨fun q => absurd q (by decide), fun q => absurd q (by decide), fun q => absurd q (by decide), fun q => absurd q (by decide), fun q => absurd q (by decide), fun q => absurd q (by decide), fun _ => h, fun q => absurd q (by decide), fun m8 m7 m6 m5 m4 m3 n2 m1 => absurd rfl n2⟩
  · exact ⟨fun q => absurd q (by decide), fun q => absurd q (by decide), fun q => absurd q (by decide), fun q => absurd q (by decide), fun q => absurd q (by decide), fun _ => h, fun q => absurd q (by decide), fun q => absurd q (by decide), fun m8 m7 m6 m5 m4 n3 m2 m1 => absurd rfl n3⟩
  · exact ⟨fun q => absurd q (by decide), fun q => absurd q (by decide), fun q => absurd q (by decide), fun q => absurd q (by decide), fun _ => ⟨fun q => ⟨q, h⟩, fun q => absurd q (h5 rfl)⟩, fun q => absurd q (by decide), fun q => absurd q (by decide), fun q => absurd q (by decide), fun m8 m7 m6 m5 n4 m3 m2 m1 => absurd rfl n4⟩
  · exact ⟨fun q => absurd q (by decide), fun q => absurd q (by decide), fun q => absurd q (by decide), fun _ => ⟨fun q => by have h : Q (if y ≤ x then 0 else 1) := h; rwa [if_pos q] at h, fun q => by have h : Q (if y ≤ x then 0 else 1) := h; rwa [if_neg q] at h⟩, fun q => absurd q (by decide), fun q => absurd q (by decide), fun q => absurd q (by decide), fun q => absurd q (by decide), fun m8 m7 m6 n5 m4 m3 m2 m1 => absurd rfl n5⟩
  · exact ⟨fun q => absurd q (by decide), fun q => absurd q (by decide), fun _ => ⟨fun q => by have h : Q (if x = y then 1 else 0) := h; rwa [if_neg q] at h, fun q => by have h : Q (if x = y then 1 else 0) := h; rwa [if_pos q] at h⟩, fun q => absurd q (by decide), fun q => absurd q (by decide), fun q => absurd q (by decide), fun q => absurd q (by decide), fun q => absurd q (by decide), fun m8 m7 n6 m5 m4 m3 m2 m1 => absurd rfl n6⟩
  · exact ⟨fun q => absurd q (by decide), fun _ => ⟨fun q => by have h : Q (if x ≤ y then 0 else 1) := h; rwa [if_pos q] at h, fun q => by have h : Q (if x ≤ y then 0 else 1) := h; rwa [if_neg q] at h⟩, fun q => absurd q (by decide), fun q => absurd q (by decide), fun q => absurd q (by decide), fun q => absurd q (by decide), fun q => absurd q (by decide), fun q => absurd q (by decide), fun m8 n7 m6 m5 m4 m3 m2 m1 => absurd rfl n7⟩
  · exact absurd e n9
  · have e : x &&& y = two 10 x y := by
      obtain ⟨rfl | rfl, rfl | rfl⟩ := hb (Or.inl rfl) <;> decide
    rw [← e] at h
    exact ⟨fun _ => h, fun q => absurd q (by decide), fun q => absurd q (by decide), fun q => absurd q (by decide), fun q => absurd q (by decide), fun q => absurd q (by decide), fun q => absurd q (by decide), fun q => absurd q (by decide), fun n8 m7 m6 m5 m4 m3 m2 m1 => absurd rfl n8⟩
  · have e : x ||| y = two 11 x y := by
      obtain ⟨rfl | rfl, rfl | rfl⟩ := hb (Or.inr rfl) <;> decide
    rw [← e] at h
    exact ⟨fun q => absurd q (by decide), fun q => absurd q (by decide), fun q => absurd q (by decide), fun q => absurd q (by decide), fun q => absurd q (by decide), fun q => absurd q (by decide), fun q => absurd q (by decide), fun q => absurd q (by decide), fun _ _ _ _ _ _ _ _ => h⟩
/-- the doctrine of who sits next above a saint -/
def abv (V : Mem) (P t : Nat) : Int32 :=
  match pof V P (nI t) with
  | none => V 167 (21 + t)
  | some p => match fnd (fun q => decide (V 167 (73 + q) ≠ 0)) (P - (p + 1)) (p + 1) with
    | none => V 167 (21 + t)
    | some q => V 167 (21 + ix (V 167 (73 + q) - 1))
theorem s9_above {Q : Int32 → Prop} {w : Nat} {V M : Mem} {P N g t : Nat} (hC : CW w V M) (ha : WFa V P N g) (ht : t < N) (h : Q (abv V P t)) : FX9_doctrineAbove Q w (nI t) M := by
  have h10 := ha.1.2.2.2.1
  have h14 := ha.1.2.2.2.2.1
  have e10 : M w 10 = nI P := hC.1.1.trans ha.1.1
  have e11 : M w 11 = nI N := hC.1.2.1.trans ha.1.2.1
  unfold FX9_doctrineAbove NX9_doctrineAbove_4
  refine xlp_for (fun r a => ∃ k, k + r = P ∧ a.2 = nI k ∧ ((a.1 = 0 ∧ fnd (sat V (nI t)) r k = pof V P (nI t)) ∨ (a.1 = 1 ∧ ∃ p, pof V P (nI t) = some p ∧ fnd (fun q => decide (V 167 (73 + q) ≠ 0)) (P - (p + 1)) (p + 1) = fnd (fun q => decide (V 167 (73 + q) ≠ 0)) r k))) ?_ ?_ P (0, 0) ⟨0, by omega, rfl, Or.inl ⟨rfl, rfl⟩⟩
  · rintro ⟨f, x⟩ B ⟨k, hk, hx, hf⟩
    have hx : x = nI k := hx
    subst hx
    have : k = P := by omega
    subst this
    show lbX9_doctrineAbove_4 Q w (nI t) M (fun l2 l3 => B (l2, l3)) f (nI k)
    unfold lbX9_doctrineAbove_4
    rw [e10, e11, ixn (by omega), show M (w + 6) t = V 167 (21 + t) from (hC.2.1 t (by omega)).2.2.1]
    refine ⟨fun _ => ⟨fun hc => absurd hc (nI_pos (by omega)), fun _ => ⟨fun hc => absurd hc (nI_ge ht (by omega)), fun _ => ⟨vp_in_nI (by omega) (by decide), ?_⟩⟩⟩, fun hc => absurd (nI_le (Nat.le_refl _) (by omega)) hc⟩
    unfold abv at h
    rcases hf with ⟨-, e⟩ | ⟨-, p, e1, e2⟩
    · rw [← e] at h; exact h
    · rw [e1] at h
      simp only [e2] at h
      exact h
  · rintro r ⟨f, x⟩ B ⟨k, hk, hx, hf⟩ hB
    have hx : x = nI k := hx
    subst hx
    show lbX9_doctrineAbove_4 Q w (nI t) M (fun l2 l3 => B (l2, l3)) f (nI k)
    unfold lbX9_doctrineAbove_4 NX9_doctrineAbove_46
    rw [e10, e11, ixn (k := k) (by omega), show M (w + 2) k = V 167 (73 + k) - 1 from (hC.2.2 k (by omega)).2.1, nI_1]
    refine ⟨fun hc => absurd hc (nI_ge (by omega) (by omega)), fun _ => ⟨vp_in_nI (by omega) (by decide), ?_⟩⟩
    obtain ⟨a, a1, a2⟩ := ha.2.2.1 k (by omega)
    rcases hf with ⟨f0, e⟩ | ⟨f0, p, e1, e2⟩
    · have f0 : f = 0 := f0
      subst f0
      simp only [fnd] at e
      refine ⟨fun _ => ⟨fun hc => hB _ ⟨k + 1, by omega, rfl, Or.inl ⟨rfl, ?_⟩⟩, fun hc => hB _ ⟨k + 1, by omega, rfl, Or.inr ⟨rfl, k, ?_, ?_⟩⟩⟩, fun hc => absurd rfl hc⟩
      · rw [if_neg (by simp [sat, hc])] at e; exact e
      · rw [if_pos (by simp [sat, hc])] at e; exact e.symm
      · congr 1; omega
    · have f0 : f = 1 := f0
      subst f0
      simp only [fnd] at e2
      refine ⟨fun hc => absurd hc (by decide), fun _ => ?_⟩
      rw [a2]
      rcases Nat.eq_zero_or_pos a with q | q
      · subst q
        have z : nI 0 - 1 = (-1 : Int32) := by decide
        rw [z]
        rw [if_neg (by simp [a2]; rfl)] at e2
        refine ⟨fun _ => ⟨fun hc => hB _ ⟨k + 1, by omega, rfl, Or.inr ⟨rfl, p, e1, e2⟩⟩, fun hc => absurd hc.symm (m1_ne (by omega))⟩, fun hc => absurd (by decide) hc⟩
      · obtain ⟨b, rfl⟩ : ∃ b, a = b + 1 := ⟨a - 1, by omega⟩
        rw [nI_s1, ixn (by omega), show M (w + 6) b = V 167 (21 + b) from (hC.2.1 b (by omega)).2.2.1]
        refine ⟨fun hc => absurd hc (nI_pos (by omega)), fun _ => ⟨fun hc => absurd hc (nI_ge (by omega) (by omega)), fun _ => ⟨vp_in_nI (by omega) (by decide), ?_⟩⟩⟩
        rw [if_pos (by simp [a2]; exact nI_ne0 (by omega) (by omega))] at e2
        unfold abv at h
        rw [e1] at h
        simp only [e2, a2, nI_s1] at h
        rw [ixn (by omega)] at h
        exact h
theorem s12_nextAbove {Q : Int32 → Prop} {V M : Mem} {P p : Nat} (hR : RV V M) (hP : V 166 6 = nI P) (h10 : P ≤ 10) (hp : p < P) (h : Q (oI (fnd (fun q => decide (V 167 (73 + q) ≠ 0)) (P - (p + 1)) (p + 1)))) : FX12_nextAbove Q 166 (nI p) M := by
  unfold FX12_nextAbove NX12_nextAbove_4
  rw [nI_1]
  refine xlp_for (fun r a => ∃ k, k + r = P ∧ a = nI k ∧ fnd (fun q => decide (V 167 (73 + q) ≠ 0)) r k = fnd (fun q => decide (V 167 (73 + q) ≠ 0)) (P - (p + 1)) (p + 1)) ?_ ?_ (P - (p + 1)) _ ⟨p + 1, by omega, rfl, rfl⟩
  · rintro a B ⟨k, hk, rfl, e⟩
    unfold lbX12_nextAbove_4
    rw [hR.n, hP]
    have : k = P := by omega
    subst this
    refine ⟨fun _ => ?_, fun hc => absurd (nI_le (Nat.le_refl _) (by omega)) hc⟩
    rw [← e] at h; exact h
  · rintro r a B ⟨k, hk, rfl, e⟩ hB
    unfold lbX12_nextAbove_4
    rw [hR.n, hP]
    refine ⟨fun hc => absurd hc (nI_ge (by omega) (by omega)), fun _ => s12_sitterOf (by omega) ?_⟩
    rw [hR.r, sub1_m1, nI_1]
    simp only [fnd] at e
    refine ⟨fun h0 => hB _ ⟨k + 1, by omega, rfl, ?_⟩, fun h0 => ?_⟩
    · rw [if_neg (by simp [h0])] at e; exact e
    · rw [if_pos (by simp [h0])] at e; rw [← e] at h; exact h
theorem s12_aboveOf {Q : Int32 → Prop} {V M : Mem} {P N g t : Nat} (hR : RV V M) (ha : WFa V P N g) (ht : t < N) (h : Q (abv V P t)) : FX12_aboveOf Q 166 (nI t) M := by
  have h10 := ha.1.2.2.2.1
  have h14 := ha.1.2.2.2.2.1
  have own : Q (V 167 (21 + t)) → NX12_aboveOf_20 Q 166 (nI t) (-1) M := by
    intro h
    unfold NX12_aboveOf_20
    refine ⟨fun hc => absurd rfl hc, fun _ => ⟨vp21 (by omega), ?_⟩⟩
    rw [ix21 (by omega), show M (166 + 1) (21 + t) = V 167 (21 + t) from hR.r _]
    exact h
  unfold FX12_aboveOf
  refine s12_pillarOf hR ha.1.1 h10 ?_
  unfold abv at h
  cases hp : pof V P (nI t) with
  | none =>
    rw [hp] at h
    exact ⟨fun hc => absurd rfl hc, fun _ => own h⟩
  | some p =>
    rw [hp] at h
    have hlt := (pof_some hp).1
    refine ⟨fun _ => s12_nextAbove hR ha.1.1 h10 hlt ?_, fun hc => absurd hc (oI_ne (by omega))⟩
    cases hq : fnd (fun q => decide (V 167 (73 + q) ≠ 0)) (P - (p + 1)) (p + 1) with
    | none => simp only [hq] at h; exact own h
    | some q =>
      simp only [hq] at h
      obtain ⟨q1, q2, q3, -⟩ := fnd_some hq
      have q3 := of_decide_eq_true q3
      obtain ⟨a, a1, a2⟩ := ha.2.2.1 q (by omega)
      obtain ⟨b, rfl⟩ : ∃ b, a = b + 1 := ⟨a - 1, by
        have : a ≠ 0 := by rintro rfl; exact q3 a2
        omega⟩
      rw [a2, nI_s1, ixn (by omega)] at h
      show NX12_aboveOf_20 Q 166 (nI t) (nI q) M
      unfold NX12_aboveOf_20
      refine ⟨fun _ => s12_sitterOf (by omega) ?_, fun hc => absurd hc (m1_ne (by omega))⟩
      rw [hR.r, a2, nI_s1, ix21 (by omega), show M (166 + 1) (21 + b) = V 167 (21 + b) from hR.r _]
      exact ⟨vp21 (by omega), h⟩
/-- what may be asked of a saint -/
def ask (V : Mem) (P t : Nat) (k : Nat) : Int32 :=
  if k = 0 then V 167 (7 + t) else if k = 1 then V 170 t else if k = 2 then V 167 (21 + t) else if k = 3 then V 167 (35 + t)
  else if k = 4 then oI (pof V P (nI t)) + 1 else if k = 5 then (match pof V P (nI t) with | none => 0 | some p => V 167 (63 + p))
  else if k = 6 then V 167 5 else if k = 7 then abv V P t else V 167 0
theorem s2_named {Q : Int32 → Prop} {w : Nat} {V M : Mem} {P N g t k : Nat} (hC : CW w V M) (ha : WFa V P N g) (ht : t < N) (hk : k < 9) (h : Q (ask V P t k)) : FX2_named Q (nI (7 + k)) w (nI t) M := by
  have h10 := ha.1.2.2.2.1
  have h14 := ha.1.2.2.2.2.1
  unfold FX2_named
  refine s9_isSaint (P := N) (hC.1.2.1.trans ha.1.2.1) (by omega) (fun j hj e => ⟨fun _ => s9_pillarOf hC ha.1.1 h10 (m1_ne (by omega)) ?_, fun h => (by cases h)⟩) (fun q => absurd rfl (q t ht))
  rw [ixn (by omega)]
  have c4 := hC.2.1 t (by omega)
  rw [c4.1, c4.2.1, c4.2.2.1, c4.2.2.2.1, show M w 14 = V 167 5 from hC.1.2.2.2.2.2.2.2.1, show M w 15 = V 167 0 from hC.1.2.2.1]
  have v14 : vp_in (nI t) 14 := vp_in_nI (by omega) (by decide)
  rcases (show k = 0 ∨ k = 1 ∨ k = 2 ∨ k = 3 ∨ k = 4 ∨ k = 5 ∨ k = 6 ∨ k = 7 ∨ k = 8 by omega) with rfl | rfl | rfl | rfl | rfl | rfl | rfl | rfl | rfl
  · exact ⟨fun _ => ⟨v14, h⟩, fun q => absurd q (by decide), fun q => absurd q (by decide), fun q => absurd q (by decide), fun q => absurd q (by decide), fun q => absurd q (by decide), fun q => absurd q (by decide), fun q => absurd q (by decide), fun n _ _ _ _ _ _ _ => absurd rfl n⟩
  · exact ⟨fun q => absurd q (by decide), fun _ => ⟨v14, h⟩, fun q => absurd q (by decide), fun q => absurd q (by decide), fun q => absurd q (by decide), fun q => absurd q (by decide), fun q => absurd q (by decide), fun q => absurd q (by decide), fun _ n _ _ _ _ _ _ => absurd rfl n⟩
  · exact ⟨fun q => absurd q (by decide), fun q => absurd q (by decide), fun _ => ⟨v14, h⟩, fun q => absurd q (by decide), fun q => absurd q (by decide), fun q => absurd q (by decide), fun q => absurd q (by decide), fun q => absurd q (by decide), fun _ _ n _ _ _ _ _ => absurd rfl n⟩
  · exact ⟨fun q => absurd q (by decide), fun q => absurd q (by decide), fun q => absurd q (by decide), fun _ => ⟨v14, h⟩, fun q => absurd q (by decide), fun q => absurd q (by decide), fun q => absurd q (by decide), fun q => absurd q (by decide), fun _ _ _ n _ _ _ _ => absurd rfl n⟩
  · exact ⟨fun q => absurd q (by decide), fun q => absurd q (by decide), fun q => absurd q (by decide), fun q => absurd q (by decide), fun _ => h, fun q => absurd q (by decide), fun q => absurd q (by decide), fun q => absurd q (by decide), fun _ _ _ _ n _ _ _ => absurd rfl n⟩
  · exact ⟨fun q => absurd q (by decide), fun q => absurd q (by decide), fun q => absurd q (by decide), fun q => absurd q (by decide), fun q => absurd q (by decide), fun _ => by
      have h : Q (match pof V P (nI t) with | none => 0 | some p => V 167 (63 + p)) := h
      cases hp : pof V P (nI t) with
      | none => rw [hp] at h; exact ⟨fun hc => absurd rfl hc, fun _ => h⟩
      | some p =>
        rw [hp] at h
        have hlt := (pof_some hp).1
        refine ⟨fun _ => ?_, fun hc => absurd hc (oI_ne (by omega))⟩
        show vp_in (nI p) 10 ∧ Q (M (w + 1) (ix (nI p)))
        rw [ixn (by omega), (hC.2.2 p (by omega)).1]
        exact ⟨vp_in_nI (by omega) (by decide), h⟩, fun q => absurd q (by decide), fun q => absurd q (by decide), fun _ _ _ _ _ n _ _ => absurd rfl n⟩
  · exact ⟨fun q => absurd q (by decide), fun q => absurd q (by decide), fun q => absurd q (by decide), fun q => absurd q (by decide), fun q => absurd q (by decide), fun q => absurd q (by decide), fun _ => h, fun q => absurd q (by decide), fun _ _ _ _ _ _ n _ => absurd rfl n⟩
  · exact ⟨fun q => absurd q (by decide), fun q => absurd q (by decide), fun q => absurd q (by decide), fun q => absurd q (by decide), fun q => absurd q (by decide), fun q => absurd q (by decide), fun q => absurd q (by decide), fun _ => s9_above hC ha ht h, fun _ _ _ _ _ _ _ n => absurd rfl n⟩
  · exact ⟨fun q => absurd q (by decide), fun q => absurd q (by decide), fun q => absurd q (by decide), fun q => absurd q (by decide), fun q => absurd q (by decide), fun q => absurd q (by decide), fun q => absurd q (by decide), fun q => absurd q (by decide), fun _ _ _ _ _ _ _ _ => h⟩
theorem s12_asks {Q : Mem → Prop} {V M : Mem} {P N g t : Nat} (hR : RV V M) (ha : WFa V P N g) (ht : t < N) (h : ∀ M', RV V M' → LO M M' → (∀ k, k < 9 → M' 185 k = ask V P t k) → Q M') : FX12_asks Q 166 (nI t) M := by
  have h10 := ha.1.2.2.2.1
  have h14 := ha.1.2.2.2.2.1
  have up : ∀ {M1 : Mem} (i : Nat) (v : Int32), RV V M1 → RV V (xu M1 185 i v) := fun i v r c j z1 z2 z3 => by rw [xu_ne _ _ (by omega)]; exact r c j z1 z2 z3
  unfold FX12_asks
  refine s12_pillarOf hR ha.1.1 h10 ?_
  rw [ix7 (by omega), ix21 (by omega), ix35 (by omega), ixn (by omega)]
  refine ⟨vp7 (by omega), ?_⟩
  rintro M1 e1
  have r1 : RV V M1 := by rw [e1]; exact up _ _ hR
  refine ⟨vp_in_nI (by omega) (by decide), ?_⟩
  rintro M2 e2
  have r2 : RV V M2 := by rw [e2]; exact up _ _ r1
  refine ⟨vp21 (by omega), ?_⟩
  rintro M3 e3
  have r3 : RV V M3 := by rw [e3]; exact up _ _ r2
  refine ⟨vp35 (by omega), ?_⟩
  rintro M4 e4
  have r4 : RV V M4 := by rw [e4]; exact up _ _ r3
  rintro M5 e5
  have r5 : RV V M5 := by rw [e5]; exact up _ _ r4
  have key : ∀ x : Int32, x = ask V P t 5 → NX12_asks_95 Q 166 (nI t) (166 + 19) 5 x M5 := by
    intro x hx
    unfold NX12_asks_95
    rw [show SHn (166 + 19) = 9 by decide]
    refine ⟨vp_in_nI (n := 5) (by decide) (by decide), ?_⟩
    rintro M6 e6
    have r6 : RV V M6 := by rw [e6]; exact up _ _ r5
    rintro M7 e7
    have r7 : RV V M7 := by rw [e7]; exact up _ _ r6
    refine s12_aboveOf r7 ha ht ?_
    rintro M8 e8
    have r8 : RV V M8 := by rw [e8]; exact up _ _ r7
    rintro M9 e9
    have r9 : RV V M9 := by rw [e9]; exact up _ _ r8
    refine h M9 r9 ?_ ?_
    · intro c i hc
      rw [e9, xu_ne _ _ (by omega), e8, xu_ne _ _ (by omega), e7, xu_ne _ _ (by omega), e6, xu_ne _ _ (by omega), e5, xu_ne _ _ (by omega), e4, xu_ne _ _ (by omega), e3, xu_ne _ _ (by omega), e2, xu_ne _ _ (by omega), e1, xu_ne _ _ (by omega)]
    · intro k hk
      have x8 : M8 (166 + 1) 0 = V 167 0 := r8.r 0
      have x6 : M6 (166 + 1) 5 = V 167 5 := r6.r 5
      have x1 : M (166 + 1) (7 + t) = V 167 (7 + t) := hR.r _
      have x2 : M1 (166 + 4) t = V 170 t := r1 170 t (by decide) (by decide) (by decide)
      have x3 : M2 (166 + 1) (21 + t) = V 167 (21 + t) := r2.r _
      have x4 : M3 (166 + 1) (35 + t) = V 167 (35 + t) := r3.r _
      rw [x8] at e9; rw [x6] at e7; rw [x1] at e1; rw [x2] at e2; rw [x3] at e3; rw [x4] at e4
      rw [e9, e8, e7, e6, e5, e4, e3, e2, e1]
      simp only [xu_if]
      rcases (show k = 0 ∨ k = 1 ∨ k = 2 ∨ k = 3 ∨ k = 4 ∨ k = 5 ∨ k = 6 ∨ k = 7 ∨ k = 8 by omega) with rfl | rfl | rfl | rfl | rfl | rfl | rfl | rfl | rfl
      · rfl
      · rfl
      · rfl
      · rfl
      · rfl
      · rw [← hx]; rfl
      · rfl
      · rfl
      · rfl
  cases hp : pof V P (nI t) with
  | none =>
    refine ⟨fun hc => absurd rfl hc, fun _ => key 0 ?_⟩
    show (0 : Int32) = (match pof V P (nI t) with | none => 0 | some p => V 167 (63 + p))
    rw [hp]
  | some p =>
    have hlt := (pof_some hp).1
    refine ⟨fun _ => ?_, fun hc => absurd hc (oI_ne (by omega))⟩
    show vp_in (63 + nI p) 107 ∧ NX12_asks_95 Q 166 (nI t) (166 + 19) 5 (M5 (166 + 1) (ix (63 + nI p))) M5
    rw [ix63 (by omega)]
    refine ⟨vp63 (by omega), key _ ?_⟩
    show M5 167 (63 + p) = (match pof V P (nI t) with | none => 0 | some p => V 167 (63 + p))
    rw [hp, r5.r]
