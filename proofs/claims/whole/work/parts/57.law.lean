/-! the codes of a line, run on a stack -/
def eStep (as : Nat → Int32) (o a : Int32) (st : List Int32) : List Int32 :=
  if o = 0 then a :: st else if o = 1 then as (ix a) :: st
  else match st with
    | [] => []
    | [x] => if o = 9 then [1 - x] else [x]
    | y :: x :: r => if o = 9 then (1 - y) :: x :: r else two o x y :: r
def eRun (as : Nat → Int32) (op ar : Nat → Int32) : Nat → Nat → List Int32 → List Int32
  | _, 0, st => st
  | i, k + 1, st => eRun as op ar (i + 1) k (eStep as (op i) (ar i) st)
def TY : List Bool → List Int32 → Prop
  | [], [] => True
  | b :: bs, v :: vs => (b = true → v = 0 ∨ v = 1) ∧ TY bs vs
  | _, _ => False
def LSk (f : Nat → Int32) : List Int32 → Prop
  | [] => True
  | x :: r => f r.length = x ∧ LSk f r
theorem TY_len : ∀ {bs : List Bool} {vs : List Int32}, TY bs vs → bs.length = vs.length
  | [], [], _ => rfl
  | b :: bs, v :: vs, h => by simp [TY_len (bs := bs) (vs := vs) h.2]
  | [], v :: vs, h => h.elim
  | b :: bs, [], h => h.elim
theorem LSk_up {f f2 : Nat → Int32} : ∀ {st : List Int32}, LSk f st → (∀ j, j < st.length → f2 j = f j) → LSk f2 st
  | [], _, _ => trivial
  | x :: r, h, h2 => ⟨(h2 r.length (by simp)).trans h.1, LSk_up h.2 (fun j hj => h2 j (by simp; omega))⟩
theorem two_b {o x y : Int32} (h : o = 6 ∨ o = 7 ∨ o = 8) : two o x y = 0 ∨ two o x y = 1 := by
  rcases h with rfl | rfl | rfl
  · show (if y ≤ x then (0 : Int32) else 1) = 0 ∨ (if y ≤ x then (0 : Int32) else 1) = 1
    split <;> simp
  · show (if x = y then (1 : Int32) else 0) = 0 ∨ (if x = y then (1 : Int32) else 0) = 1
    split <;> simp
  · show (if x ≤ y then (0 : Int32) else 1) = 0 ∨ (if x ≤ y then (0 : Int32) else 1) = 1
    split <;> simp
theorem two_c {o x y : Int32} (h : o = 10 ∨ o = 11) (hx : x = 0 ∨ x = 1) (hy : y = 0 ∨ y = 1) : two o x y = 0 ∨ two o x y = 1 := by
  rcases h with rfl | rfl <;> rcases hx with rfl | rfl <;> rcases hy with rfl | rfl <;> decide
/-- what a step that can be run is -/
theorem kStep_cases {o po pa : Int32} {bs bs2 : List Bool} {vs : List Int32} (as : Nat → Int32) (a : Int32) (hk : kStep o po pa bs = some bs2) (ht : TY bs vs) :
    ((o = 0 ∨ o = 1) ∧ vs.length < 30 ∧ bs2 = false :: bs) ∨
    (o = 9 ∧ ∃ y r, vs = y :: r ∧ (y = 0 ∨ y = 1) ∧ eStep as o a vs = (1 - y) :: r ∧ TY bs2 ((1 - y) :: r)) ∨
    (o ≠ 0 ∧ o ≠ 1 ∧ o ≠ 9 ∧ (o = 5 → po = 0 ∧ pa ≠ 0) ∧ ∃ y x r, vs = y :: x :: r ∧ (o = 10 ∨ o = 11 → (x = 0 ∨ x = 1) ∧ (y = 0 ∨ y = 1)) ∧ eStep as o a vs = two o x y :: r ∧ TY bs2 (two o x y :: r)) := by
  unfold kStep at hk
  split at hk
  · next h01 =>
    split at hk
    · next hl => cases hk; exact Or.inl ⟨h01, by rw [← TY_len ht]; exact hl, rfl⟩
    · cases hk
  · next h01 =>
    have n0 : o ≠ 0 := fun q => h01 (Or.inl q)
    have n1 : o ≠ 1 := fun q => h01 (Or.inr q)
    cases bs with
    | nil => cases hk
    | cons b bs =>
      cases vs with
      | nil => exact ht.elim
      | cons y vs =>
        obtain ⟨t1, t2⟩ := ht
        cases bs with
        | nil =>
          simp only at hk
          split at hk
          · next h9 =>
            cases hk
            cases vs with
            | cons z vs => exact t2.elim
            | nil =>
              have hy := t1 h9.2
              refine Or.inr (Or.inl ⟨h9.1, y, [], rfl, hy, ?_, fun _ => ?_, trivial⟩)
              · unfold eStep; rw [if_neg n0, if_neg n1]; simp only [h9.1, if_true]
              · rcases hy with rfl | rfl <;> decide
          · cases hk
        | cons b2 bs =>
          cases vs with
          | nil => exact t2.elim
          | cons x vs =>
            obtain ⟨t3, t4⟩ := t2
            simp only at hk
            split at hk
            · next h9 =>
              split at hk
              · next hb =>
                cases hk
                have hy := t1 hb
                refine Or.inr (Or.inl ⟨h9, y, x :: vs, rfl, hy, ?_, fun _ => ?_, t3, t4⟩)
                · unfold eStep; rw [if_neg n0, if_neg n1]; simp only [h9, if_true]
                · rcases hy with rfl | rfl <;> decide
              · cases hk
            · next h9 =>
              have es : eStep as o a (y :: x :: vs) = two o x y :: vs := by
                unfold eStep; rw [if_neg n0, if_neg n1]; simp only [h9, if_false]
              split at hk
              · next h234 =>
                split at hk
                · cases hk
                  refine Or.inr (Or.inr ⟨n0, n1, h9, fun q => ?_, y, x, vs, rfl, fun q => ?_, es, fun q => (by cases q), t4⟩)
                  · rw [q] at h234; rcases h234 with z | z | z <;> exact absurd z (by decide)
                  · rcases q with q | q <;> (rw [q] at h234; rcases h234 with z | z | z <;> exact absurd z (by decide))
                · cases hk
              · split at hk
                · next h5 =>
                  split at hk
                  · next hc =>
                    cases hk
                    refine Or.inr (Or.inr ⟨n0, n1, h9, fun _ => ⟨hc.2.2.1, hc.2.2.2⟩, y, x, vs, rfl, fun q => ?_, es, fun q => (by cases q), t4⟩)
                    rcases q with q | q <;> (rw [q] at h5; exact absurd h5 (by decide))
                  · cases hk
                · next n5 =>
                  split at hk
                  · next h678 =>
                    split at hk
                    · cases hk
                      refine Or.inr (Or.inr ⟨n0, n1, h9, fun q => absurd q n5, y, x, vs, rfl, fun q => ?_, es, fun _ => two_b h678, t4⟩)
                      rcases q with q | q <;> (rw [q] at h678; rcases h678 with z | z | z <;> exact absurd z (by decide))
                    · cases hk
                  · split at hk
                    · next hb =>
                      split at hk
                      · next hc =>
                        cases hk
                        exact Or.inr (Or.inr ⟨n0, n1, h9, fun q => absurd q n5, y, x, vs, rfl, fun _ => ⟨t3 hc.2, t1 hc.1⟩, es, fun _ => two_c hb (t3 hc.2) (t1 hc.1), t4⟩)
                      · cases hk
                    · cases hk
def S18 (M M2 : Mem) : Prop := ∀ c i, c ≠ 18 → M2 c i = M c i
theorem S18.refl (M : Mem) : S18 M M := fun _ _ _ => rfl
theorem S18.trans {M M2 M3 : Mem} (h : S18 M M2) (h2 : S18 M2 M3) : S18 M M3 := fun c i hc => (h2 c i hc).trans (h c i hc)
theorem S18.up {M M2 : Mem} (h : S18 M M2) (i : Nat) (v : Int32) : S18 M (xu M2 18 i v) := fun c j hc => by rw [xu_ne _ _ (by omega)]; exact h c j hc
theorem CW_18 {w : Nat} {V M M2 : Mem} (hw : w = 2 ∨ w = 67) (h : CW w V M) (h2 : S18 M M2) : CW w V M2 := CW_c (fun _ _ _ => rfl) (fun d i hd => h2 _ _ (by simp only [wr] at hd; grind)) h
theorem CL_18 {V M M2 : Mem} (h : CL 12 V M) (h2 : S18 M M2) : CL 12 V M2 := CL_c (fun _ _ _ => rfl) (fun c i h1 h3 => h2 c i (by omega)) h
def hdv (l : List Int32) : Int32 := match l with | [] => 0 | x :: _ => x
/-- what a line's codes from a up to b tell -/
def val (V : Mem) (P t a b : Nat) : Int32 := hdv (eRun (ask V P t) (V 179) (V 180) a (b - a) [])
theorem cRel_ge {x o a : Int32} (h : cRel x o a) (h0 : o = 0) : 0 ≤ x := by
  rcases h with ⟨-, rfl, n, h1, rfl⟩ | ⟨e, -⟩ | ⟨e, -⟩ | ⟨e, -⟩ | ⟨e, -⟩ | ⟨e, -⟩ | ⟨e, -⟩ | ⟨e, -⟩ | ⟨e, -⟩ | ⟨e, -⟩ | ⟨e, -⟩ | ⟨e, -⟩
  · exact nI_pos' (by omega)
  all_goals (rw [h0] at e; exact absurd e (by decide))
theorem cRel_bin {x o a : Int32} (h : cRel x o a) (n0 : o ≠ 0) (n1 : o ≠ 1) (n9 : o ≠ 9) : (¬ 0 ≤ x) ∧ -100 < x ∧ x ≠ -10 := by
  rcases h with ⟨e, -⟩ | ⟨e, -⟩ | ⟨-, rfl⟩ | ⟨-, rfl⟩ | ⟨-, rfl⟩ | ⟨-, rfl⟩ | ⟨-, rfl⟩ | ⟨-, rfl⟩ | ⟨-, rfl⟩ | ⟨e, -⟩ | ⟨-, rfl⟩ | ⟨-, rfl⟩
  · exact absurd e n0
  · exact absurd e n1
  case inr.inr.inr.inr.inr.inr.inr.inr.inr.inl => exact absurd e n9
  all_goals decide
theorem name_neg : ∀ k, k < 9 → (¬ (0 : Int32) ≤ -107 - nI k) ∧ (¬ (-100 : Int32) < -107 - nI k) ∧ (-107 - nI k < 0) ∧ (-100 : Int32) - (-107 - nI k) = nI (7 + k) := by decide +kernel
theorem s2_run {Q : Int32 → Mem → Prop} {w : Nat} {V M : Mem} {P N g t a b : Nat} {ty : Bool} (hw : w = 2 ∨ w = 67) (hC : CW w V M) (ha : WFa V P N g) (ht : t < N) (hab : a ≤ b) (hb : b ≤ 400) (hc : ∀ i, a ≤ i → i < b → cRel (M 13 i) (V 179 i) (V 180 i)) (hk : kRun (V 179) (V 180) a (b - a) [] = some [ty]) (h : ∀ M', S18 M M' → Q (val V P t a b) M') : FX2_run Q 12 (nI a) (nI b) w (nI t) M := by
  unfold FX2_run
  refine s_max ?_
  rw [show mx 0 (nI a) = nI a from (mxN (a := 0) (by omega) (by omega)).trans (by simp)]
  unfold NX2_run_10
  refine xlp_for (fun r x => ∃ i vs bs, i + r = b ∧ a ≤ i ∧ x.1 = nI vs.length ∧ x.2.1 = nI i ∧ S18 M x.2.2 ∧ LSk (x.2.2 18) vs ∧ TY bs vs ∧ kRun (V 179) (V 180) i r bs = some [ty] ∧ hdv (eRun (ask V P t) (V 179) (V 180) i r vs) = val V P t a b ∧ (a < i → V 179 (i - 1) = 0 → ∃ q, vs = V 180 (i - 1) :: q) ∧ (i = a → vs = []) ∧ vs.length ≤ 30) ?_ ?_ (b - a) (0, nI a, M) ⟨a, [], [], by omega, Nat.le_refl _, rfl, rfl, S18.refl M, trivial, trivial, hk, rfl, fun q => by omega, fun _ => rfl, by simp⟩
  · rintro ⟨x1, x2, M1⟩ B ⟨i, vs, bs, hi, hai, hx1, hx2, s1, l1, t1, k1, e1, -, -, -⟩
    have hx1 : x1 = nI vs.length := hx1
    have hx2 : x2 = nI i := hx2
    subst hx1 hx2
    have : i = b := by omega
    subst this
    show lbX2_run_10 Q 12 (nI i) w (nI t) (fun l5 l6 M => B (l5, l6, M)) (nI vs.length) (nI i) M1
    unfold lbX2_run_10
    refine ⟨fun _ => ?_, fun hc => absurd (nI_le (Nat.le_refl _) (by omega)) hc⟩
    have k1 : some bs = some [ty] := k1
    cases k1
    cases vs with
    | nil => exact t1.elim
    | cons v vs =>
      cases vs with
      | cons _ _ => exact t1.2.elim
      | nil =>
        unfold NX2_run_190
        refine ⟨fun hc => absurd hc (nI_nle (n := 1) (by decide) (by decide)), fun _ => ?_⟩
        have e1 : v = val V P t a i := e1
        have l1 : M1 18 0 = v := l1.1
        rw [show M1 (12 + 6) 0 = v from l1, e1]
        exact h M1 s1
  · rintro r ⟨x1, x2, M1⟩ B ⟨i, vs, bs, hi, hai, hx1, hx2, s1, l1, t1, k1, e1, p1, z1, g1⟩ hB
    have hx1 : x1 = nI vs.length := hx1
    have hx2 : x2 = nI i := hx2
    subst hx1 hx2
    have s1 : S18 M M1 := s1
    have l1 : LSk (M1 18) vs := l1
    show lbX2_run_10 Q 12 (nI b) w (nI t) (fun l5 l6 M => B (l5, l6, M)) (nI vs.length) (nI i) M1
    have hcr := hc i hai (by omega)
    simp only [kRun] at k1
    cases hks : kStep (V 179 i) (V 179 (i - 1)) (V 180 (i - 1)) bs with
    | none => rw [hks] at k1; cases k1
    | some bs2 =>
      rw [hks] at k1
      have k1 : kRun (V 179) (V 180) (i + 1) r bs2 = some [ty] := k1
      have e1 : hdv (eRun (ask V P t) (V 179) (V 180) (i + 1) r (eStep (ask V P t) (V 179 i) (V 180 i) vs)) = val V P t a b := e1
      have next : ∀ (M2 : Mem) (vs2 : List Int32), vs2 = eStep (ask V P t) (V 179 i) (V 180 i) vs → S18 M1 M2 → LSk (M2 18) vs2 → TY bs2 vs2 → (V 179 i = 0 → ∃ q, vs2 = V 180 i :: q) → vs2.length ≤ 30 → B (nI vs2.length, nI (i + 1), M2) := by
        rintro M2 vs2 rfl q1 q2 q3 q4 q5
        exact hB _ ⟨i + 1, _, bs2, by omega, by omega, rfl, rfl, s1.trans q1, q2, q3, k1, e1, fun _ => q4, fun q => by omega, q5⟩
      have ec : M1 (12 + 1) i = M 13 i := s1 13 i (by decide)
      unfold lbX2_run_10
      rw [ixn (k := i) (by omega), ec, nI_1]
      refine ⟨fun hc => absurd hc (nI_ge (by omega) (by omega)), fun _ => ⟨fun hc => absurd hc (nI_ge (b := 400) (by omega) (by decide)), fun _ => ⟨vp_in_nI (by omega) (by decide), ?_⟩⟩⟩
      rcases kStep_cases (ask V P t) (V 180 i) hks t1 with ⟨h01, hl, rfl⟩ | ⟨h9, y, q, rfl, hy, es, t2⟩ | ⟨n0, n1, n9, h5, y, x, q, rfl, hbb, es, t2⟩
      · have push : ∀ v, eStep (ask V P t) (V 179 i) (V 180 i) vs = v :: vs → (V 179 i = 0 → v = V 180 i) → NX2_run_82 Q (fun l5 l6 M => B (l5, l6, M)) 12 (nI b) w (nI t) (nI vs.length) (nI i) (12 + 6) (nI vs.length) v M1 := by
          intro v ev e0
          unfold NX2_run_82
          rw [show SHn (12 + 6) = 32 by decide, ixn (by omega), nI_1, nI_1]
          refine ⟨vp_in_nI (by omega) (by decide), ?_⟩
          rintro M2 rfl
          refine next _ (v :: vs) ev.symm ((S18.refl M1).up _ _) ⟨xu_same _ _ _ _, LSk_up l1 (fun j hj => xu_ne _ _ (by omega))⟩ ⟨fun q => (by cases q), t1⟩ (fun q => ⟨vs, by rw [e0 q]⟩) (by simp; omega)
        have np : ¬ 32 ≤ nI vs.length := nI_ge (b := 32) (by omega) (by decide)
        rcases h01 with h0 | h1
        · have hge := cRel_ge hcr h0
          refine ⟨fun _ => ?_, fun hc => absurd hge hc⟩
          unfold NX2_run_45
          refine ⟨fun hc => absurd hc np, fun _ => ⟨fun hc => absurd hge (Int32.not_le.mpr hc), fun _ => push _ ?_ (fun _ => ?_)⟩⟩
          · unfold eStep; rw [if_pos h0]
            congr 1
            rcases hcr with ⟨-, e, -⟩ | ⟨e, -⟩ | ⟨e, -⟩ | ⟨e, -⟩ | ⟨e, -⟩ | ⟨e, -⟩ | ⟨e, -⟩ | ⟨e, -⟩ | ⟨e, -⟩ | ⟨e, -⟩ | ⟨e, -⟩ | ⟨e, -⟩
            · exact e.symm
            all_goals (rw [h0] at e; exact absurd e (by decide))
          · rcases hcr with ⟨-, e, -⟩ | ⟨e, -⟩ | ⟨e, -⟩ | ⟨e, -⟩ | ⟨e, -⟩ | ⟨e, -⟩ | ⟨e, -⟩ | ⟨e, -⟩ | ⟨e, -⟩ | ⟨e, -⟩ | ⟨e, -⟩ | ⟨e, -⟩
            · exact e
            all_goals (rw [h0] at e; exact absurd e (by decide))
        · have : ∃ k, k < 9 ∧ V 180 i = nI k ∧ M 13 i = -107 - nI k := by
            rcases hcr with ⟨e, -⟩ | ⟨-, q⟩ | ⟨e, -⟩ | ⟨e, -⟩ | ⟨e, -⟩ | ⟨e, -⟩ | ⟨e, -⟩ | ⟨e, -⟩ | ⟨e, -⟩ | ⟨e, -⟩ | ⟨e, -⟩ | ⟨e, -⟩
            · rw [h1] at e; exact absurd e (by decide)
            · exact q
            all_goals (rw [h1] at e; exact absurd e (by decide))
          obtain ⟨k, k1, k2, k3⟩ := this
          obtain ⟨m1, m2, m3, m4⟩ := name_neg k k1
          rw [k3]
          refine ⟨fun hc => absurd hc m1, fun _ => ⟨fun hc => absurd hc m2, fun _ => ?_⟩⟩
          unfold NX2_run_45
          rw [m4]
          refine ⟨fun hc => absurd hc np, fun _ => ⟨fun _ => s2_named (CW_18 hw hC s1) ha ht k1 (push _ ?_ (fun q => ?_)), fun hc => absurd m3 hc⟩⟩
          · unfold eStep; rw [if_neg (by rw [h1]; decide), if_pos h1, k2, ixn (by omega)]
          · rw [h1] at q; exact absurd q (by decide)
      · have e10 : M 13 i = -10 := by
          rcases hcr with ⟨e, -⟩ | ⟨e, -⟩ | ⟨e, -⟩ | ⟨e, -⟩ | ⟨e, -⟩ | ⟨e, -⟩ | ⟨e, -⟩ | ⟨e, -⟩ | ⟨e, -⟩ | ⟨-, e⟩ | ⟨e, -⟩ | ⟨e, -⟩
          case inr.inr.inr.inr.inr.inr.inr.inr.inr.inl => exact e
          all_goals (rw [h9] at e; exact absurd e (by decide))
        have hq : (y :: q).length = q.length + 1 := rfl
        have hlen : q.length < 30 := by simp at g1; omega
        rw [e10, hq, nI_s1, ixn (by omega), show M1 (12 + 6) q.length = y from l1.1]
        refine ⟨fun hc => absurd hc (by decide), fun _ => ⟨fun _ => ⟨fun hc => absurd rfl hc, fun _ => ⟨fun hc => absurd hc (nI_nlt (b := 1) (by omega) (by omega)), fun _ => ⟨fun hc => absurd hc (nI_nlt (a := 32) (by omega) (by decide)), fun _ => ⟨vp_in_nI (by omega) (by decide), vp_in_nI (by omega) (by decide), ?_⟩⟩⟩⟩, fun hc => absurd (by decide) hc⟩⟩
        rintro M2 rfl
        exact next _ ((1 - y) :: q) es.symm ((S18.refl M1).up _ _) ⟨xu_same _ _ _ _, LSk_up l1.2 (fun j hj => xu_ne _ _ (by omega))⟩ t2 (fun z => by rw [h9] at z; exact absurd z (by decide)) (by simp; omega)
      · obtain ⟨c1, c2, c3⟩ := cRel_bin hcr n0 n1 n9
        have hlen : q.length < 29 := by simp at g1; omega
        have hq : (y :: x :: q).length = q.length + 1 + 1 := rfl
        rw [hq, i32_m1, nI_s1, nI_s1, ixn (by omega), ixn (by omega), show M1 (12 + 6) (q.length + 1) = y from l1.1, show M1 (12 + 6) q.length = x from l1.2.1]
        refine ⟨fun hc => absurd hc c1, fun _ => ⟨fun _ => ⟨fun _ => ⟨fun hc => absurd hc (nI_nlt (b := 2) (by omega) (by omega)), fun _ => ⟨fun hc => absurd hc (nI_nlt (a := 32) (by omega) (by decide)), fun _ => ⟨vp_in_nI (by omega) (by decide), vp_in_nI (by omega) (by decide), s2_joined hcr n0 n1 n9 (fun q5 => ?_) hbb ⟨vp_in_nI (by omega) (by decide), ?_⟩⟩⟩⟩, fun hc => absurd hc c3⟩, fun hc => absurd c2 hc⟩⟩
        · obtain ⟨h50, h51⟩ := h5 q5
          have hlt : a < i := by
            rcases Nat.lt_or_ge a i with z | z
            · exact z
            · have := z1 (by omega); cases this
          obtain ⟨q', hq'⟩ := p1 hlt h50
          cases hq'
          exact h51
        · rintro M2 rfl
          exact next _ (two (V 179 i) x y :: q) es.symm ((S18.refl M1).up _ _) ⟨xu_same _ _ _ _, LSk_up l1.2.2 (fun j hj => xu_ne _ _ (by omega))⟩ t2 (fun z => absurd z n0) (by simp; omega)
