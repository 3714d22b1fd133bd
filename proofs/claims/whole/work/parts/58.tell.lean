/-! the reference's run; what THE LAW tells -/
theorem e400 (a : Nat) : (400 : Int32) * 0 + nI a = nI a := by
  rw [show (400 : Int32) * 0 = nI 0 by decide, nI_add]; congr 1; omega
theorem s12_runs {Q : Int32 → Mem → Prop} {V M : Mem} {P N g t a b : Nat} {ty : Bool} (hR : RV V M) (hA : ∀ k, k < 9 → M 185 k = ask V P t k) (ha : WFa V P N g) (ht : t < N) (hab : a ≤ b) (hb : b ≤ 400) (hc : ∀ i, a ≤ i → i < b → ∃ x, cRel x (V 179 i) (V 180 i)) (hk : kRun (V 179) (V 180) a (b - a) [] = some [ty]) (h : ∀ M', RV V M' → LO M M' → (∀ k, k < 9 → M' 185 k = ask V P t k) → Q (val V P t a b) M') : FX12_runs Q 166 0 (nI a) (nI b) M := by
  have up : ∀ {M1 : Mem} (i : Nat) (v : Int32), RV V M1 ∧ LO M M1 ∧ (∀ k, k < 9 → M1 185 k = ask V P t k) → RV V (xu M1 186 i v) ∧ LO M (xu M1 186 i v) ∧ (∀ k, k < 9 → xu M1 186 i v 185 k = ask V P t k) := fun i v r => ⟨fun c j z1 z2 z3 => by rw [xu_ne _ _ (by omega)]; exact r.1 c j z1 z2 z3, r.2.1.up (by decide) _ _, fun k hk => by rw [xu_ne _ _ (by omega)]; exact r.2.2 k hk⟩
  unfold FX12_runs NX12_runs_12
  rw [e400]
  refine xlp_for (fun r x => ∃ i vs bs, i + r = b ∧ a ≤ i ∧ x.1 = nI vs.length ∧ x.2.1 = nI i ∧ (RV V x.2.2 ∧ LO M x.2.2 ∧ (∀ k, k < 9 → x.2.2 185 k = ask V P t k)) ∧ LSk (x.2.2 186) vs ∧ TY bs vs ∧ kRun (V 179) (V 180) i r bs = some [ty] ∧ hdv (eRun (ask V P t) (V 179) (V 180) i r vs) = val V P t a b ∧ (a < i → V 179 (i - 1) = 0 → ∃ q, vs = V 180 (i - 1) :: q) ∧ (i = a → vs = []) ∧ vs.length ≤ 30) ?_ ?_ (b - a) (0, nI a, M) ⟨a, [], [], by omega, Nat.le_refl _, rfl, rfl, ⟨hR, LO.refl M, hA⟩, trivial, trivial, hk, rfl, fun q => by omega, fun _ => rfl, by simp⟩
  · rintro ⟨x1, x2, M1⟩ B ⟨i, vs, bs, hi, hai, hx1, hx2, s1, l1, t1, k1, e1, -, -, -⟩
    have hx1 : x1 = nI vs.length := hx1
    have hx2 : x2 = nI i := hx2
    subst hx1 hx2
    have : i = b := by omega
    subst this
    show lbX12_runs_12 Q 166 0 (nI i) (fun l5 l6 M => B (l5, l6, M)) (nI vs.length) (nI i) M1
    unfold lbX12_runs_12
    rw [e400]
    refine ⟨fun _ => ?_, fun hc => absurd (nI_le (Nat.le_refl _) (by omega)) hc⟩
    have k1 : some bs = some [ty] := k1
    cases k1
    cases vs with
    | nil => exact t1.elim
    | cons v vs =>
      cases vs with
      | cons _ _ => exact t1.2.elim
      | nil =>
        have e1 : v = val V P t a i := e1
        have l1 : M1 186 0 = v := l1.1
        rw [show M1 (166 + 20) 0 = v from l1, e1]
        exact h M1 s1.1 s1.2.1 s1.2.2
  · rintro r ⟨x1, x2, M1⟩ B ⟨i, vs, bs, hi, hai, hx1, hx2, s1, l1, t1, k1, e1, p1, z1, g1⟩ hB
    have hx1 : x1 = nI vs.length := hx1
    have hx2 : x2 = nI i := hx2
    subst hx1 hx2
    have s1 : RV V M1 ∧ LO M M1 ∧ (∀ k, k < 9 → M1 185 k = ask V P t k) := s1
    have l1 : LSk (M1 186) vs := l1
    show lbX12_runs_12 Q 166 0 (nI b) (fun l5 l6 M => B (l5, l6, M)) (nI vs.length) (nI i) M1
    obtain ⟨xc, hcr⟩ := hc i hai (by omega)
    simp only [kRun] at k1
    cases hks : kStep (V 179 i) (V 179 (i - 1)) (V 180 (i - 1)) bs with
    | none => rw [hks] at k1; cases k1
    | some bs2 =>
      rw [hks] at k1
      have k1 : kRun (V 179) (V 180) (i + 1) r bs2 = some [ty] := k1
      have e1 : hdv (eRun (ask V P t) (V 179) (V 180) (i + 1) r (eStep (ask V P t) (V 179 i) (V 180 i) vs)) = val V P t a b := e1
      have next : ∀ (M2 : Mem) (vs2 : List Int32), vs2 = eStep (ask V P t) (V 179 i) (V 180 i) vs → (RV V M2 ∧ LO M M2 ∧ (∀ k, k < 9 → M2 185 k = ask V P t k)) → LSk (M2 186) vs2 → TY bs2 vs2 → (V 179 i = 0 → ∃ q, vs2 = V 180 i :: q) → vs2.length ≤ 30 → B (nI vs2.length, nI (i + 1), M2) := by
        rintro M2 vs2 rfl q1 q2 q3 q4 q5
        exact hB _ ⟨i + 1, _, bs2, by omega, by omega, rfl, rfl, q1, q2, q3, k1, e1, fun _ => q4, fun q => by omega, q5⟩
      have eo : M1 (166 + 13) i = V 179 i := s1.1 179 i (by decide) (by decide) (by decide)
      have ea : M1 (166 + 14) i = V 180 i := s1.1 180 i (by decide) (by decide) (by decide)
      have vi : vp_in (nI i) 1200 := vp_in_nI (by omega) (by decide)
      unfold lbX12_runs_12
      rw [e400, ixn (k := i) (by omega), eo, nI_1]
      refine ⟨fun hc => absurd hc (nI_ge (by omega) (by omega)), fun _ => ⟨vi, ?_⟩⟩
      rcases kStep_cases (ask V P t) (V 180 i) hks t1 with ⟨h01, hl, rfl⟩ | ⟨h9, y, q, rfl, hy, es, t2⟩ | ⟨n0, n1, n9, h5, y, x, q, rfl, hbb, es, t2⟩
      · have push : ∀ v, eStep (ask V P t) (V 179 i) (V 180 i) vs = v :: vs → (V 179 i = 0 → v = V 180 i) → NX12_runs_83 Q (fun l5 l6 M => B (l5, l6, M)) 166 0 (nI b) (nI vs.length) (nI i) (166 + 20) (nI vs.length) v M1 := by
          intro v ev e0
          unfold NX12_runs_83
          rw [show SHn (166 + 20) = 420 by decide, ixn (by omega), nI_1, nI_1]
          refine ⟨vp_in_nI (by omega) (by decide), ?_⟩
          rintro M2 rfl
          exact next _ (v :: vs) ev.symm (up _ _ s1) ⟨xu_same _ _ _ _, LSk_up l1 (fun j hj => xu_ne _ _ (by omega))⟩ ⟨fun q => (by cases q), t1⟩ (fun q => ⟨vs, by rw [e0 q]⟩) (by simp; omega)
        have go : NX12_runs_45 Q (fun l5 l6 M => B (l5, l6, M)) 166 0 (nI b) (nI vs.length) (nI i) M1 := by
          unfold NX12_runs_45
          rw [ixn (k := i) (by omega), eo, ea]
          refine ⟨vi, fun h0 => ⟨vi, ?_⟩, fun h0 => ⟨vi, push _ ?_ (fun _ => rfl)⟩⟩
          · have h1 : V 179 i = 1 := by
              rcases h01 with q | q
              · exact absurd q h0
              · exact q
            have : ∃ k, k < 9 ∧ V 180 i = nI k := by
              rcases hcr with ⟨e, -⟩ | ⟨-, k, q1, q2, -⟩ | ⟨e, -⟩ | ⟨e, -⟩ | ⟨e, -⟩ | ⟨e, -⟩ | ⟨e, -⟩ | ⟨e, -⟩ | ⟨e, -⟩ | ⟨e, -⟩ | ⟨e, -⟩ | ⟨e, -⟩
              · rw [h1] at e; exact absurd e (by decide)
              · exact ⟨k, q1, q2⟩
              all_goals (rw [h1] at e; exact absurd e (by decide))
            obtain ⟨k, k1, k2⟩ := this
            rw [k2, ixn (by omega), show M1 (166 + 19) k = ask V P t k from s1.2.2 k k1]
            refine ⟨vp_in_nI (by omega) (by decide), push _ ?_ (fun q => absurd q h0)⟩
            unfold eStep; rw [if_neg h0, if_pos h1, k2, ixn (by omega)]
          · unfold eStep; rw [if_pos h0]
        exact ⟨fun _ => go, fun n0 => ⟨vi, fun n1 => (h01.elim (fun z => absurd z n0) (fun z => absurd z n1)), fun _ => go⟩⟩
      · have hq : (y :: q).length = q.length + 1 := rfl
        have hlen : q.length < 30 := by simp at g1; omega
        have n0 : ¬ V 179 i = 0 := by rw [h9]; decide
        have n1 : ¬ V 179 i = 1 := by rw [h9]; decide
        rw [hq, nI_s1, ixn (by omega), show M1 (166 + 20) q.length = y from l1.1]
        refine ⟨fun hc => absurd hc n0, fun _ => ⟨vi, fun _ => ⟨vi, fun hc => absurd h9 hc, fun _ => ⟨vp_in_nI (by omega) (by decide), vp_in_nI (by omega) (by decide), ?_⟩⟩, fun hc => absurd hc n1⟩⟩
        rintro M2 rfl
        exact next _ ((1 - y) :: q) es.symm (up _ _ s1) ⟨xu_same _ _ _ _, LSk_up l1.2 (fun j hj => xu_ne _ _ (by omega))⟩ t2 (fun z => absurd z n0) (by simp; omega)
      · have hlen : q.length < 29 := by simp at g1; omega
        have hq : (y :: x :: q).length = q.length + 1 + 1 := rfl
        rw [hq, nI_s1, nI_s1, ixn (by omega), ixn (by omega), show M1 (166 + 20) (q.length + 1) = y from l1.1, show M1 (166 + 20) q.length = x from l1.2.1]
        refine ⟨fun hc => absurd hc n0, fun _ => ⟨vi, fun _ => ⟨vi, fun _ => ⟨vi, vp_in_nI (by omega) (by decide), vp_in_nI (by omega) (by decide), s12_twoOf (fun q5 => ?_) ⟨vp_in_nI (by omega) (by decide), ?_⟩⟩, fun hc => absurd hc n9⟩, fun hc => absurd hc n1⟩⟩
        · obtain ⟨h50, h51⟩ := h5 q5
          have hlt : a < i := by
            rcases Nat.lt_or_ge a i with z | z
            · exact z
            · have := z1 (by omega); cases this
          obtain ⟨q', hq'⟩ := p1 hlt h50
          cases hq'
          exact h51
        · rintro M2 rfl
          exact next _ (two (V 179 i) x y :: q) es.symm (up _ _ s1) ⟨xu_same _ _ _ _, LSk_up l1.2.2 (fun j hj => xu_ne _ _ (by omega))⟩ t2 (fun z => absurd z n0) (by simp; omega)
def lnOK (V : Mem) (P t : Nat) (kw : Int32) (l : Nat) : Bool := decide (V 175 l = kw) && (decide (V 177 l = V 178 l) || decide (val V P t (ix (V 177 l)) (ix (V 178 l)) ≠ 0))
def usu (V : Mem) (P t : Nat) (kw : Int32) : Int32 := if kw = 0 then 1 + V 167 (35 + t) / 20 else if kw = 1 then 5 * mx 0 (V 167 (7 + t) - 70) + 20 * mx 0 (V 167 (35 + t) - 80) else fdv (abv V P t - V 167 (21 + t)) 4
def tel0 (V : Mem) (P t : Nat) (kw : Int32) : Int32 := match fnd (lnOK V P t kw) (ix (V 174 0)) 0 with
  | none => usu V P t kw
  | some l => val V P t (ix (V 176 l)) (ix (V 177 l))
def tell (V : Mem) (P t : Nat) (kw : Int32) : Int32 := hd (tel0 V P t kw) (if kw = 2 then -99 else 0) (if kw = 1 then 1000 else 99)
theorem s2_bounded {Q : Int32 → Prop} {kw x : Int32} {M : Mem} (hk : kw = 0 ∨ kw = 1 ∨ kw = 2) (h : Q (hd x (if kw = 2 then -99 else 0) (if kw = 1 then 1000 else 99))) : FX2_bounded Q kw x M := by
  unfold FX2_bounded
  rcases hk with rfl | rfl | rfl
  · exact ⟨fun _ => s11_held (by decide) h, fun q => absurd q (by decide), fun q => absurd rfl q⟩
  · exact ⟨fun q => absurd q (by decide), fun _ => s11_held (by decide) h, fun _ q => absurd rfl q⟩
  · exact ⟨fun q => absurd q (by decide), fun q => absurd q (by decide), fun _ _ => s11_held (by decide) h⟩
theorem abv_b {V : Mem} {P N g t : Nat} (ha : WFa V P N g) (ht : t < N) : -99 ≤ (abv V P t).toInt ∧ (abv V P t).toInt ≤ 99 := by
  have h14 := ha.1.2.2.2.2.1
  have c4 := ha.2.2.2.2.2.1
  unfold abv
  cases hp : pof V P (nI t) with
  | none => exact c4 t ht
  | some p =>
    simp only
    cases hq : fnd (fun q => decide (V 167 (73 + q) ≠ 0)) (P - (p + 1)) (p + 1) with
    | none => exact c4 t ht
    | some q =>
      simp only
      obtain ⟨q1, q2, q3, -⟩ := fnd_some hq
      have q3 := of_decide_eq_true q3
      have := (pof_some hp).1
      obtain ⟨a, a1, a2⟩ := ha.2.2.1 q (by omega)
      obtain ⟨b, rfl⟩ : ∃ b, a = b + 1 := ⟨a - 1, by
        have : a ≠ 0 := by rintro rfl; exact q3 a2
        omega⟩
      rw [a2, nI_s1, ixn (by omega)]
      exact c4 b (by omega)
theorem sub_b {x y : Int32} (hx : -99 ≤ x.toInt ∧ x.toInt ≤ 99) (hy : -99 ≤ y.toInt ∧ y.toInt ≤ 99) : -200 ≤ (x - y).toInt ∧ (x - y).toInt ≤ 200 := by
  rw [Int32.toInt_sub, Int.bmod_eq_of_le (by omega) (by omega)]
  omega
theorem s2_usual {Q : Int32 → Prop} {w : Nat} {V M : Mem} {P N g t : Nat} {kw : Int32} (hC : CW w V M) (ha : WFa V P N g) (ht : t < N) (hk : kw = 0 ∨ kw = 1 ∨ kw = 2) (h : Q (usu V P t kw)) : FX2_usual Q kw w (nI t) M := by
  have h14 := ha.1.2.2.2.2.1
  have c4 := hC.2.1 t (by omega)
  have v14 : vp_in (nI t) 14 := vp_in_nI (by omega) (by decide)
  unfold FX2_usual
  refine s9_isSaint (P := N) (hC.1.2.1.trans ha.1.2.1) (by omega) (fun j hj e => ⟨fun _ => ?_, fun h => (by cases h)⟩) (fun q => absurd rfl (q t ht))
  rw [ixn (by omega), c4.1, c4.2.2.1, c4.2.2.2.1]
  rcases hk with rfl | rfl | rfl
  · exact ⟨fun _ => ⟨v14, h⟩, fun q => absurd q (by decide), fun q => absurd rfl q⟩
  · refine ⟨fun q => absurd q (by decide), fun _ => ⟨v14, s_max ⟨v14, s_max ?_⟩⟩, fun _ q => absurd rfl q⟩
    have h : Q (5 * mx 0 (V 167 (7 + t) - 70) + 20 * mx 0 (V 167 (35 + t) - 80)) := h
    rw [Int32.mul_comm, Int32.mul_comm (mx 0 (V 167 (35 + t) - 80))]
    exact h
  · refine ⟨fun q => absurd q (by decide), fun q => absurd q (by decide), fun _ _ => s9_above hC ha ht ⟨v14, ?_⟩⟩
    have b := sub_b (abv_b ha ht) (ha.2.2.2.2.2.1 t ht)
    exact s_fdiv (Or.inl rfl) b.1 b.2 h
theorem s2_tells {Q : Int32 → Mem → Prop} {w : Nat} {V M : Mem} {P N g t : Nat} {kw : Int32} (hw : w = 2 ∨ w = 67) (hC : CW w V M) (hL : CL 12 V M) (wl : WFl V) (ha : WFa V P N g) (ht : t < N) (hk : kw = 0 ∨ kw = 1 ∨ kw = 2) (h : ∀ M', S18 M M' → Q (tell V P t kw) M') : FX2_tells Q 12 kw w (nI t) M := by
  have h14 := ha.1.2.2.2.2.1
  obtain ⟨n, n16, en, hl⟩ := wl
  unfold FX2_tells
  refine s9_isSaint (P := N) (hC.1.2.1.trans ha.1.2.1) (by omega) (fun j hj e => ⟨fun _ => ?_, fun h => (by cases h)⟩) (fun q => absurd rfl (q t ht))
  unfold NX2_tells_13
  refine xlp_for (fun r a => ∃ l, l + r = n ∧ a.1 = nI l ∧ S18 M a.2 ∧ fnd (lnOK V P t kw) r l = fnd (lnOK V P t kw) n 0) ?_ ?_ n (0, M) ⟨0, by omega, rfl, S18.refl M, rfl⟩
  · rintro ⟨x, M1⟩ B ⟨l, hl2, hx, s1, e1⟩
    have hx : x = nI l := hx
    subst hx
    have : l = n := by omega
    subst this
    have s1 : S18 M M1 := s1
    show lbX2_tells_13 Q 12 kw w (nI t) (fun l4 M => B (l4, M)) (nI l) M1
    unfold lbX2_tells_13
    rw [show M1 12 7 = nI l from (s1 12 7 (by decide)).trans (hL.1.trans en)]
    refine ⟨fun _ => s2_usual (CW_18 hw hC s1) ha ht hk (s2_bounded hk ?_), fun hc => absurd (nI_le (Nat.le_refl _) (by omega)) hc⟩
    have := h M1 s1
    unfold tell tel0 at this
    rw [en, ixn (by omega), ← e1] at this
    exact this
  · rintro r ⟨x, M1⟩ B ⟨l, hl2, hx, s1, e1⟩ hB
    have hx : x = nI l := hx
    subst hx
    have s1 : S18 M M1 := s1
    show lbX2_tells_13 Q 12 kw w (nI t) (fun l4 M => B (l4, M)) (nI l) M1
    obtain ⟨-, a, b, c, hab, hbc, h400, ea, eb, ec, ka, kb⟩ := hl l (by omega)
    obtain ⟨f1, f2, f3, f4, f5⟩ := hL.2 l (by omega) (by rw [en]; exact nI_lt (by omega) (by omega))
    have vi : vp_in (nI l) 16 := vp_in_nI (by omega) (by decide)
    have m2 : M1 (12 + 2) l = V 175 l := (s1 14 l (by decide)).trans f1
    have m3 : M1 (12 + 3) l = nI a := (s1 15 l (by decide)).trans (f2.trans ea)
    have m4 : M1 (12 + 4) l = nI b := (s1 16 l (by decide)).trans (f3.trans eb)
    have m5 : M1 (12 + 5) l = nI c := (s1 17 l (by decide)).trans (f4.trans ec)
    have cr : ∀ i, a ≤ i → i < c → cRel (M 13 i) (V 179 i) (V 180 i) := fun i h1 h2 => f5 i (by omega) (by rw [ea]; exact nI_le h1 (by omega)) (by rw [ec]; exact nI_lt h2 (by omega))
    simp only [fnd] at e1
    have hit : ∀ M2, S18 M M2 → lnOK V P t kw l = true → NX2_tells_73 Q 12 kw w (nI t) (nI l) M2 := by
      intro M2 s2 ok
      unfold NX2_tells_73
      rw [ixn (by omega), show M2 (12 + 3) l = nI a from (s2 15 l (by decide)).trans (f2.trans ea), show M2 (12 + 4) l = nI b from (s2 16 l (by decide)).trans (f3.trans eb)]
      refine ⟨vi, vi, s2_run hw (CW_18 hw hC s2) ha ht (by omega) (by omega) (fun i h1 h2 => by rw [s2 13 i (by decide)]; exact cr i h1 (by omega)) ka (fun M3 s3 => s2_bounded hk ?_)⟩
      have := h M3 (s2.trans s3)
      rw [if_pos ok] at e1
      unfold tell tel0 at this
      rw [en, ixn (by omega), ← e1] at this
      simp only [ea, eb] at this
      rw [ixn (by omega), ixn (by omega)] at this
      exact this
    have miss : ∀ M2, S18 M M2 → lnOK V P t kw l = false → B (nI (l + 1), M2) := by
      intro M2 s2 ok
      refine hB _ ⟨l + 1, by omega, rfl, s2, ?_⟩
      rw [if_neg (by rw [ok]; decide)] at e1
      exact e1
    unfold lbX2_tells_13
    rw [show M1 12 7 = nI n from (s1 12 7 (by decide)).trans (hL.1.trans en), ixn (by omega), m2, m4, m5, nI_1]
    refine ⟨fun hc => absurd hc (nI_ge (by omega) (by omega)), fun _ => ⟨vi, fun hc => miss M1 s1 (by simp [lnOK, hc]), fun hk2 => ⟨vi, vi, fun hc => hit M1 s1 (by simp [lnOK, hk2, eb, ec, hc]), fun hc => ⟨vi, vi, ?_⟩⟩⟩⟩
    have hbc2 : b < c := by
      rcases Nat.lt_or_ge b c with z | z
      · exact z
      · exact absurd (by congr 1; omega) hc
    refine s2_run hw (CW_18 hw hC s1) ha ht (by omega) (by omega) (fun i h1 h2 => by rw [s1 13 i (by decide)]; exact cr i (by omega) h2) (kb hbc2) (fun M2 s2 => ⟨fun z => miss M2 (s1.trans s2) ?_, fun z => hit M2 (s1.trans s2) ?_⟩)
    · unfold lnOK
      rw [eb, ec, ixn (by omega), ixn (by omega), z]
      simp [hc]
    · unfold lnOK
      rw [eb, ec, ixn (by omega), ixn (by omega)]
      simp [hk2, z]
theorem s12_lawTells {Q : Int32 → Mem → Prop} {V M : Mem} {P N g t : Nat} {kw lo hi : Int32} (hR : RV V M) (hA : ∀ k, k < 9 → M 185 k = ask V P t k) (hX : ∀ l, l < 16 → nI l < V 174 0 → ∀ i, i < 400 → V 176 l ≤ nI i → nI i < V 178 l → ∃ x, cRel x (V 179 i) (V 180 i)) (wl : WFl V) (ha : WFa V P N g) (ht : t < N) (elo : lo = if kw = 2 then -99 else 0) (ehi : hi = if kw = 1 then 1000 else 99) (h : ∀ M', RV V M' → LO M M' → Q (tell V P t kw) M') : FX12_lawTells Q 166 kw (usu V P t kw) lo hi M := by
  obtain ⟨n, n16, en, hl⟩ := wl
  unfold FX12_lawTells FX12_lineOf NX12_lineOf_2
  refine xlp_for (fun r a => ∃ l, l + r = n ∧ a.1 = nI l ∧ (RV V a.2 ∧ LO M a.2 ∧ (∀ k, k < 9 → a.2 185 k = ask V P t k)) ∧ fnd (lnOK V P t kw) r l = fnd (lnOK V P t kw) n 0) ?_ ?_ n (0, M) ⟨0, by omega, rfl, ⟨hR, LO.refl M, hA⟩, rfl⟩
  · rintro ⟨x, M1⟩ B ⟨l, hl2, hx, s1, e1⟩
    have hx : x = nI l := hx
    subst hx
    have : l = n := by omega
    subst this
    have s1 : RV V M1 ∧ LO M M1 ∧ (∀ k, k < 9 → M1 185 k = ask V P t k) := s1
    show lbX12_lineOf_2 _ 166 kw (fun l4 M => B (l4, M)) (nI l) M1
    unfold lbX12_lineOf_2
    rw [show M1 (166 + 8) 0 = nI l from (s1.1 174 0 (by decide) (by decide) (by decide)).trans en]
    refine ⟨fun _ => ⟨fun hc => absurd rfl hc, fun _ => ?_⟩, fun hc => absurd (nI_le (Nat.le_refl _) (by omega)) hc⟩
    unfold NX12_lawTells_37
    refine s12_held ?_
    have := h M1 s1.1 s1.2.1
    unfold tell tel0 at this
    rw [en, ixn (by omega), ← e1, ← elo, ← ehi] at this
    exact this
  · rintro r ⟨x, M1⟩ B ⟨l, hl2, hx, s1, e1⟩ hB
    have hx : x = nI l := hx
    subst hx
    have s1 : RV V M1 ∧ LO M M1 ∧ (∀ k, k < 9 → M1 185 k = ask V P t k) := s1
    show lbX12_lineOf_2 _ 166 kw (fun l4 M => B (l4, M)) (nI l) M1
    obtain ⟨-, a, b, c, hab, hbc, h400, ea, eb, ec, ka, kb⟩ := hl l (by omega)
    have cr : ∀ i, a ≤ i → i < c → ∃ x, cRel x (V 179 i) (V 180 i) := fun i h1 h2 => hX l (by omega) (by rw [en]; exact nI_lt (by omega) (by omega)) i (by omega) (by rw [ea]; exact nI_le h1 (by omega)) (by rw [ec]; exact nI_lt h2 (by omega))
    have vi : vp_in (nI l) 48 := vp_in_nI (by omega) (by decide)
    simp only [fnd] at e1
    have hit : ∀ M2, (RV V M2 ∧ LO M M2 ∧ (∀ k, k < 9 → M2 185 k = ask V P t k)) → lnOK V P t kw l = true → ((¬ nI l = (-1) → vp_in (nI l) 48 ∧ vp_in (nI l) 48 ∧ FX12_runs (fun (r5 : Int32) (M4 : Mem) => NX12_lawTells_37 Q lo hi 166 r5 M4) 166 0 (M2 (166 + 10) (ix (nI l))) (M2 (166 + 11) (ix (nI l))) M2) ∧ (nI l = (-1) → NX12_lawTells_37 Q lo hi 166 (usu V P t kw) M2)) := by
      intro M2 s2 ok
      refine ⟨fun _ => ⟨vi, vi, ?_⟩, fun hc => absurd hc (m1_ne (by omega))⟩
      rw [ixn (by omega), show M2 (166 + 10) l = nI a from (s2.1 176 l (by decide) (by decide) (by decide)).trans ea, show M2 (166 + 11) l = nI b from (s2.1 177 l (by decide) (by decide) (by decide)).trans eb]
      refine s12_runs s2.1 s2.2.2 ha ht (by omega) (by omega) (fun i h1 h2 => cr i h1 (by omega)) ka (fun M3 r3 l3 _ => ?_)
      unfold NX12_lawTells_37
      refine s12_held ?_
      have := h M3 r3 (s2.2.1.trans l3)
      rw [if_pos ok] at e1
      unfold tell tel0 at this
      rw [en, ixn (by omega), ← e1, ← elo, ← ehi] at this
      simp only [ea, eb] at this
      rw [ixn (by omega), ixn (by omega)] at this
      exact this
    have miss : ∀ M2, (RV V M2 ∧ LO M M2 ∧ (∀ k, k < 9 → M2 185 k = ask V P t k)) → lnOK V P t kw l = false → B (nI (l + 1), M2) := by
      intro M2 s2 ok
      refine hB _ ⟨l + 1, by omega, rfl, s2, ?_⟩
      rw [if_neg (by rw [ok]; decide)] at e1
      exact e1
    unfold lbX12_lineOf_2
    rw [show M1 (166 + 8) 0 = nI n from (s1.1 174 0 (by decide) (by decide) (by decide)).trans en, nI_1]
    refine ⟨fun hc => absurd hc (nI_ge (by omega) (by omega)), fun _ => ⟨vi, ?_⟩⟩
    rw [ixn (k := l) (by omega), show M1 (166 + 9) l = V 175 l from s1.1 175 l (by decide) (by decide) (by decide), show M1 (166 + 11) l = nI b from (s1.1 177 l (by decide) (by decide) (by decide)).trans eb, show M1 (166 + 12) l = nI c from (s1.1 178 l (by decide) (by decide) (by decide)).trans ec]
    refine ⟨fun hc => miss M1 s1 (by simp [lnOK, hc]), fun hk2 => ⟨vi, vi, fun hc => hit M1 s1 (by simp [lnOK, hk2, eb, ec, hc]), fun hc => ⟨vi, vi, ?_⟩⟩⟩
    have hbc2 : b < c := by
      rcases Nat.lt_or_ge b c with z | z
      · exact z
      · exact absurd (by congr 1; omega) hc
    refine s12_runs s1.1 s1.2.2 ha ht (by omega) (by omega) (fun i h1 h2 => cr i (by omega) h2) (kb hbc2) (fun M2 r2 l2 a2 => ⟨fun z => miss M2 ⟨r2, s1.2.1.trans l2, a2⟩ ?_, fun z => hit M2 ⟨r2, s1.2.1.trans l2, a2⟩ ?_⟩)
    · unfold lnOK
      rw [eb, ec, ixn (by omega), ixn (by omega), z]
      simp [hc]
    · unfold lnOK
      rw [eb, ec, ixn (by omega), ixn (by omega)]
      simp [hk2, z]
