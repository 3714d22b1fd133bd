/-! act -/
theorem WFw_now {M : Mem} (hI : Inv M) : WFw (xu M 166 0 0) := by
  obtain ⟨P, N, ⟨g, ha, hb⟩, -, -, -, -, wz⟩ := WW_now hI
  exact ⟨P, N, g, ha, hb, wz⟩
theorem PS_now {M : Mem} (hI : Inv M) : PS (xu M 166 0 0) M := PS_congr (IP_iff.mp hI.2.2.1) (fun c i h => told_ne (by omega)) (fun _ _ _ _ => rfl)
theorem RV_now {M M1 : Mem} (h : ∀ c i, 166 ≤ c → M1 c i = M c i) : RV (xu M 166 0 0) (xu M1 166 0 0) := fun c i h1 _ _ => by
  rw [xu_if, xu_if]
  split
  · rfl
  · exact h c i h1
theorem CB_keep {V M M' : Mem} (hC : CB 2 V M) (hm : ∀ c i, ¬ (77 ≤ c ∧ c ≤ 138) → M' c i = M c i) : CB 2 (gKeep V) M' := by
  refine ⟨CW_c (fun c i q => gKeep_n ?_ ?_) (fun d i hd => hm _ _ ?_) hC.1, ?_⟩
  · simp [pW] at q; omega
  · simp [pW] at q; omega
  · simp only [wr] at hd; grind
  · rcases hC.2 with ⟨h1, h2, h3⟩ | ⟨h1, h2⟩
    · exact Or.inl ⟨h1, by rw [gKeep_n (by omega) (by omega)]; exact h2, fun i hi => by rw [gKeep_n (by omega) (by omega), hm _ _ (by omega)]; exact h3 i hi⟩
    · omega
theorem WF_keep {V : Mem} {P N g : Nat} (ha : WFa V P N g) (hb : WFb V P N g) : WFa (gKeep V) P N g ∧ WFb (gKeep V) P N g :=
  ⟨WFa_congr2 (gKeep_n (by omega) (by omega)) (gKeep_n (by omega) (by omega)) (fun i _ => gKeep_n (by omega) (by omega)) ha, WFb_congr2 ha.1.2.2.2.1 ha.1.2.2.2.2.1 ha.1.2.2.2.2.2 (fun i _ => gKeep_n (by omega) (by omega)) hb⟩
theorem WFz_keep {V : Mem} {P : Nat} (h : WFz V P) : WFz (gKeep V) P := fun p hp e => by
  rw [gKeep_n (by omega) (by omega)] at e ⊢
  exact h p hp e
def vAct (V : Mem) (P N : Nat) (a b v : Int32) : Prop := (a = 0 ∧ 1 ≤ v ∧ v ≤ 999) ∨ (a = 1 ∧ (-99 ≤ v ∧ v ≤ 99) ∧ ∃ q, hgh V P = some q) ∨ (a = 2 ∧ ∃ t p, t < N ∧ b = nI t ∧ pof V P (nI t) = some p) ∨ (a = 3 ∧ (∃ p, p < P ∧ b = nI p) ∧ 1 ≤ v ∧ v ≤ 99)
theorem s12_canAct {Q : Bool → Prop} {V M : Mem} {P N g : Nat} {a b v : Int32} (hR : RV V M) (ha : WFa V P N g) (hy : vAct V P N a b v → Q true) (hn : ¬ vAct V P N a b v → Q false) : FX12_canAct Q 166 a b v M := by
  have h10 := ha.1.2.2.2.1
  have h14 := ha.1.2.2.2.2.1
  have hP : M 166 6 = nI P := (hR.n 6).trans ha.1.1
  have hN : M 166 7 = nI N := (hR.n 7).trans ha.1.2.1
  unfold vAct at hy hn
  unfold FX12_canAct
  refine ⟨fun n0 => ⟨fun n1 => ⟨fun n2 => ⟨fun n3 => hn ?_, fun n3 => s12_isPillar hP (by omega) (fun k hk e => ⟨fun h => (by cases h), fun _ => s12_isIn ⟨fun h => hn ?_, fun h => hy ?_⟩⟩) (fun q => ⟨fun _ => hn ?_, fun h => (by cases h)⟩)⟩, fun n2 => s12_isSaint hN (by omega) (fun k hk e => ⟨fun h => (by cases h), fun _ => s12_pillarOf hR ha.1.1 h10 ?_⟩) (fun q => ⟨fun _ => hn ?_, fun h => (by cases h)⟩)⟩, fun n1 => s12_isIn ⟨fun h => hn ?_, fun h => s12_highest hR ha.1.1 h10 ?_⟩⟩, fun n0 => s12_isIn ?_⟩
  · rintro (⟨q, -⟩ | ⟨q, -⟩ | ⟨q, -⟩ | ⟨q, -⟩)
    · exact n0 q
    · exact n1 q
    · exact n2 q
    · exact n3 q
  · rintro (⟨q, -⟩ | ⟨q, -⟩ | ⟨q, -⟩ | ⟨q, q2, q3⟩)
    · exact n0 q
    · exact n1 q
    · exact n2 q
    · exact of_decide_eq_false h q3
  · exact Or.inr (Or.inr (Or.inr ⟨n3, ⟨k, hk, e⟩, of_decide_eq_true h⟩))
  · rintro (⟨z, -⟩ | ⟨z, -⟩ | ⟨z, -⟩ | ⟨z, ⟨k, z1, z2⟩, z3⟩)
    · exact n0 z
    · exact n1 z
    · exact n2 z
    · exact q k z1 z2
  · subst e
    cases hp : pof V P (nI k) with
    | none =>
      refine ⟨fun _ => hn ?_, fun h => absurd rfl h⟩
      rintro (⟨z, -⟩ | ⟨z, -⟩ | ⟨-, t, p, z1, z2, z3⟩ | ⟨z, -⟩)
      · exact n0 z
      · exact n1 z
      · rw [← z2, hp] at z3; cases z3
      · rw [n2] at z; exact absurd z (by decide)
    | some p =>
      exact ⟨fun h => absurd h (oI_ne (by have := (pof_some hp).1; omega)), fun _ => hy (Or.inr (Or.inr (Or.inl ⟨n2, k, p, hk, rfl, hp⟩)))⟩
  · rintro (⟨z, -⟩ | ⟨z, -⟩ | ⟨-, t, p, z1, z2, z3⟩ | ⟨z, -⟩)
    · exact n0 z
    · exact n1 z
    · exact q t z1 z2
    · rw [n2] at z; exact absurd z (by decide)
  · rintro (⟨z, -⟩ | ⟨-, z, -⟩ | ⟨z, -⟩ | ⟨z, -⟩)
    · exact n0 z
    · exact of_decide_eq_false h z
    · rw [n1] at z; exact absurd z (by decide)
    · rw [n1] at z; exact absurd z (by decide)
  · cases hp : hgh V P with
    | none =>
      refine ⟨fun _ => hn ?_, fun h => absurd rfl h⟩
      rintro (⟨z, -⟩ | ⟨-, -, q, z⟩ | ⟨z, -⟩ | ⟨z, -⟩)
      · exact n0 z
      · rw [hp] at z; cases z
      · rw [n1] at z; exact absurd z (by decide)
      · rw [n1] at z; exact absurd z (by decide)
    | some p =>
      exact ⟨fun h => absurd h (oI_ne (by have := hgh_lt hp; omega)), fun _ => hy (Or.inr (Or.inl ⟨n1, of_decide_eq_true h, p, hp⟩))⟩
  · by_cases q : 1 ≤ v ∧ v ≤ 999
    · rw [decide_eq_true q]; exact hy (Or.inl ⟨n0, q⟩)
    · rw [decide_eq_false q]
      refine hn ?_
      rintro (⟨-, z⟩ | ⟨z, -⟩ | ⟨z, -⟩ | ⟨z, -⟩)
      · exact q z
      · rw [n0] at z; exact absurd z (by decide)
      · rw [n0] at z; exact absurd z (by decide)
      · rw [n0] at z; exact absurd z (by decide)
/-- who sits is a saint -/
theorem pof_bad {V : Mem} {P N g : Nat} {x : Int32} (ha : WFa V P N g) (hx : x ≠ -1) (h : ∀ k, k < N → x ≠ nI k) : pof V P x = none := by
  refine fnd_no (fun p hp => decide_eq_false (fun e => ?_))
  obtain ⟨a, h1, h2⟩ := ha.2.2.1 p hp
  rw [h2] at e
  cases a with
  | zero => exact hx (e.symm.trans (by decide))
  | succ a => exact h a (by omega) (e.symm.trans (nI_s1 a))
theorem s9_canDo {Q : Bool → Prop} {w : Nat} {V M : Mem} {P N g : Nat} {a b v : Int32} (hC : CW w V M) (ha : WFa V P N g) (hy : vAct V P N a b v → Q true) (hn : ¬ vAct V P N a b v → Q false) : FX9_canDo Q w a b v M := by
  have h10 := ha.1.2.2.2.1
  have h14 := ha.1.2.2.2.2.1
  have hP : M w 10 = nI P := hC.1.1.trans ha.1.1
  unfold vAct at hy hn
  unfold FX9_canDo
  refine ⟨fun n0 => s11_within ?_, fun n1 => s11_within ⟨fun h => hn ?_, fun h => s9_highest hC ha.1.1 h10 ?_⟩, fun n2 => ?_, fun n3 => s9_isPillar hP (by omega) (fun k hk e => ⟨fun h => (by cases h), fun _ => s11_within ⟨fun h => hn ?_, fun h => hy ?_⟩⟩) (fun q => ⟨fun _ => hn ?_, fun h => (by cases h)⟩), fun n0 n1 n2 n3 => hn ?_⟩
  · by_cases q : 1 ≤ v ∧ v ≤ 999
    · rw [decide_eq_true q]; exact hy (Or.inl ⟨n0, q⟩)
    · rw [decide_eq_false q]
      refine hn ?_
      rintro (⟨-, z⟩ | ⟨z, -⟩ | ⟨z, -⟩ | ⟨z, -⟩)
      · exact q z
      · rw [n0] at z; exact absurd z (by decide)
      · rw [n0] at z; exact absurd z (by decide)
      · rw [n0] at z; exact absurd z (by decide)
  · rintro (⟨z, -⟩ | ⟨-, z, -⟩ | ⟨z, -⟩ | ⟨z, -⟩)
    · rw [n1] at z; exact absurd z (by decide)
    · exact of_decide_eq_false h z
    · rw [n1] at z; exact absurd z (by decide)
    · rw [n1] at z; exact absurd z (by decide)
  · cases hp : hgh V P with
    | none =>
      refine ⟨fun _ => hn ?_, fun h => absurd rfl h⟩
      rintro (⟨z, -⟩ | ⟨-, -, q, z⟩ | ⟨z, -⟩ | ⟨z, -⟩)
      · rw [n1] at z; exact absurd z (by decide)
      · rw [hp] at z; cases z
      · rw [n1] at z; exact absurd z (by decide)
      · rw [n1] at z; exact absurd z (by decide)
    | some p =>
      exact ⟨fun h => absurd h (oI_ne (by have := hgh_lt hp; omega)), fun _ => hy (Or.inr (Or.inl ⟨n1, of_decide_eq_true h, p, hp⟩))⟩
  · have no : (∀ k, k < N → ∀ p, b = nI k → pof V P (nI k) = some p → False) → Q false := fun h => hn (by
      rintro (⟨z, -⟩ | ⟨z, -⟩ | ⟨-, t, p, z1, z2, z3⟩ | ⟨z, -⟩)
      · rw [n2] at z; exact absurd z (by decide)
      · rw [n2] at z; exact absurd z (by decide)
      · exact h t z1 p z2 z3
      · rw [n2] at z; exact absurd z (by decide))
    by_cases hb : b = -1
    · subst hb
      exact s9_pillarOf1 hC ha.1.1 h10 ⟨fun _ => no (fun k hk p e _ => m1_ne (j := k) (by omega) e.symm), fun h => absurd rfl h⟩
    · refine s9_pillarOf hC ha.1.1 h10 hb ?_
      by_cases hs : ∃ k, k < N ∧ b = nI k
      · obtain ⟨k, hk, rfl⟩ := hs
        cases hp : pof V P (nI k) with
        | none => exact ⟨fun _ => no (fun j hj p e hp2 => by rw [← e, hp] at hp2; cases hp2), fun h => absurd rfl h⟩
        | some p => exact ⟨fun h => absurd h (oI_ne (by have := (pof_some hp).1; omega)), fun _ => hy (Or.inr (Or.inr (Or.inl ⟨n2, k, p, hk, rfl, hp⟩)))⟩
      · have hs2 : ∀ k, k < N → b ≠ nI k := fun k hk e => hs ⟨k, hk, e⟩
        rw [pof_bad ha hb hs2]
        exact ⟨fun _ => no (fun k hk p e _ => hs2 k hk e), fun h => absurd rfl h⟩
  · rintro (⟨q, -⟩ | ⟨q, -⟩ | ⟨q, -⟩ | ⟨q, q2, q3⟩)
    · rw [n3] at q; exact absurd q (by decide)
    · rw [n3] at q; exact absurd q (by decide)
    · rw [n3] at q; exact absurd q (by decide)
    · exact of_decide_eq_false h q3
  · exact Or.inr (Or.inr (Or.inr ⟨n3, ⟨k, hk, e⟩, of_decide_eq_true h⟩))
  · rintro (⟨z, -⟩ | ⟨z, -⟩ | ⟨z, -⟩ | ⟨z, ⟨k, z1, z2⟩, z3⟩)
    · rw [n3] at z; exact absurd z (by decide)
    · rw [n3] at z; exact absurd z (by decide)
    · rw [n3] at z; exact absurd z (by decide)
    · exact q k z1 z2
  · rintro (⟨q, -⟩ | ⟨q, -⟩ | ⟨q, -⟩ | ⟨q, -⟩)
    · exact n0 q
    · exact n1 q
    · exact n2 q
    · exact n3 q
theorem WFz_free {V : Mem} {P j : Nat} {v : Int32} (h : WFz V P) (hP : P ≤ 10) (h6 : j ≠ 6) (hj : ¬ (73 ≤ j ∧ j < 83)) : WFz (xu V 167 j v) P := fun p hp e => by
  rw [xu_ne _ _ (by omega)] at e ⊢
  exact h p hp e
theorem WW_adv {V : Mem} {P N p : Nat} {v : Int32} (h : WW V P N) (hp : p < P) : WW (xu V 167 (83 + p) v) P N := by
  obtain ⟨g, ⟨⟨a1, a2, a3, a4, a5, a6⟩, b, c1, c2, c3, c4, c5, c6, c7⟩, hb⟩ := h
  have r : ∀ j, j ≠ 83 + p → xu V 167 (83 + p) v 167 j = V 167 j := fun j hj => xu_ne _ _ (by omega)
  exact ⟨g, ⟨⟨a1, a2, by rw [r _ (by omega)]; exact a3, a4, a5, a6⟩, by rw [r _ (by omega)]; exact b, fun q hq => by rw [r _ (by omega)]; exact c1 q hq, fun q hq => by rw [r _ (by omega)]; exact c2 q hq, fun q hq => by rw [r _ (by omega)]; exact c3 q hq, fun q hq => by rw [r _ (by omega)]; exact c4 q hq, fun q hq => by rw [r _ (by omega)]; exact c5 q hq, fun q hq hq2 => by rw [r _ (by omega)]; exact c6 q hq hq2, fun q => by omega⟩, WB_iff.mpr (WB_congr (fun q hq => r _ (by omega)) (fun k hk => r _ (by omega)) (fun k hk => r _ (by omega)) (WB_iff.mp hb))⟩
theorem q_act : lq_act Inv := by
  intro M a b v hI
  obtain ⟨P, N, ⟨g, wa, wb⟩, wpv, wm, wpm, wz, wzv⟩ := WW_now hI
  have cb := CB_now hI
  have h10 := wa.1.2.2.2.1
  have h14 := wa.1.2.2.2.2.1
  unfold FX11_act
  refine s9_canDo (w := 2) cb.1 wa (fun hy => ⟨fun _ => ?_, fun h => (by cases h)⟩) (fun hn => ⟨fun h => (by cases h), fun _ => ?_⟩)
  · refine s3_keep (PS_now hI) cb.1 (WFw_now hI) (fun M1 s1 f1 => ?_)
    have c1 := CB_keep cb f1
    obtain ⟨ka, kb⟩ := WF_keep wa wb
    have kz := WFz_keep wzv
    -- the reference, once the class has done its part
    have rr : ∀ (M2 : Mem), (∀ c i, ¬ (77 ≤ c ∧ c ≤ 138) → ¬ (2 ≤ c ∧ c ≤ 11) → c ≠ 18 → M2 c i = M c i) → (∀ M3, RV (gKeep (xu M 166 0 0)) M3 → LO M2 M3 → FX12_acts (fun M4 => true = true ∧ Inv M4) 166 a b v M3) → FX12_act (fun r2 M4 => true = r2 ∧ Inv M4) 166 a b v M2 := by
      intro M2 f2 h
      unfold FX12_act
      rintro M3 rfl
      have r0 : RV (xu M 166 0 0) (xu M2 166 0 0) := RV_now (fun c i h1 => f2 c i (by omega) (by omega) (by omega))
      obtain ⟨n, h6, hn, -⟩ := hI.2.2.1
      refine s12_canAct r0 wa (fun _ => ⟨fun _ => s12_keeps (n := n) r0 (by rw [told_ne (by decide)]; exact hn) h6 (fun M4 r4 l4 => h M4 r4 (((LO.refl M2).up (by decide) _ _).trans l4)), fun h => (by cases h)⟩) (fun hno => absurd hy hno)
    have fin : ∀ (V M2 M4 : Mem), CB 2 V M2 → FR 2 M1 M2 → RV V M4 → LO M2 M4 → GF (gKeep (xu M 166 0 0)) V → WW V P N → WFz V P → true = true ∧ Inv M4 := by
      intro V M2 M4 q1 q2 q3 q4 q5 q6 q7
      have f2 : ∀ c i, ¬ (2 ≤ c ∧ c ≤ 11) → c ≠ 18 → M2 c i = M1 c i := fun c i z1 z2 => q2 c i z1 z2
      refine ⟨rfl, Inv_act hI q1 q3 q4 (fun c i z1 z2 z3 z4 => by rw [f2 c i z1 z2, f1 c i z3]) (fun c i z1 z2 z3 z4 z5 => ?_) q6 wpm q7 (PS_congr s1 (fun c i z => q5 c i (by omega) (by omega)) (fun c i z1 z2 => f2 c i (by omega) (by omega)))⟩
      rw [q5 c i z2 z4, gKeep_n (by omega) z3, told_ne (by omega)]
    have fr : ∀ M2, FR 2 M1 M2 → ∀ c i, ¬ (77 ≤ c ∧ c ≤ 138) → ¬ (2 ≤ c ∧ c ≤ 11) → c ≠ 18 → M2 c i = M c i := fun M2 q c i z1 z2 z3 => by rw [q c i z2 z3, f1 c i z1]
    refine ⟨fun e0 => s_min ?_, fun e1 => ?_, fun e2 => ?_, fun n0 n1 n2 => ?_⟩
    · rintro M2 rfl
      have e13 : M1 (0 + 1 + 1) 13 = gKeep (xu M 166 0 0) 167 3 := c1.1.1.2.2.2.2.2.1
      rw [e13]
      have c2 := CB_up (d := 0) (i := 13) (v := mn 999 (gKeep (xu M 166 0 0) 167 3 + v)) c1 rfl (sub0 _)
      have f2 : FR 2 M1 (xu M1 2 13 (mn 999 (gKeep (xu M 166 0 0) 167 3 + v))) := FR.up (d := 0) (FR.refl 2 M1) (by decide) _ _
      refine rr _ (fr _ f2) (fun M3 r3 l3 => ?_)
      subst e0
      unfold FX12_acts NX12_acts_25 NX12_acts_46 NX12_acts_56
      refine ⟨fun h => absurd rfl h, fun _ => s12_lesser ?_⟩
      rintro M4 rfl
      rw [show M3 (166 + 1) 3 = gKeep (xu M 166 0 0) 167 3 from r3.r 3]
      exact ⟨fun _ => ⟨fun _ => ⟨fun _ => fin _ _ _ c2 f2 (r3.up _ _ _) (l3.up (by decide) _ _) ((GF.refl _).up _ _) (WW_free ⟨g, ka, kb⟩ (by decide) (by decide)) (WFz_free kz h10 (by decide) (by decide)), fun h => absurd h (by decide)⟩, fun h => absurd h (by decide)⟩, fun h => absurd h (by decide)⟩
    · subst e1
      rcases hy with ⟨z, -⟩ | ⟨-, hv, q, hq⟩ | ⟨z, -⟩ | ⟨z, -⟩
      · exact absurd z (by decide)
      · have hq' : hgh (gKeep (xu M 166 0 0)) P = some q := by
          rw [← hq]
          show nbl (fun q => gKeep (xu M 166 0 0) 167 (73 + q)) P = nbl (fun q => xu M 166 0 0 167 (73 + q)) P
          congr 1
        have hlt := hgh_lt hq
        unfold FX9_say
        refine s9_highest c1.1 ka.1.1 h10 ?_
        rw [hq']
        refine ⟨fun h => absurd h (oI_ne (by omega)), fun _ => ?_⟩
        show vp_in (nI q) 10 ∧ ∀ M2 : Mem, M2 = xu M1 (0 + 1 + 1 + 3) (ix (nI q)) v → _
        rw [ixn (by omega)]
        refine ⟨vp_in_nI (by omega) (by decide), ?_⟩
        rintro M2 rfl
        have c2 := CB_up (d := 3) (i := q) (v := v) (v2 := v + 100) c1 (by simp [wdom]; omega) (show v + 100 - 100 = v by grind)
        have f2 : FR 2 M1 (xu M1 (2 + 3) q v) := FR.up (d := 3) (FR.refl 2 M1) (by decide) _ _
        refine rr _ (fr _ f2) (fun M3 r3 l3 => ?_)
        unfold FX12_acts NX12_acts_25
        refine ⟨fun _ => ⟨fun h => absurd rfl h, fun _ => s12_highest r3 ka.1.1 h10 ?_⟩, fun h => absurd h (by decide)⟩
        rw [hq']
        show vp_in (83 + nI q) 107 ∧ ∀ M4 : Mem, M4 = xu M3 (166 + 1) (ix (83 + nI q)) (v + 100) → _
        rw [ix83 (by omega)]
        refine ⟨vp83 (by omega), ?_⟩
        rintro M4 rfl
        unfold NX12_acts_46 NX12_acts_56
        exact ⟨fun _ => ⟨fun _ => fin _ _ _ c2 f2 (r3.up _ _ _) (l3.up (by decide) _ _) ((GF.refl _).up _ _) (WW_adv ⟨g, ka, kb⟩ hlt) (WFz_free (j := 83 + q) kz h10 (by omega) (by omega)), fun h => absurd h (by decide)⟩, fun h => absurd h (by decide)⟩
      · exact absurd z (by decide)
      · exact absurd z (by decide)
    · subst e2
      rcases hy with ⟨z, -⟩ | ⟨z, -⟩ | ⟨-, t, p, ht, rfl, hp⟩ | ⟨z, -⟩
      · exact absurd z (by decide)
      · exact absurd z (by decide)
      · have hp' : pof (gKeep (xu M 166 0 0)) P (nI t) = some p := by
          rw [← hp]
          exact fnd_congr (fun j _ _ => by simp only [sat]; rw [gKeep_n (by omega) (by omega)])
        refine s9_goDown c1 ka kb ht hp' (fun M2 c2 f2 => ?_)
        refine rr _ (fr _ f2) (fun M3 r3 l3 => ?_)
        unfold FX12_acts NX12_acts_25 NX12_acts_46 NX12_acts_56
        refine ⟨fun _ => ⟨fun _ => ⟨fun h => absurd rfl h, fun _ => s12_isDown r3 ka kb ht hp' (fun M4 r4 l4 => ⟨fun _ => ?_, fun h => absurd h (by decide)⟩)⟩, fun h => absurd h (by decide)⟩, fun h => absurd h (by decide)⟩
        obtain ⟨p1, p2⟩ := pof_some hp'
        obtain ⟨w1, w2⟩ := WW_down ka kb p1 ht p2
        exact fin _ _ _ c2 f2 r4 (l3.trans l4) (GF_down _ _ _ _ _) w1 w2
      · exact absurd z (by decide)
    · rcases hy with ⟨z, -⟩ | ⟨z, -⟩ | ⟨z, -⟩ | ⟨z, ⟨p, hp, rfl⟩, hv⟩
      · exact absurd z n0
      · exact absurd z n1
      · exact absurd z n2
      · subst z
        obtain ⟨x, hx1, hx2, rfl⟩ := inNat (lo := 1) (hi := 99) (by decide) hv.1 hv.2 (by decide)
        unfold FX9_raise
        refine s9_isPillar (P := P) (c1.1.1.1.trans ka.1.1) (by omega) (fun k hk e => ⟨fun h => (by cases h), fun _ => ?_⟩) (fun q => absurd rfl (q p hp))
        rw [ixn (by omega)]
        refine ⟨vp_in_nI (by omega) (by decide), ?_⟩
        rintro M2 rfl
        have c2 := CB_up (d := 1) (i := p) (v := nI x) c1 (by simp [wdom]; omega) (sub0 _)
        have f2 : FR 2 M1 (xu M1 (2 + 1) p (nI x)) := FR.up (d := 1) (FR.refl 2 M1) (by decide) _ _
        refine rr _ (fr _ f2) (fun M3 r3 l3 => ?_)
        unfold FX12_acts NX12_acts_25 NX12_acts_46 NX12_acts_56
        refine ⟨fun _ => ⟨fun _ => ⟨fun _ => ⟨fun h => absurd rfl h, fun _ => ?_⟩, fun h => absurd h (by decide)⟩, fun h => absurd h (by decide)⟩, fun h => absurd h (by decide)⟩
        rw [ix63 (by omega)]
        refine ⟨vp63 (by omega), ?_⟩
        rintro M4 rfl
        exact fin _ _ _ c2 f2 (r3.up _ _ _) (l3.up (by decide) _ _) ((GF.refl _).up _ _) (WW_tall ⟨g, ka, kb⟩ (by omega) ⟨hx1, hx2⟩) (WFz_free (j := 63 + p) kz h10 (by omega) (by omega))
  · unfold FX12_act
    rintro M1 rfl
    exact s12_canAct (RV.refl _) wa (fun q => absurd q hn) (fun _ => ⟨fun h => (by cases h), fun _ => ⟨rfl, Inv_told hI 0⟩⟩)
