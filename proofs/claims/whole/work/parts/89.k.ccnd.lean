/-! the class reads a condition -/
section CMP
variable {cond cmp : Nat → Nat → Except (Nat × Nat) (List (Nat × Nat) × Nat)} {T V : Nat → Nat} {o i j k : Nat} {c d : List (Nat × Nat)} {e : Nat × Nat}
theorem cmpB_n (q : T i = 2 ∧ V i = 6) (ho : o < 8) (hc : cmp (o + 1) (i + 1) = .ok (c, j)) : cmpB cond cmp T V o i = .ok (c ++ [(9, 0)], j) := by
  rw [cmpB, if_pos q, if_pos ho, hc]
theorem cmpB_ne (q : T i = 2 ∧ V i = 6) (ho : o < 8) (hc : cmp (o + 1) (i + 1) = .error e) : cmpB cond cmp T V o i = .error e := by
  rw [cmpB, if_pos q, if_pos ho, hc]
theorem cmpB_n3 (q : T i = 2 ∧ V i = 6) (ho : ¬ o < 8) : cmpB cond cmp T V o i = .error (3, i) := by
  rw [cmpB, if_pos q, if_neg ho]
theorem cmpB_b (q : T i = 4 ∧ V i = 40) (ho : o < 8) (hc : cond (o + 1) (i + 1) = .ok (c, j)) (q2 : T j = 4 ∧ V j = 41) : cmpB cond cmp T V o i = .ok (c, j + 1) := by
  rw [cmpB, if_neg (by omega), if_pos q, if_pos ho, hc]
  exact if_pos q2
theorem cmpB_b1 (q : T i = 4 ∧ V i = 40) (ho : o < 8) (hc : cond (o + 1) (i + 1) = .ok (c, j)) (q2 : ¬ (T j = 4 ∧ V j = 41)) : cmpB cond cmp T V o i = .error (1, j) := by
  rw [cmpB, if_neg (by omega), if_pos q, if_pos ho, hc]
  exact if_neg q2
theorem cmpB_be (q : T i = 4 ∧ V i = 40) (ho : o < 8) (hc : cond (o + 1) (i + 1) = .error e) : cmpB cond cmp T V o i = .error e := by
  rw [cmpB, if_neg (by omega), if_pos q, if_pos ho, hc]
theorem cmpB_b3 (q : T i = 4 ∧ V i = 40) (ho : ¬ o < 8) : cmpB cond cmp T V o i = .error (3, i) := by
  rw [cmpB, if_neg (by omega), if_pos q, if_neg ho]
theorem cmpB_s (q : ¬ (T i = 2 ∧ V i = 6)) (q2 : ¬ (T i = 4 ∧ V i = 40)) : cmpB cond cmp T V o i = cmpS T V i := by
  rw [cmpB, if_neg q, if_neg q2]
theorem cmpS_e1 (h : sumP T V i = .error e) : cmpS T V i = .error e := by
  rw [cmpS, h]
theorem cmpS_1 (h : sumP T V i = .ok (c, j)) (q : ¬ (T j = 4 ∧ (V j = 60 ∨ V j = 61 ∨ V j = 62))) : cmpS T V i = .error (1, j) := by
  rw [cmpS, h]
  exact if_neg q
theorem cmpS_e2 (h : sumP T V i = .ok (c, j)) (q : T j = 4 ∧ (V j = 60 ∨ V j = 61 ∨ V j = 62)) (h2 : sumP T V (j + 1) = .error e) : cmpS T V i = .error e := by
  rw [cmpS, h]
  show (if _ then _ else _) = _
  rw [if_pos q, h2]
theorem cmpS_k (h : sumP T V i = .ok (c, j)) (q : T j = 4 ∧ (V j = 60 ∨ V j = 61 ∨ V j = 62)) (h2 : sumP T V (j + 1) = .ok (d, k)) : cmpS T V i = .ok (c ++ d ++ [(V j - 54, 0)], k) := by
  rw [cmpS, h]
  show (if _ then _ else _) = _
  rw [if_pos q, h2]
end CMP
section CND
variable {cmp : Nat → Except (Nat × Nat) (List (Nat × Nat) × Nat)} {T V : Nat → Nat} {r i j : Nat} {w : Bool} {acc c : List (Nat × Nat)} {e : Nat × Nat}
theorem condL_a (q : T i = 2 ∧ V i = 5) (hc : cmp (i + 1) = .ok (c, j)) : condL cmp T V (r + 1) w i acc = condL cmp T V r w j (acc ++ c ++ [(10, 0)]) := by
  rw [condL, if_pos q, hc]
theorem condL_ae (q : T i = 2 ∧ V i = 5) (hc : cmp (i + 1) = .error e) : condL cmp T V (r + 1) w i acc = .error e := by
  rw [condL, if_pos q, hc]
theorem condL_o (q : T i = 2 ∧ V i = 4) (hc : cmp (i + 1) = .ok (c, j)) : condL cmp T V (r + 1) w i acc = condL cmp T V r true j (pdo w acc ++ c) := by
  rw [condL, if_neg (by omega), if_pos q, hc]
theorem condL_oe (q : T i = 2 ∧ V i = 4) (hc : cmp (i + 1) = .error e) : condL cmp T V (r + 1) w i acc = .error e := by
  rw [condL, if_neg (by omega), if_pos q, hc]
theorem condL_e (q : ¬ (T i = 2 ∧ V i = 5)) (q2 : ¬ (T i = 2 ∧ V i = 4)) : condL cmp T V (r + 1) w i acc = .ok (pdo w acc, i) := by
  rw [condL, if_neg q, if_neg q2]
theorem condB_k (hc : cmp i = .ok (c, j)) : condB cmp T V i = condL cmp T V 400 false j c := by
  rw [condB, hc]
theorem condB_e (hc : cmp i = .error e) : condB cmp T V i = .error e := by
  rw [condB, hc]
end CND
theorem wO0_6 : wOk 0 6 6 := ⟨by decide, by decide +kernel⟩
theorem wO0_5 : wOk 0 5 5 := ⟨by decide, by decide +kernel⟩
theorem wO0_4 : wOk 0 4 4 := ⟨by decide, by decide +kernel⟩
theorem wO0_3 : wOk 0 3 3 := ⟨by decide, by decide +kernel⟩
/-- what a reader of the class owes: the parser p at i -/
def cOwe (b : Nat → Nat) (n m : Nat) (M0 : Mem) (p : Except (Nat × Nat) (List (Nat × Nat) × Nat)) (L : List (Nat × Nat)) (Q : Bool → Mem → Prop) : Prop := (∀ cs j M2, p = .ok (cs, j) → CZ b n m M0 j (L ++ cs) M2 → Q true M2) ∧ (∀ f e M2, p = .error (f, e) → CErr b n f e M0 M2 → Q false M2)
theorem s5_cmpS {Gd Gc : (Bool → Mem → Prop) → Nat → Int32 → Mem → Prop} {b : Nat → Nat} {n m : Nat} {M0 : Mem} {i : Nat} {L : List (Nat × Nat)} {M : Mem} {Q : Bool → Mem → Prop} (h : CZ b n m M0 i L M) (hl : L.length ≤ i) (k : cOwe b n m M0 (cmpS (tyT b n) (tyV b n) i) L Q) : FX5_sum (fun (r18 : Bool) (M17 : Mem) => ((r18 = true → FX5_kind (fun (r19 : Int32) => ((r19 = 60 → NX5_comparison_132 Gd Gc Q 139 r19 M17) ∧ (¬ r19 = 60 → ((r19 = 61 → NX5_comparison_132 Gd Gc Q 139 r19 M17) ∧ (¬ r19 = 61 → ((r19 = 62 → NX5_comparison_132 Gd Gc Q 139 r19 M17) ∧ (¬ r19 = 62 → FX5_refuse (fun (r21 : Bool) (M20 : Mem) => Q r21 M20) 139 1 M17))))))) 139 M17) ∧ (r18 = false → Q false M17))) 139 M := by
  refine s5_sum h hl (fun cs j M1 hs z1 => ⟨fun _ => ?_, fun w => (by cases w)⟩) (fun f e M2 hs he => ⟨fun w => (by cases w), fun _ => k.2 f e M2 (cmpS_e1 hs) he⟩)
  obtain ⟨-, t1, t2⟩ := sumP_ty (fun i => tyV_num) [] hs (by decide)
  refine s5_kind z1.1 (fun hK => ?_)
  have k60 := KR_s (c := 60) z1.1.k4 rfl hK
  have k61 := KR_s (c := 61) z1.1.k4 rfl hK
  have k62 := KR_s (c := 62) z1.1.k4 rfl hK
  have go : ∀ x, (x = 60 ∨ x = 61 ∨ x = 62) → tyT b n j = 4 ∧ tyV b n j = x → NX5_comparison_132 Gd Gc Q 139 (M1 159 j) M1 := by
    intro x hx qx
    unfold NX5_comparison_132
    rintro M2 rfl
    have z2 := z1.step (by rw [qx.1]; decide)
    have q : tyT b n j = 4 ∧ (tyV b n j = 60 ∨ tyV b n j = 61 ∨ tyV b n j = 62) := ⟨qx.1, by omega⟩
    refine s5_sum z2 (by rw [List.length_append]; omega) (fun ds j2 M3 hs2 z3 => ⟨fun _ => ?_, fun w => (by cases w)⟩) (fun f e M3 hs2 he => ⟨fun w => (by cases w), fun _ => k.2 f e M3 (cmpS_e2 hs q hs2) he⟩)
    obtain ⟨-, t3, t4⟩ := sumP_ty (fun i => tyV_num) [] hs2 (by decide)
    have h4 := z3.le4
    have em : NX5_comparison_179 Gd Gc Q (139 + 1) (cI (tyV b n j - 54, 0)) M3 := by
      unfold NX5_comparison_179
      refine s5_emit z3 (by simp only [List.length_append]; omega) (Or.inr (Or.inr ⟨by show 2 ≤ tyV b n j - 54; omega, by show tyV b n j - 54 ≤ 11; omega⟩)) (fun M4 z4 => k.1 _ j2 M4 (cmpS_k hs q hs2) ?_)
      rw [show L ++ (cs ++ ds ++ [(tyV b n j - 54, 0)]) = L ++ cs ++ ds ++ [(tyV b n j - 54, 0)] by simp]
      exact z4
    rcases hx with rfl | rfl | rfl
    · rw [qx.2] at em
      exact ⟨fun q => absurd (k60.mpr qx) q, fun _ => em⟩
    · rw [qx.2] at em
      exact ⟨fun _ => ⟨fun q => absurd (k61.mpr qx) q, fun _ => em⟩, fun q => absurd ((k60.mp q).2.symm.trans qx.2) (by decide)⟩
    · rw [qx.2] at em
      exact ⟨fun _ => ⟨fun _ => em, fun q => absurd ((k61.mp q).2.symm.trans qx.2) (by decide)⟩, fun q => absurd ((k60.mp q).2.symm.trans qx.2) (by decide)⟩
  refine ⟨fun q => go 60 (by omega) (k60.mp q), fun a1 => ⟨fun q => go 61 (by omega) (k61.mp q), fun a2 => ⟨fun q => go 62 (by omega) (k62.mp q), fun a3 => ?_⟩⟩⟩
  refine s5_refuse 1 z1.1 (fun M2 he => k.2 1 j M2 (cmpS_1 hs (fun q => ?_)) (he.of z1.2.2.cfr))
  rcases q.2 with q2 | q2 | q2
  · exact a1 (k60.mpr ⟨q.1, q2⟩)
  · exact a2 (k61.mpr ⟨q.1, q2⟩)
  · exact a3 (k62.mpr ⟨q.1, q2⟩)
theorem s5_cc {b : Nat → Nat} {n m : Nat} {M0 : Mem} : ∀ N : Nat, (∀ o i L M Q, 18 ≤ N + 2 * o → o ≤ 8 → CZ b n m M0 i L M → L.length ≤ i → cOwe b n m M0 ((pCC (tyT b n) (tyV b n) N).1 o i) L Q → (Fcc N).1 Q 139 (nI o) M) ∧ (∀ o i L M Q, 17 ≤ N + 2 * o → o ≤ 8 → CZ b n m M0 i L M → L.length ≤ i → cOwe b n m M0 ((pCC (tyT b n) (tyV b n) N).2 o i) L Q → (Fcc N).2 Q 139 (nI o) M)
  | 0 => ⟨fun o i L M Q h ho => by omega, fun o i L M Q h ho => by omega⟩
  | N + 1 => by
    obtain ⟨ih1, ih2⟩ := s5_cc (b := b) (n := n) (m := m) (M0 := M0) N
    have hV : ∀ i, tyT b n i = 3 → tyV b n i < 10000 := fun i => tyV_num
    constructor
    · intro o i L M Q hN ho z hl k
      have k : cOwe b n m M0 (condB ((pCC (tyT b n) (tyV b n) N).2 o) (tyT b n) (tyV b n) i) L Q := k
      show FX5_condition (Fcc N).1 (Fcc N).2 Q 139 (nI o) M
      unfold FX5_condition
      refine ih2 o i L M _ (by omega) ho z hl ⟨fun c0 i0 M1 hc z1 => ⟨fun _ => ?_, fun w => (by cases w)⟩, fun f e M2 hc he => ⟨fun w => (by cases w), fun _ => k.2 f e M2 (condB_e hc) he⟩⟩
      obtain ⟨-, t1, t2⟩ := (pCC_ty hV N).2 o i c0 i0 [] hc ho (Nat.zero_le _)
      unfold NX5_condition_14
      refine xlp_for (fun r (a : Int32 × Int32 × Mem) => ∃ (i' : Nat) (w : Bool) (acc : List (Nat × Nat)), a.1 = bI w ∧ a.2.1 = nI (400 - r) ∧ r ≤ 400 ∧ CZ b n m M0 i' (L ++ acc) a.2.2 ∧ condL ((pCC (tyT b n) (tyV b n) N).2 o) (tyT b n) (tyV b n) r w i' acc = condB ((pCC (tyT b n) (tyV b n) N).2 o) (tyT b n) (tyV b n) i ∧ 801 ≤ i' + 2 * r ∧ L.length + acc.length + wb w ≤ i') ?_ ?_ 400 _ ⟨i0, false, c0, rfl, rfl, by omega, z1, (condB_k hc).symm, by omega, by show L.length + c0.length + 0 ≤ i0; omega⟩
      · rintro a B ⟨i', w, acc, -, -, -, z, -, hb, -⟩
        have := z.le4
        omega
      · rintro r ⟨a1, a2, M2⟩ B ⟨i', w, acc, e1, e2, hr, z, hp, hb, hn⟩ hB
        have e1 : a1 = bI w := e1
        have e2 : a2 = nI (400 - (r + 1)) := e2
        have z : CZ b n m M0 i' (L ++ acc) M2 := z
        subst e1 e2
        have h4 := z.le4
        have e2' : nI (400 - (r + 1)) + 1 = nI (400 - r) := by rw [nI_1, show 400 - (r + 1) + 1 = 400 - r by omega]
        show lbX5_condition_14 (Fcc N).1 (Fcc N).2 Q 139 (nI o) (fun l1 l2 M => B (l1, l2, M)) (bI w) (nI (400 - (r + 1))) M2
        unfold lbX5_condition_14
        refine ⟨fun q => absurd ((nI_leI (a := 400) (by omega) (by omega)).mp q) (by omega), fun _ => s5_isWord z.1 wO0_5 (fun q5 => ⟨fun _ => ?_, fun q => absurd q (by decide)⟩) (fun q5 => ⟨fun q => absurd rfl q, fun _ => ?_⟩)⟩
        · have go : NX5_condition_75 (Fcc N).1 (Fcc N).2 Q (fun l1 l2 M => B (l1, l2, M)) 139 (nI o) (nI (400 - (r + 1))) (bI true) (bI w) M2 := by
            unfold NX5_condition_75
            rintro M3 rfl
            have z3 := z.step (by rw [q5.1]; decide)
            refine ih2 o (i' + 1) (L ++ acc) _ _ (by omega) ho z3 (by rw [List.length_append]; omega) ⟨fun c j M4 hc z4 => ⟨fun _ => ⟨fun q => absurd q (by decide), fun _ => ?_⟩, fun w => (by cases w)⟩, fun f e M4 hc he => ⟨fun w => (by cases w), fun _ => k.2 f e M4 (hp ▸ condL_ae q5 hc) he⟩⟩
            obtain ⟨-, t3, t4⟩ := (pCC_ty hV N).2 o (i' + 1) c j [] hc ho (Nat.zero_le _)
            have h5 := z4.le4
            refine s5_emit (x := (10, 0)) z4 (by simp only [List.length_append]; omega) (Or.inr (Or.inr ⟨by decide, by decide⟩)) (fun M5 z5 => ?_)
            rw [e2']
            refine hB _ ⟨j, w, acc ++ c ++ [(10, 0)], rfl, rfl, by omega, ?_, (condL_a q5 hc).symm.trans hp, by omega, by simp only [List.length_append, List.length_cons, List.length_nil]; omega⟩
            rw [show L ++ (acc ++ c ++ [(10, 0)]) = L ++ acc ++ c ++ [(10, 0)] by simp]
            exact z5
          unfold NX5_condition_46 NX5_condition_61 NX5_condition_70
          refine ⟨fun _ => ?_, fun q => absurd q (by decide)⟩
          cases w with
          | true => exact ⟨fun _ => go, fun q => absurd q (by decide)⟩
          | false => exact ⟨fun q => absurd rfl q, fun _ => ⟨fun _ => go, fun q => absurd q (by decide)⟩⟩
        · have tail : ∀ N2, CZ b n m M0 i' (L ++ pdo w acc) N2 → NX5_condition_46 (Fcc N).1 (Fcc N).2 Q (fun l1 l2 M => B (l1, l2, M)) 139 (nI o) (bI w) (nI (400 - (r + 1))) (bI false) N2 := by
            intro N2 z2
            unfold NX5_condition_46
            refine ⟨fun q => absurd rfl q, fun _ => s5_isWord z2.1 wO0_4 (fun q4 => ⟨fun _ => ?_, fun w => (by cases w)⟩) (fun q4 => ⟨fun w => (by cases w), fun _ => ?_⟩)⟩
            · have go : NX5_condition_75 (Fcc N).1 (Fcc N).2 Q (fun l1 l2 M => B (l1, l2, M)) 139 (nI o) (nI (400 - (r + 1))) (bI false) 1 N2 := by
                unfold NX5_condition_75
                rintro M3 rfl
                have z3 := z2.step (by rw [q4.1]; decide)
                refine ih2 o (i' + 1) (L ++ pdo w acc) _ _ (by omega) ho z3 (by rw [List.length_append, pdo_len]; omega) ⟨fun c j M4 hc z4 => ⟨fun _ => ⟨fun _ => ?_, fun q => absurd rfl q⟩, fun w => (by cases w)⟩, fun f e M4 hc he => ⟨fun w => (by cases w), fun _ => k.2 f e M4 (hp ▸ condL_oe q4 hc) he⟩⟩
                obtain ⟨-, t3, t4⟩ := (pCC_ty hV N).2 o (i' + 1) c j [] hc ho (Nat.zero_le _)
                rw [e2']
                refine hB _ ⟨j, true, pdo w acc ++ c, rfl, rfl, by omega, ?_, (condL_o q4 hc).symm.trans hp, by omega, ?_⟩
                · rw [show L ++ (pdo w acc ++ c) = L ++ pdo w acc ++ c by simp]
                  exact z4
                · rw [List.length_append, pdo_len, show wb true = 1 from rfl]
                  omega
              unfold NX5_condition_61 NX5_condition_70
              cases w with
              | true => exact ⟨fun _ => go, fun q => absurd q (by decide)⟩
              | false => exact ⟨fun q => absurd rfl q, fun _ => ⟨fun q => absurd rfl q, fun _ => go⟩⟩
            · exact k.1 (pdo w acc) i' N2 (hp ▸ condL_e q5 q4) z2
          cases w with
          | false => exact ⟨fun _ => tail M2 z, fun q => absurd rfl q⟩
          | true =>
            refine ⟨fun q => absurd q (by decide), fun _ => ?_⟩
            have : wb true = 1 := rfl
            refine s5_emit (x := (11, 0)) z (by rw [List.length_append]; omega) (Or.inr (Or.inr ⟨by decide, by decide⟩)) (fun M10 z10 => tail M10 ?_)
            rw [show pdo true acc = acc ++ [(11, 0)] from rfl, ← List.append_assoc]
            exact z10
    · intro o i L M Q hN ho z hl k
      have k : cOwe b n m M0 (cmpB (pCC (tyT b n) (tyV b n) N).1 (pCC (tyT b n) (tyV b n) N).2 (tyT b n) (tyV b n) o i) L Q := k
      show FX5_comparison (Fcc N).1 (Fcc N).2 Q 139 (nI o) M
      unfold FX5_comparison
      refine s5_isWord z.1 wO0_6 (fun q6 => ⟨fun _ => ?_, fun q => absurd q (by decide)⟩) (fun q6 => ⟨fun q => absurd rfl q, fun _ => s5_kind z.1 (fun hK => ?_)⟩)
      · unfold NX5_comparison_20
        refine ⟨fun q => ?_, fun q => ?_⟩
        · have ho8 : o < 8 := (nI_ltI (b := 8) (by omega) (by omega)).mp q
          rintro M1 rfl
          have z1 := z.step (by rw [q6.1]; decide)
          refine ⟨fun _ => ?_, fun q => absurd q (by decide)⟩
          rw [nI_1]
          refine ih2 (o + 1) (i + 1) L _ _ (by omega) (by omega) z1 (by omega) ⟨fun c j M2 hc z2 => ⟨fun _ => ?_, fun w => (by cases w)⟩, fun f e M2 hc he => ⟨fun w => (by cases w), fun _ => k.2 f e M2 (cmpB_ne q6 ho8 hc) he⟩⟩
          obtain ⟨-, t3, t4⟩ := (pCC_ty hV N).2 (o + 1) (i + 1) c j [] hc (by omega) (Nat.zero_le _)
          have h5 := z2.le4
          refine s5_emit (x := (9, 0)) z2 (by rw [List.length_append]; omega) (Or.inr (Or.inr ⟨by decide, by decide⟩)) (fun M3 z3 => k.1 _ j M3 (cmpB_n q6 ho8 hc) ?_)
          rw [← List.append_assoc]
          exact z3
        · have ho8 : ¬ o < 8 := fun w => q ((nI_ltI (b := 8) (by omega) (by omega)).mpr w)
          exact s5_refuse 3 z.1 (fun M2 he => k.2 3 i M2 (cmpB_n3 q6 ho8) (he.of z.2.2.cfr))
      · have k40 := KR_s (c := 40) z.1.k4 rfl hK
        refine ⟨fun q => ?_, fun q => ?_⟩
        · have q40 : ¬ (tyT b n i = 4 ∧ tyV b n i = 40) := fun w => q (k40.mpr w)
          rw [cmpB_s q6 q40] at k
          exact s5_cmpS z hl k
        · have q40 := k40.mp q
          unfold NX5_comparison_20
          refine ⟨fun q => ?_, fun q => ?_⟩
          · have ho8 : o < 8 := (nI_ltI (b := 8) (by omega) (by omega)).mp q
            rintro M1 rfl
            have z1 := z.step (by rw [q40.1]; decide)
            refine ⟨fun q => absurd rfl q, fun _ => ?_⟩
            rw [nI_1]
            refine ih1 (o + 1) (i + 1) L _ _ (by omega) (by omega) z1 (by omega) ⟨fun c j M2 hc z2 => ⟨fun w => (by cases w), fun _ => ?_⟩, fun f e M2 hc he => ⟨fun _ => k.2 f e M2 (cmpB_be q40 ho8 hc) he, fun w => (by cases w)⟩⟩
            exact s5_take (c := 41) z2.1 rfl (fun q8 M8 c8 f8 => ⟨fun w => (by cases w), fun _ => k.1 c (j + 1) M8 (cmpB_b q40 ho8 hc q8) (z2.mv c8 f8)⟩) (fun q8 M8 he => ⟨fun _ => k.2 1 j M8 (cmpB_b1 q40 ho8 hc q8) (he.of z2.2.2.cfr), fun w => (by cases w)⟩)
          · have ho8 : ¬ o < 8 := fun w => q ((nI_ltI (b := 8) (by omega) (by omega)).mpr w)
            exact s5_refuse 3 z.1 (fun M2 he => k.2 3 i M2 (cmpB_b3 q40 ho8) (he.of z.2.2.cfr))
