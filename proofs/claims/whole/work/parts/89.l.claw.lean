/-! the class reads THE LAW -/
def cds (L : List (Nat × List (Nat × Nat) × List (Nat × Nat))) : List (Nat × Nat) := L.flatMap (fun x => x.2.1 ++ x.2.2)
def lrow (L : List (Nat × List (Nat × Nat) × List (Nat × Nat))) (l : Nat) : Nat × List (Nat × Nat) × List (Nat × Nat) := L.getD l (0, [], [])
def lst (L : List (Nat × List (Nat × Nat) × List (Nat × Nat))) (l : Nat) : Nat := (cds (L.take l)).length
theorem cds_app (L : List (Nat × List (Nat × Nat) × List (Nat × Nat))) (x : Nat × List (Nat × Nat) × List (Nat × Nat)) : cds (L ++ [x]) = cds L ++ (x.2.1 ++ x.2.2) := by simp [cds]
theorem lst_old {L : List (Nat × List (Nat × Nat) × List (Nat × Nat))} {x : Nat × List (Nat × Nat) × List (Nat × Nat)} {l : Nat} (h : l ≤ L.length) : lst (L ++ [x]) l = lst L l := by
  unfold lst
  rw [List.take_append_of_le_length h]
theorem lst_new (L : List (Nat × List (Nat × Nat) × List (Nat × Nat))) : lst L L.length = (cds L).length := by
  unfold lst
  rw [List.take_length]
def lnR (L : List (Nat × List (Nat × Nat) × List (Nat × Nat))) (M : Mem) : Prop := ∀ l, l < L.length → M 142 l = nI (lrow L l).1 ∧ M 143 l = nI (lst L l) ∧ M 144 l = nI (lst L l + (lrow L l).2.1.length) ∧ M 145 l = nI (lst L l + (lrow L l).2.1.length + (lrow L l).2.2.length)
theorem lnR.cg {L : List (Nat × List (Nat × Nat) × List (Nat × Nat))} {M M2 : Mem} (h : lnR L M) (f : ∀ c l, 142 ≤ c → c ≤ 145 → l < L.length → M2 c l = M c l) : lnR L M2 := fun l hl => by
  rw [f 142 l (by omega) (by omega) hl, f 143 l (by omega) (by omega) hl, f 144 l (by omega) (by omega) hl, f 145 l (by omega) (by omega) hl]
  exact h l hl
def lnC (L : List (Nat × List (Nat × Nat) × List (Nat × Nat))) (i : Nat) (M : Mem) : Prop := CCd (cds L) M ∧ M 140 7 = nI L.length ∧ (cds L).length ≤ i ∧ lnR L M
theorem CCd.cg {L : List (Nat × Nat)} {M M2 : Mem} (h : CCd L M) (f6 : M2 140 6 = M 140 6) (f : ∀ j, M2 141 j = M 141 j) : CCd L M2 := ⟨by rw [f6]; exact h.1, fun j hj => by rw [f]; exact h.2 j hj⟩
theorem s5_lawEnd {b : Nat → Nat} {n m k g : Nat} {L : List (Nat × List (Nat × Nat) × List (Nat × Nat))} {c d : List (Nat × Nat)} {M N : Mem} {Q : Bool → Mem → Prop} (ca : CA 0 b n m k N) (hc : CCd (cds L ++ c ++ d) N) (h7 : N 140 7 = nI L.length) (hL : L.length < 16) (hk : (cds L ++ c ++ d).length ≤ k) (hR : lnR L N) (n1 : N 142 L.length = nI g) (n2 : N 143 L.length = nI (cds L).length) (n3 : N 144 L.length = nI (cds L ++ c).length) (hf : cl1 M N) (h1 : ∀ x j M2, lawE (tyT b n) (tyV b n) g c d k = .ok (x, j) → CA 0 b n m j M2 → cl1 M M2 → lnC (L ++ [x]) j M2 → Q true M2) (h2 : ∀ f e M2, lawE (tyT b n) (tyV b n) g c d k = .error (f, e) → CErr b n f e M M2 → Q false M2) : NX5_lawLine_88 Q 139 N := by
  unfold NX5_lawLine_88 FX2_closeLine
  rw [show N (139 + 1) 7 = nI L.length from h7]
  refine ⟨fun q => absurd ((nI_leI (a := 16) (by omega) (by omega)).mp q) (by omega), fun _ => ⟨vp_in_nI (by omega) (by omega), ?_⟩⟩
  rw [ixn (by omega), show N (139 + 1) 6 = nI (cds L ++ c ++ d).length from hc.1]
  rintro M1 rfl M2 rfl
  rw [xu_cell _ _ _ (show (139 + 1 : Nat) ≠ 139 + 1 + 5 by decide), show N (139 + 1) 7 = nI L.length from h7, nI_1]
  have ca2 : CA 0 b n m k (xu (xu N (139 + 1 + 5) L.length (nI (cds L ++ c ++ d).length)) (139 + 1) 7 (nI (L.length + 1))) := ca.mv (fun c j q1 q2 => by simp only [xu_if]; rw [if_neg (by omega), if_neg (by omega)]) (by simp [xu_if]; exact ca.nx) ca.le
  have f2 : cl1 N (xu (xu N (139 + 1 + 5) L.length (nI (cds L ++ c ++ d).length)) (139 + 1) 7 (nI (L.length + 1))) := fun c j hc => by simp only [xu_if]; rw [if_neg (by omega), if_neg (by omega)]
  refine s5_take (c := 59) ca2 rfl (fun q M3 c3 f3 => h1 (g, c, d) (k + 1) M3 (if_pos q) c3 ((hf.trans f2).trans f3.cl1) ⟨?_, ?_, ?_, ?_⟩) (fun q M3 he => h2 1 k M3 (if_neg q) (he.of (hf.trans f2).cfr))
  · rw [cds_app, ← List.append_assoc]
    refine hc.cg ?_ (fun j => ?_)
    · rw [f3 140 6 (by omega)]; simp [xu_if]
    · rw [f3 141 j (by omega)]; simp [xu_if]
  · rw [f3 140 7 (by omega)]; simp [xu_if]
  · rw [cds_app, ← List.append_assoc]
    show (cds L ++ c ++ d).length ≤ k + 1
    omega
  · intro l hl
    rw [f3 142 l (by omega), f3 143 l (by omega), f3 144 l (by omega), f3 145 l (by omega)]
    rw [List.length_append] at hl
    by_cases hll : l = L.length
    · subst hll
      rw [lst_old (Nat.le_refl _), lst_new, show lrow (L ++ [(g, c, d)]) L.length = (g, c, d) from getD_new _ _ _]
      simp only [xu_if]
      rw [List.length_append] at n3
      refine ⟨by simpa using n1, by simpa using n2, by simpa using n3, ?_⟩
      simp [Nat.add_assoc]
    · have hl2 : l < L.length := by simp at hl; omega
      rw [lst_old (by omega), show lrow (L ++ [(g, c, d)]) l = lrow L l from getD_old _ _ hl2]
      have := hR l hl2
      simp only [xu_if]
      simpa [hll] using this
theorem wO0_0 : wOk 0 0 0 := ⟨by decide, by decide +kernel⟩
theorem wO0_1 : wOk 0 1 1 := ⟨by decide, by decide +kernel⟩
theorem wO0_2 : wOk 0 2 2 := ⟨by decide, by decide +kernel⟩
section LWP
variable {T V : Nat → Nat} {l i j k : Nat} {c d : List (Nat × Nat)} {e : Nat × Nat}
theorem lawP_1 (q : ¬ (T i = 2 ∧ V i ≤ 2)) : lawP T V l i = .error (1, i) := by rw [lawP, if_neg q]
theorem lawP_3 (q : T i = 2 ∧ V i ≤ 2) (h : ¬ l < 16) : lawP T V l i = .error (3, i) := by rw [lawP, if_pos q, if_neg h]
theorem lawP_e (q : T i = 2 ∧ V i ≤ 2) (h : l < 16) (hs : sumP T V (i + 1) = .error e) : lawP T V l i = .error e := by rw [lawP, if_pos q, if_pos h, hs]
theorem lawP_n (q : T i = 2 ∧ V i ≤ 2) (h : l < 16) (hs : sumP T V (i + 1) = .ok (c, j)) (h3 : ¬ (T j = 2 ∧ V j = 3)) : lawP T V l i = lawE T V (V i) c [] j := by
  rw [lawP, if_pos q, if_pos h, hs]
  exact if_neg h3
theorem lawP_we (q : T i = 2 ∧ V i ≤ 2) (h : l < 16) (hs : sumP T V (i + 1) = .ok (c, j)) (h3 : T j = 2 ∧ V j = 3) (hc : (pCC T V 20).1 0 (j + 1) = .error e) : lawP T V l i = .error e := by
  rw [lawP, if_pos q, if_pos h, hs]
  show (if _ then _ else _) = _
  rw [if_pos h3, hc]
theorem lawP_w (q : T i = 2 ∧ V i ≤ 2) (h : l < 16) (hs : sumP T V (i + 1) = .ok (c, j)) (h3 : T j = 2 ∧ V j = 3) (hc : (pCC T V 20).1 0 (j + 1) = .ok (d, k)) : lawP T V l i = lawE T V (V i) c d k := by
  rw [lawP, if_pos q, if_pos h, hs]
  show (if _ then _ else _) = _
  rw [if_pos h3, hc]
end LWP
theorem cfl.cl1 {M M2 : Mem} (h : cfl M M2) : cl1 M M2 := fun c i hc => h c i (by omega) (by omega) (by omega)
theorem s5_lawLine {b : Nat → Nat} {n m : Nat} (L : List (Nat × List (Nat × Nat) × List (Nat × Nat))) (i : Nat) (M : Mem) (Q : Bool → Mem → Prop) (ca : CA 0 b n m i M) (h7 : M 139 7 = nI L.length) (hL : L.length ≤ 16) (hR : lnC L i M) (h1 : ∀ x j M2, lawP (tyT b n) (tyV b n) L.length i = .ok (x, j) → CA 0 b n m j M2 → cl1 M M2 → lnC (L ++ [x]) j M2 → Q true M2) (h2 : ∀ f e M2, lawP (tyT b n) (tyV b n) L.length i = .error (f, e) → CErr b n f e M M2 → Q false M2) : FX5_lawLine Q 139 M := by
  have hV : ∀ i, tyT b n i = 3 → tyV b n i < 10000 := fun i => tyV_num
  have go : ∀ g, g ≤ 2 → wOk 0 g g → ((tyT b n i = 2 ∧ tyV b n i ≤ 2) → tyV b n i = g) → NX5_lawLine_25 Q 139 (nI g) M := by
    intro g hg hw hgv
    unfold NX5_lawLine_25
    refine s5_begin ca hw h7 hL (fun q1 q2 M1 c1 f1 => ⟨fun _ => ?_, fun w => (by cases w)⟩) (fun q M2 he => ⟨fun w => (by cases w), fun _ => h2 1 i M2 (lawP_1 (fun w => q ⟨w.1, hgv w⟩)) he⟩) (fun q1 q2 M2 he => ⟨fun w => (by cases w), fun _ => h2 3 i M2 (lawP_3 ⟨q1.1, by omega⟩ (by omega)) he⟩)
    have qv : tyT b n i = 2 ∧ tyV b n i ≤ 2 := ⟨q1.1, by omega⟩
    unfold FX2_openLine
    have e7 : M1 (139 + 1) 7 = nI L.length := (f1 140 7 (by omega)).trans hR.2.1
    have e6 : M1 (139 + 1) 6 = nI (cds L).length := (f1 140 6 (by omega)).trans hR.1.1
    rw [e7]
    refine ⟨fun q => absurd ((nI_leI (a := 16) (by omega) (by omega)).mp q) (by omega), fun _ => ⟨vp_in_nI (by omega) (by omega), ?_⟩⟩
    rw [ixn (by omega)]
    rintro M2 rfl
    rw [xu_cell _ _ _ (show (139 + 1 : Nat) ≠ 139 + 1 + 2 by decide), e7, e6, ixn (by omega)]
    refine ⟨vp_in_nI (by omega) (by omega), ?_⟩
    intro M6 e66
    have hx6 : ∀ c j, M6 c j = if c = 143 ∧ j = L.length then nI (cds L).length else if c = 142 ∧ j = L.length then nI g else M1 c j := fun c j => by rw [e66, xu_if, xu_if]
    have f6 : cl1 M1 M6 := fun c j hc => by rw [hx6, if_neg (by omega), if_neg (by omega)]
    have z6 : CZ b n m M6 (i + 1) (cds L) M6 := by
      refine ⟨c1.mv (fun c j a1 a2 => by rw [hx6, if_neg (by omega), if_neg (by omega)]) (by rw [hx6, if_neg (by omega), if_neg (by omega)]; exact c1.nx) c1.le, ?_, cfl.refl _⟩
      refine (hR.1.cs f1).cg ?_ (fun j => ?_)
      · rw [hx6, if_neg (by omega), if_neg (by omega)]
      · rw [hx6, if_neg (by omega), if_neg (by omega)]
    have hlen := hR.2.2.1
    refine s5_sum z6 (by omega) (fun cs j M7 hs z7 => ⟨fun _ => ?_, fun w => (by cases w)⟩) (fun f e M2 hs he => ⟨fun w => (by cases w), fun _ => h2 f e M2 (lawP_e qv q2 hs) (he.of (f1.cfr.trans f6.cfr))⟩)
    obtain ⟨-, t1, t2⟩ := sumP_ty hV [] hs (by decide)
    have e77 : M7 (139 + 1) 7 = nI L.length := by
      rw [z7.2.2 140 7 (by omega) (by omega) (by omega), hx6, if_neg (by omega), if_neg (by omega)]
      exact e7
    unfold FX2_markWhen
    rw [e77]
    refine ⟨fun q => absurd ((nI_leI (a := 16) (by omega) (by omega)).mp q) (by omega), fun _ => ⟨vp_in_nI (by omega) (by omega), ?_⟩⟩
    rw [ixn (by omega), show M7 (139 + 1) 6 = nI (cds L ++ cs).length from z7.2.1.1]
    intro M9 e9
    have hx9 : ∀ c j, M9 c j = if c = 144 ∧ j = L.length then nI (cds L ++ cs).length else M7 c j := fun c j => by rw [e9, xu_if]
    have f9 : cl1 M7 M9 := fun c j hc => by rw [hx9, if_neg (by omega)]
    have f19 : cl1 M M9 := ((f1.cl1.trans f6).trans z7.2.2.cl1).trans f9
    have z9 : CZ b n m M9 j (cds L ++ cs) M9 := by
      refine ⟨z7.1.mv (fun c j a1 a2 => by rw [hx9, if_neg (by omega)]) (by rw [hx9, if_neg (by omega)]; exact z7.1.nx) z7.1.le, ?_, cfl.refl _⟩
      refine z7.2.1.cg ?_ (fun j => ?_)
      · rw [hx9, if_neg (by omega)]
      · rw [hx9, if_neg (by omega)]
    have g9 : ∀ c l, 142 ≤ c → c ≤ 145 → M9 c l = if c = 144 ∧ l = L.length then nI (cds L ++ cs).length else if c = 143 ∧ l = L.length then nI (cds L).length else if c = 142 ∧ l = L.length then nI g else M c l := fun c l a1 a2 => by
      rw [hx9, z7.2.2 c l (by omega) (by omega) (by omega), hx6, f1 c l (by omega)]
    have fin : ∀ ds k N, cfl M9 N → CZ b n m M9 k (cds L ++ cs ++ ds) N → (cds L ++ cs ++ ds).length ≤ k → lawP (tyT b n) (tyV b n) L.length i = lawE (tyT b n) (tyV b n) g cs ds k → NX5_lawLine_88 Q 139 N := by
      intro ds k N fN zN hk hp
      have gN : ∀ c l, 142 ≤ c → c ≤ 145 → N c l = if c = 144 ∧ l = L.length then nI (cds L ++ cs).length else if c = 143 ∧ l = L.length then nI (cds L).length else if c = 142 ∧ l = L.length then nI g else M c l := fun c l a1 a2 => by
        rw [fN c l (by omega) (by omega) (by omega), g9 c l a1 a2]
      refine s5_lawEnd (M := M) zN.1 zN.2.1 ?_ q2 hk (hR.2.2.2.cg (fun c l a1 a2 a3 => by rw [gN c l a1 a2, if_neg (by omega), if_neg (by omega), if_neg (by omega)])) ?_ ?_ ?_ (f19.trans fN.cl1) (fun x j M2 e1 => h1 x j M2 (hp.trans e1)) (fun f e M2 e1 => h2 f e M2 (hp.trans e1))
      · rw [fN 140 7 (by omega) (by omega) (by omega), hx9, if_neg (by omega)]; exact e77
      · rw [gN 142 _ (by omega) (by omega), if_neg (by omega), if_neg (by omega), if_pos ⟨rfl, rfl⟩]
      · rw [gN 143 _ (by omega) (by omega), if_neg (by omega), if_pos ⟨rfl, rfl⟩]
      · rw [gN 144 _ (by omega) (by omega), if_pos ⟨rfl, rfl⟩]
    refine s5_isWord z9.1 wO0_3 (fun q3 => ⟨fun w => (by cases w), fun _ => ?_⟩) (fun q3 => ⟨fun _ => ?_, fun w => (by cases w)⟩)
    · rintro M11 rfl
      have z11 := z9.step (by rw [q3.1]; decide)
      show (Fcc 20).1 _ 139 (nI 0) _
      refine (s5_cc (b := b) (n := n) (m := m) (M0 := M9) 20).1 0 (j + 1) (cds L ++ cs) _ _ (by omega) (by omega) z11 (by rw [List.length_append]; omega) ⟨fun ds k M12 hc z12 => ⟨fun _ => ?_, fun w => (by cases w)⟩, fun f e M12 hc he => ⟨fun w => (by cases w), fun _ => h2 f e M12 (lawP_we qv q2 hs q3 hc) (he.of f19.cfr)⟩⟩
      obtain ⟨-, t3, t4⟩ := (pCC_ty hV 20).1 0 (j + 1) ds k [] hc (by omega) (Nat.zero_le _)
      exact fin ds k M12 z12.2.2 z12 (by rw [List.length_append, List.length_append]; omega) (by rw [lawP_w qv q2 hs q3 hc, q1.2])
    · exact fin [] j M9 (cfl.refl _) (by rw [List.append_nil]; exact z9) (by rw [List.append_nil, List.length_append]; omega) (by rw [lawP_n qv q2 hs q3, q1.2])
  unfold FX5_lawLine
  refine s5_isWord ca wO0_0 (fun q0 => ⟨fun w => (by cases w), fun _ => go 0 (by omega) wO0_0 (fun _ => q0.2)⟩) (fun q0 => ⟨fun _ => ?_, fun w => (by cases w)⟩)
  exact s5_isWord ca wO0_1 (fun q1 => ⟨fun w => (by cases w), fun _ => go 1 (by omega) wO0_1 (fun _ => q1.2)⟩) (fun q1 => ⟨fun _ => go 2 (by omega) wO0_2 (fun w => by omega), fun w => (by cases w)⟩)
theorem lawP_16 {T V : Nat → Nat} {i : Nat} (x : (Nat × List (Nat × Nat) × List (Nat × Nat)) × Nat) : lawP T V 16 i ≠ .ok x := by
  by_cases q : T i = 2 ∧ V i ≤ 2
  · rw [lawP_3 q (by omega)]; exact fun w => by cases w
  · rw [lawP_1 q]; exact fun w => by cases w
theorem s5_lawLoop {b : Nat → Nat} {n m : Nat} {M : Mem} {Q : Int32 → Mem → Prop} (ca : CA 0 b n m 0 M) (h7 : M 139 7 = 0) (hR0 : lnC [] 0 M)
    (h1 : ∀ L i M2, pAll (tyT b n) (lawP (tyT b n) (tyV b n)) 18 0 [] = .ok L → L.length ≤ 16 → i ≤ 400 → lnC L i M2 → cl2 M M2 → Q (nI L.length) M2) (h2 : ∀ f e M2, pAll (tyT b n) (lawP (tyT b n) (tyV b n)) 18 0 [] = .error (f, e) → CErr b n f e M M2 → Q (-1) M2) : NX5_read_79 Q 139 0 0 M := by
  unfold NX5_read_79
  have stp : ∀ (B : Int32 × Mem → Prop) (L : List (Nat × List (Nat × Nat) × List (Nat × Nat))) (i r : Nat) (N : Mem), L.length ≤ 16 → CA 0 b n m i N → N 139 7 = nI L.length → lnC L i N → pAll (tyT b n) (lawP (tyT b n) (tyV b n)) (r + 1) i L = pAll (tyT b n) (lawP (tyT b n) (tyV b n)) 18 0 [] → cl2 M N → (∀ x j M2, lawP (tyT b n) (tyV b n) L.length i = .ok (x, j) → CA 0 b n m j M2 → cl1 N M2 → lnC (L ++ [x]) j M2 → pAll (tyT b n) (lawP (tyT b n) (tyV b n)) r j (L ++ [x]) = pAll (tyT b n) (lawP (tyT b n) (tyV b n)) 18 0 [] → B (nI (L.length + 1), xu M2 139 7 (nI (L.length + 1)))) → lbX5_read_79 Q 139 0 (fun l5 M => B (l5, M)) (nI L.length) N := by
    intro B L i r N hL ca hn7 hRL hp hf hB
    unfold lbX5_read_79
    refine ⟨fun q => absurd ((nI_leI (a := 400) (by omega) (by omega)).mp q) (by omega), fun _ => s5_kind ca (fun hK => ?_)⟩
    have hz := KR_n (d := 200) (t' := 0) ca.k4 (Or.inl ⟨rfl, rfl⟩) hK
    refine ⟨fun q => ?_, fun q => ?_⟩
    · rw [hn7]
      have := ca.le
      have := ca.mn
      have := ca.n4
      exact h1 L i N (hp ▸ pAll_0 (hz.mp q)) hL (by omega) hRL hf
    · have hz' : ¬ tyT b n i = 0 := fun w => q (hz.mpr w)
      refine ⟨fun q => absurd rfl q, fun _ => s5_lawLine L i N _ ca hn7 hL hRL (fun x j M2 e1 c1 f1 r1 => ?_) (fun f e M2 e1 he => ?_)⟩
      · unfold NX5_read_136
        refine ⟨fun _ => ?_, fun q => absurd q (by decide)⟩
        rintro M1 rfl
        rw [f1 139 7 (by omega), hn7, nI_1]
        exact hB x j M2 e1 c1 f1 r1 ((pAll_k hz' e1).symm.trans hp)
      · unfold NX5_read_136
        exact ⟨fun q => absurd rfl q, fun _ => h2 f e M2 (hp ▸ pAll_e hz' e1) (he.of hf.cfr)⟩
  refine xlp_for (fun r (a : Int32 × Mem) => ∃ (L : List (Nat × List (Nat × Nat) × List (Nat × Nat))) (i : Nat), L.length + r = 16 ∧ a.1 = nI L.length ∧ CA 0 b n m i a.2 ∧ a.2 139 7 = nI L.length ∧ lnC L i a.2 ∧ pAll (tyT b n) (lawP (tyT b n) (tyV b n)) (r + 2) i L = pAll (tyT b n) (lawP (tyT b n) (tyV b n)) 18 0 [] ∧ cl2 M a.2) ?_ ?_ 16 _ ⟨[], 0, rfl, rfl, ca, h7, hR0, rfl, fun _ _ _ => rfl⟩
  · rintro ⟨a, N⟩ B ⟨L, i, hr, ha, ca, hn7, hRL, hp, hf⟩
    have ha' : a = nI L.length := ha
    subst ha'
    refine stp B L i 1 N (by omega) ca hn7 hRL hp hf (fun x j M2 e1 => ?_)
    rw [show L.length = 16 by omega] at e1
    exact absurd e1 (lawP_16 _)
  · rintro r ⟨a, N⟩ B ⟨L, i, hr, ha, ca, hn7, hRL, hp, hf⟩ hB
    have ha' : a = nI L.length := ha
    subst ha'
    refine stp B L i (r + 2) N (by omega) ca hn7 hRL hp hf (fun x j M2 e1 c1 f1 r1 hp1 => ?_)
    have g7 : ∀ c l, 140 ≤ c → xu M2 139 7 (nI (L.length + 1)) c l = M2 c l := fun c l a1 => xu_ne _ _ (by omega)
    have hc7 : lnC (L ++ [x]) j (xu M2 139 7 (nI (L.length + 1))) := ⟨r1.1.cg (g7 140 6 (by omega)) (fun j => g7 141 j (by omega)), (g7 140 7 (by omega)).trans r1.2.1, r1.2.2.1, r1.2.2.2.cg (fun c l a1 a2 _ => g7 c l (by omega))⟩
    refine hB _ ⟨L ++ [x], j, by simp; omega, by simp, c1.mv (fun c i q1 q2 => xu_ne _ _ (by omega)) (by simp [xu_if]; exact c1.nx) c1.le, by simp [xu_same], hc7, hp1, hf.trans (fun c i hc => ?_)⟩
    show xu M2 139 7 (nI (L.length + 1)) c i = _
    rw [xu_ne _ _ (by omega)]
    exact f1 c i (by omega)
