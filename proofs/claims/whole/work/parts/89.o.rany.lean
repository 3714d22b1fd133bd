/-! the reference's loop over a condition -/
def anB (Q : Int32 → Mem → Prop) : (Int32 × Int32 × Mem → Prop) → Int32 × Int32 × Mem → Prop := fun B a => lbX12_readAny_9 Q 166 (fun l1 l2 M => B (l1, l2, M)) a.1 a.2.1 a.2.2
def an_L (Q : Int32 → Mem → Prop) (b : Nat → Nat) (n : Nat) (M0 : Mem) (due : Int32) (i : Nat) (L : List (Nat × Nat)) (S : List Nat) : Prop := ∀ k M, 401 ≤ k + i → RY b n M0 i L S M → xlpn (anB Q) (k + 1) (nI (brk S), due, M)
def anK (Q : Int32 → Mem → Prop) (B : Int32 × Int32 × Mem → Prop) (l1 : Int32) (M9 : Mem) : Prop := ((¬ l1 = 0 → FX12_isSign (fun (r10 : Bool) => ((r10 = true → ∀ M11 : Mem, M11 = xu M9 166 28 ((M9 166 28) - 1) → ∀ M12 : Mem, M12 = xu M11 166 26 ((M11 166 26) - 1) → FX12_settles (fun (M13 : Mem) => FX12_reads (fun (M14 : Mem) => B (l1 - 1, 0, M14)) 166 M13) 166 9 M12) ∧ (r10 = false → FX12_errs (fun (r16 : Int32) (M15 : Mem) => Q r16 M15) 166 1 M9))) 166 41 M9) ∧ (l1 = 0 → Q 0 M9))
def an_K (Q : Int32 → Mem → Prop) (b : Nat → Nat) (n : Nat) (M0 : Mem) (j : Nat) (L : List (Nat × Nat)) (S : List Nat) : Prop := ∀ k M, 401 ≤ k + j → RY b n M0 j L S M → anK Q (xlpn (anB Q) k) (nI (brk S)) M
def an_E (Q : Int32 → Mem → Prop) (b : Nat → Nat) (n : Nat) (M0 : Mem) (f e : Nat) : Prop := ∀ M2, RErr b n f e M0 M2 → Q (-1) M2
def hd12 (S : List Nat) : Prop := S = [] ∨ ∃ S2, S = 12 :: S2
theorem hd12.E {S : List Nat} (h : hd12 S) {x : Nat} (hx : ¬ x = 12) : sE x S = [] ∧ sR x S = S := by
  rcases h with rfl | ⟨S2, rfl⟩
  · exact ⟨rfl, rfl⟩
  · exact ⟨if_neg (by omega), if_neg (by omega)⟩
def pa_ (ap : Bool) : List (Nat × Nat) := if ap = true then [(10, 0)] else []
def pst (ap w : Bool) (S : List Nat) : List Nat := (if ap = true then [10] else []) ++ ((if w = true then [11] else []) ++ S)
theorem pst_a {ap w : Bool} {S : List Nat} (h : hd12 S) : sE 10 (pst ap w S) = pa_ ap ∧ sR 10 (pst ap w S) = pst false w S := by
  have h0 := h.E (x := 10) (by omega)
  cases ap <;> cases w
  · exact h0
  · exact ⟨rfl, rfl⟩
  · refine ⟨?_, ?_⟩
    · show (10, 0) :: sE 10 S = _
      rw [h0.1]; rfl
    · show sR 10 S = _
      rw [h0.2]; rfl
  · exact ⟨rfl, rfl⟩
theorem pst_o {w : Bool} {S : List Nat} (h : hd12 S) (acc : List (Nat × Nat)) : acc ++ sE 11 (pst false w S) = pdo w acc ∧ sR 11 (pst false w S) = S := by
  have h0 := h.E (x := 11) (by omega)
  cases w
  · refine ⟨?_, h0.2⟩
    show acc ++ sE 11 S = acc
    rw [h0.1, List.append_nil]
  · refine ⟨?_, h0.2⟩
    show acc ++ ((11, 0) :: sE 11 S) = acc ++ [(11, 0)]
    rw [h0.1]
theorem pst_ok {ap w : Bool} {S : List Nat} (h : okS S) : okS (pst ap w S) := by
  cases ap <;> cases w
  · exact h
  · exact ⟨by omega, h⟩
  · exact ⟨by omega, h⟩
  · exact ⟨by omega, by omega, h⟩
theorem pst_w (ap w : Bool) (S : List Nat) : wts (pst ap w S) = wts S + wb w + wb ap ∧ (pst ap w S).length = S.length + wb w + wb ap ∧ opn (pst ap w S) = opn S ∧ brk (pst ap w S) = brk S := by
  cases ap <;> cases w <;> exact ⟨rfl, rfl, rfl, rfl⟩
theorem pst_9 {ap w : Bool} {S : List Nat} (h : hd12 S) : sE 9 (pst ap w S) = [] ∧ sR 9 (pst ap w S) = pst ap w S := by
  have h0 := h.E (x := 9) (by omega)
  cases ap <;> cases w
  · exact h0
  · exact ⟨rfl, rfl⟩
  · exact ⟨rfl, rfl⟩
  · exact ⟨rfl, rfl⟩
theorem wb_le (w : Bool) : wb w ≤ 1 := by cases w <;> decide
theorem an_condL {Q : Int32 → Mem → Prop} {b : Nat → Nat} {n : Nat} {M0 : Mem} {cmp : Nat → Except (Nat × Nat) (List (Nat × Nat) × Nat)} {o : Nat} {S : List Nat} {L : List (Nat × Nat)} {R : Except (Nat × Nat) (List (Nat × Nat) × Nat)}
    (hty : ∀ i cs j, cmp i = .ok (cs, j) → i < j ∧ cs.length + i ≤ j)
    (hcmp : ∀ i L S, opn S = o → S.length ≤ 3 * o + 2 → okS S → L.length + wts S ≤ i → i ≤ 400 → sE 9 S = [] → sR 9 S = S → (∀ cs j, cmp i = .ok (cs, j) → j ≤ 400 → an_L Q b n M0 0 j (L ++ cs) S) → (∀ f e, cmp i = .error (f, e) → an_E Q b n M0 f e) → an_L Q b n M0 1 i L S)
    (ho : opn S = o) (h12 : hd12 S) (hl : S.length ≤ 3 * o) (ho8 : o ≤ 8) (hok : okS S)
    (kk : ∀ cs j, R = .ok (cs, j) → j ≤ 400 → an_K Q b n M0 j (L ++ cs) S) (ke : ∀ f e, R = .error (f, e) → an_E Q b n M0 f e) :
    ∀ (r : Nat) (w ap : Bool) (i : Nat) (acc acc2 : List (Nat × Nat)), acc2 = acc ++ pa_ ap → condL cmp (tyT b n) (tyV b n) r w i acc2 = R → 801 ≤ i + 2 * r → i ≤ 400 → L.length + acc2.length + wb w + wts S ≤ i → an_L Q b n M0 0 i (L ++ acc) (pst ap w S)
  | 0, _, _, i, _, _, _, _, hb, hi, _ => by omega
  | r + 1, w, ap, i, acc, acc2, ea, hR, hb, hi, hn => by
    intro k M hk ry
    obtain ⟨k1, rfl⟩ : ∃ k1, k = k1 + 1 := ⟨k - 1, by omega⟩
    have bw := wb_le w
    have wfz : wb false = 0 := rfl
    have ba := wb_le ap
    have la : acc2.length = acc.length + wb ap := by rw [ea, List.length_append]; cases ap <;> rfl
    obtain ⟨pw, pl, po, pb⟩ := pst_w ap w S
    obtain ⟨pw2, pl2, po2, pb2⟩ := pst_w false w S
    have hx1 : (pst ap w S).length ≤ 40 := by omega
    have hx2 : (L ++ acc).length + wts (pst ap w S) ≤ 400 := by rw [List.length_append]; omega
    have e2 : L ++ acc ++ sE 10 (pst ap w S) = L ++ acc2 := by rw [(pst_a h12).1, ea, List.append_assoc]
    have e3 : sR 10 (pst ap w S) = pst false w S := (pst_a h12).2
    show lbX12_readAny_9 Q 166 (fun l1 l2 M => xlpn (anB Q) (k1 + 1) (l1, l2, M)) (nI (brk (pst ap w S))) 0 M
    rw [pb]
    unfold lbX12_readAny_9
    refine ⟨fun _ => ?_, fun q => absurd rfl q⟩
    refine s12_isWord (g := 5) ry.1 (by omega) (fun q5 => ⟨fun w => (by cases w), fun _ => ?_⟩) (fun q5 => ⟨fun _ => ?_, fun w => (by cases w)⟩)
    · refine s12_settles (x := 10) ry (by omega) (pst_ok hok) hx1 hx2 (fun M2 ry2 => ?_)
      rw [e2, e3] at ry2
      refine s12_wait (x := 10) ry2 (Or.inl rfl) (by omega) (fun M3 ry3 => ?_)
      have ry3 : RY b n M0 i (L ++ acc2) (pst true w S) M3 := ry3
      have hi4 := ry.rz.lt4 (by rw [q5.1]; decide)
      obtain ⟨pw3, pl3, po3, pb3⟩ := pst_w true w S
      have wt1 : wb true = 1 := rfl
      refine s12_anext ry3 (fun M4 ry4 => ?_)
      have hanL : an_L Q b n M0 1 (i + 1) (L ++ acc2) (pst true w S) := by
        refine hcmp (i + 1) (L ++ acc2) (pst true w S) (by omega) (by omega) (pst_ok hok) (by rw [List.length_append]; omega) (by omega) (pst_9 h12).1 (pst_9 h12).2 (fun cs j hc hj => ?_) (fun f e hc => ke f e (hR ▸ condL_ae q5 hc))
        obtain ⟨t1, t2⟩ := hty (i + 1) cs j hc
        rw [List.append_assoc]
        exact an_condL hty hcmp ho h12 hl ho8 hok kk ke r w true j (acc2 ++ cs) (acc2 ++ cs ++ [(10, 0)]) rfl ((condL_a q5 hc).symm.trans hR) (by omega) hj (by simp only [List.length_append, List.length_cons, List.length_nil]; omega)
      have := hanL k1 M4 (by omega) ry4
      rw [pb3] at this
      exact this
    · have hi4 : ∀ v, tyT b n i = 2 ∧ tyV b n i = v → i < 400 := fun v q => ry.rz.lt4 (by rw [q.1]; decide)
      have e4 : L ++ acc2 ++ sE 11 (pst false w S) = L ++ pdo w acc2 := by
        rw [List.append_assoc, (pst_o h12 acc2).1]
      have e5 : sR 11 (pst false w S) = S := (pst_o h12 acc2).2
      have wf0 : wb false = 0 := rfl
      have both : ∀ (P : Mem → Prop), (∀ M2, RY b n M0 i (L ++ pdo w acc2) S M2 → P M2) → FX12_settles (fun M8 => FX12_settles P 166 11 M8) 166 10 M := fun P hP => by
        refine s12_settles (x := 10) ry (by omega) (pst_ok hok) hx1 hx2 (fun M2 ry2 => ?_)
        rw [e2, e3] at ry2
        refine s12_settles (x := 11) ry2 (by omega) (pst_ok hok) (by omega) (by rw [List.length_append]; omega) (fun M3 ry3 => hP M3 ?_)
        rw [e4, e5] at ry3
        exact ry3
      refine s12_isWord (g := 4) ry.1 (by omega) (fun q4 => ⟨fun w => (by cases w), fun _ => ?_⟩) (fun q4 => ⟨fun _ => ?_, fun w => (by cases w)⟩)
      · refine both _ (fun M3 ry3 => ?_)
        refine s12_wait (x := 11) ry3 (Or.inr rfl) (by omega) (fun M4 ry4 => ?_)
        have ry4 : RY b n M0 i (L ++ pdo w acc2) (pst false true S) M4 := ry4
        have := hi4 4 q4
        obtain ⟨pw3, pl3, po3, pb3⟩ := pst_w false true S
        have wt1 : wb true = 1 := rfl
        refine s12_anext ry4 (fun M5 ry5 => ?_)
        have hanL : an_L Q b n M0 1 (i + 1) (L ++ pdo w acc2) (pst false true S) := by
          refine hcmp (i + 1) (L ++ pdo w acc2) (pst false true S) (by omega) (by omega) (pst_ok hok) (by rw [List.length_append, pdo_len]; omega) (by omega) (pst_9 h12).1 (pst_9 h12).2 (fun cs j hc hj => ?_) (fun f e hc => ke f e (hR ▸ condL_oe q4 hc))
          obtain ⟨t1, t2⟩ := hty (i + 1) cs j hc
          rw [List.append_assoc]
          exact an_condL hty hcmp ho h12 hl ho8 hok kk ke r true false j (pdo w acc2 ++ cs) (pdo w acc2 ++ cs) (List.append_nil _).symm ((condL_o q4 hc).symm.trans hR) (by omega) hj (by rw [List.length_append, pdo_len]; omega)
        have := hanL k1 M5 (by omega) ry5
        rw [pb3] at this
        exact this
      · refine both _ (fun M3 ry3 => ?_)
        exact kk (pdo w acc2) i (hR ▸ condL_e q5 q4) hi (k1 + 1) M3 hk ry3
theorem an_cc {Q : Int32 → Mem → Prop} {b : Nat → Nat} {n : Nat} {M0 : Mem} : ∀ N : Nat, (∀ i L S, 18 ≤ N + 2 * opn S → opn S ≤ 8 → S.length ≤ 3 * opn S → hd12 S → okS S → L.length + wts S ≤ i → i ≤ 400 → (∀ cs j, (pCC (tyT b n) (tyV b n) N).1 (opn S) i = .ok (cs, j) → j ≤ 400 → an_K Q b n M0 j (L ++ cs) S) → (∀ f e, (pCC (tyT b n) (tyV b n) N).1 (opn S) i = .error (f, e) → an_E Q b n M0 f e) → an_L Q b n M0 1 i L S) ∧
    (∀ i L S, 17 ≤ N + 2 * opn S → opn S ≤ 8 → S.length ≤ 3 * opn S + 2 → okS S → L.length + wts S ≤ i → i ≤ 400 → (∀ cs j, (pCC (tyT b n) (tyV b n) N).2 (opn S) i = .ok (cs, j) → j ≤ 400 → an_L Q b n M0 0 j (L ++ cs ++ sE 9 S) (sR 9 S)) → (∀ f e, (pCC (tyT b n) (tyV b n) N).2 (opn S) i = .error (f, e) → an_E Q b n M0 f e) → an_L Q b n M0 1 i L S)
  | 0 => ⟨fun i L S h ho => by omega, fun i L S h ho => by omega⟩
  | N + 1 => by
    obtain ⟨ih1, ih2⟩ := an_cc (Q := Q) (b := b) (n := n) (M0 := M0) N
    have hV : ∀ i, tyT b n i = 3 → tyV b n i < 10000 := fun i => tyV_num
    constructor
    · intro i L S hN ho hl h12 hok hn hi kk ke
      have kk : ∀ cs j, condB ((pCC (tyT b n) (tyV b n) N).2 (opn S)) (tyT b n) (tyV b n) i = .ok (cs, j) → j ≤ 400 → an_K Q b n M0 j (L ++ cs) S := kk
      have ke : ∀ f e, condB ((pCC (tyT b n) (tyV b n) N).2 (opn S)) (tyT b n) (tyV b n) i = .error (f, e) → an_E Q b n M0 f e := ke
      refine ih2 i L S (by omega) ho (by omega) hok hn hi (fun cs j hc hj => ?_) (fun f e hc => ke f e (condB_e hc))
      rw [(h12.E (x := 9) (by omega)).1, (h12.E (x := 9) (by omega)).2, List.append_nil]
      obtain ⟨-, t1, t2⟩ := (pCC_ty hV N).2 (opn S) i cs j [] hc ho (Nat.zero_le _)
      have wf0 : wb false = 0 := rfl
      refine an_condL (S := S) (o := opn S) (fun i cs j h => ((pCC_ty hV N).2 (opn S) i cs j [] h ho (Nat.zero_le _)).2) ?_ rfl h12 hl ho hok kk ke 400 false false j cs cs (List.append_nil _).symm (condB_k hc).symm (by omega) hj (by omega)
      intro i2 L2 S2 o2 l2 ok2 n2 hi2 s1 s2 k2 e2
      refine ih2 i2 L2 S2 (by omega) (by omega) (by omega) ok2 n2 hi2 (fun cs j hc hj => ?_) (fun f e hc => e2 f e (o2 ▸ hc))
      rw [s1, s2, List.append_nil]
      exact k2 cs j (o2 ▸ hc) hj
    · intro i L S hN ho hl hok hn hi kk ke
      have kk : ∀ cs j, cmpB (pCC (tyT b n) (tyV b n) N).1 (pCC (tyT b n) (tyV b n) N).2 (tyT b n) (tyV b n) (opn S) i = .ok (cs, j) → j ≤ 400 → an_L Q b n M0 0 j (L ++ cs ++ sE 9 S) (sR 9 S) := kk
      have ke : ∀ f e, cmpB (pCC (tyT b n) (tyV b n) N).1 (pCC (tyT b n) (tyV b n) N).2 (tyT b n) (tyV b n) (opn S) i = .error (f, e) → an_E Q b n M0 f e := ke
      intro k M hk ry
      obtain ⟨k1, rfl⟩ : ∃ k1, k = k1 + 1 := ⟨k - 1, by omega⟩
      show lbX12_readAny_9 Q 166 (fun l1 l2 M => xlpn (anB Q) (k1 + 1) (l1, l2, M)) (nI (brk S)) 1 M
      unfold lbX12_readAny_9
      refine ⟨fun q => absurd q (by decide), fun _ => ?_⟩
      have h26 : M 166 26 = nI (opn S) := ry.2.2.2.2.1
      have hb := brk_le S
      /- one more is open -/
      have push : ∀ (x : Nat) (P : Mem → Prop), (x = 9 ∨ x = 12) → opn S < 8 → ¬ tyT b n i = 0 → (∀ M2, RY b n M0 (i + 1) L (x :: S) M2 → P M2) → ∀ M3, M3 = xu M 166 26 (M 166 26 + 1) → FX12_waits (fun M1 => FX12_reads P 166 M1) 166 (nI x) M3 := by
        intro x P hx ho8 hz hP M3 e3
        rw [h26, nI_1] at e3
        have hx3 : ∀ c j, M3 c j = if c = 166 ∧ j = 26 then nI (opn S + 1) else M c j := fun c j => by rw [e3, xu_if]
        have f3 : raf M M3 := fun c j a1 a2 a3 a4 => by rw [hx3, if_neg (by omega)]
        refine s12_waits (S := S) (x := x) (M0 := M0) (L := L) (i := i) (b := b) (n := n) (ry.1.mv f3.rfr (ry.1.rd.cg (fun t a1 a2 => by rw [hx3, if_neg (by omega)]))) (ry.2.1.cg (by rw [hx3, if_neg (by omega)]) (fun c j hc => by rw [hx3, if_neg (by omega)])) (by rw [hx3, if_neg (by omega)]; exact ry.2.2.1) (ry.2.2.2.1.cg (fun t _ => by rw [hx3, if_neg (by omega)])) (by rw [hx3, if_pos ⟨rfl, rfl⟩, opn_c, if_pos (by omega)]) (ry.2.2.2.2.2.trans f3) (by omega) (fun M4 ry4 => s12_anext ry4 hP)
      have full : ∀ (P1 P2 : Prop), (opn S < 8 → P1) → (¬ opn S < 8 → P2) → (¬ M 166 26 = 8 → P1) ∧ (M 166 26 = 8 → P2) := fun P1 P2 a1 a2 => by
        rw [h26]
        refine ⟨fun q => a1 ?_, fun q => a2 ?_⟩
        · have : ¬ opn S = 8 := fun w => q (by rw [w]; rfl)
          omega
        · have := (nI_eq (b := 8) (by omega) (by omega)).mp q
          omega
      refine s12_isWord (g := 6) ry.1 (by omega) (fun q6 => ⟨fun _ => ?_, fun q => absurd q (by decide)⟩) (fun q6 => ⟨fun q => absurd rfl q, fun _ => ?_⟩)
      · have hz : ¬ tyT b n i = 0 := by rw [q6.1]; decide
        have hi4 := ry.rz.lt4 hz
        unfold NX12_readAny_33 NX12_readAny_66 NX12_readAny_78
        refine full _ _ (fun ho8 M3 e3 => ⟨fun _ => ⟨fun q => absurd q (by decide), fun _ => ?_⟩, fun q => absurd q (by decide)⟩) (fun ho8 => s12_errs 3 ry.1 (fun M2 he => ke 3 i (cmpB_n3 q6 ho8) M2 (he.of ry.2.2.2.2.2.rfr)))
        refine push 9 _ (Or.inl rfl) ho8 hz (fun M4 ry4 => ?_) M3 e3
        have o9 : opn (9 :: S) = opn S + 1 := rfl
        have w9 : wts (9 :: S) = wts S + 1 := rfl
        have hanL : an_L Q b n M0 1 (i + 1) L (9 :: S) := by
          refine ih2 (i + 1) L (9 :: S) (by omega) (by omega) (by rw [List.length_cons]; omega) ⟨by omega, hok⟩ (by omega) (by omega) (fun cs j hc hj => ?_) (fun f e hc => ke f e (cmpB_ne q6 ho8 hc))
          have := kk (cs ++ [(9, 0)]) j (cmpB_n q6 ho8 hc) hj
          rw [show sE 9 (9 :: S) = (9, 0) :: sE 9 S from if_pos rfl, show sR 9 (9 :: S) = sR 9 S from if_pos rfl, show L ++ cs ++ (9, 0) :: sE 9 S = L ++ (cs ++ [(9, 0)]) ++ sE 9 S by simp]
          exact this
        exact hanL k1 M4 (by omega) ry4
      · refine s12_isSign (g := 40) ry.1 (by omega) (fun q40 => ⟨fun w => (by cases w), fun _ => ?_⟩) (fun q40 => ⟨fun _ => ?_, fun w => (by cases w)⟩)
        · have hz : ¬ tyT b n i = 0 := by rw [q40.1]; decide
          have hi4 := ry.rz.lt4 hz
          unfold NX12_readAny_33 NX12_readAny_66 NX12_readAny_78
          refine full _ _ (fun ho8 M3 e3 => ⟨fun q => absurd rfl q, fun _ => ⟨fun _ => ?_, fun q => absurd rfl q⟩⟩) (fun ho8 => s12_errs 3 ry.1 (fun M2 he => ke 3 i (cmpB_b3 q40 ho8) M2 (he.of ry.2.2.2.2.2.rfr)))
          refine push 12 _ (Or.inr rfl) ho8 hz (fun M4 ry4 => ?_) M3 e3
          have o9 : opn (12 :: S) = opn S + 1 := rfl
          have w9 : wts (12 :: S) = wts S := rfl
          have b9 : brk (12 :: S) = brk S + 1 := rfl
          have l9 : (12 :: S).length = S.length + 1 := rfl
          have hanL : an_L Q b n M0 1 (i + 1) L (12 :: S) := by
            refine ih1 (i + 1) L (12 :: S) (by omega) (by omega) (by omega) (Or.inr ⟨S, rfl⟩) ⟨by omega, hok⟩ (by omega) (by omega) (fun cs j hc hj => ?_) (fun f e hc => ke f e (cmpB_be q40 ho8 hc))
            obtain ⟨-, t1, t2⟩ := (pCC_ty hV N).1 (opn (12 :: S)) (i + 1) cs j [] hc (by omega) (Nat.zero_le _)
            intro k2 M5 hk2 ry5
            unfold anK
            rw [b9]
            refine ⟨fun _ => ?_, fun q => absurd q (nI_ne0 (by omega) (by omega))⟩
            refine s12_isSign (g := 41) ry5.1 (by omega) (fun q41 => ⟨fun _ => ?_, fun w => (by cases w)⟩) (fun q41 => ⟨fun w => (by cases w), fun _ => s12_errs 1 ry5.1 (fun M2 he => ke 1 j (cmpB_b1 q40 ho8 hc q41) M2 (he.of ry5.2.2.2.2.2.rfr))⟩)
            have hj4 := ry5.rz.lt4 (by rw [q41.1]; decide)
            intro M11 e11 M12 e12
            have p1 : M5 166 28 - 1 = nI S.length := by rw [ry5.2.2.1, l9, nI_pred]
            have p2 : M11 166 26 - 1 = nI (opn S) := by
              rw [e11, xu_at _ _ _ (by decide), ry5.2.2.2.2.1, o9, nI_pred]
            rw [p1] at e11
            rw [p2] at e12
            have hx : ∀ c j, M12 c j = if c = 166 ∧ j = 26 then nI (opn S) else if c = 166 ∧ j = 28 then nI S.length else M5 c j := fun c j => by rw [e12, e11, xu_if, xu_if]
            have f12 : raf M5 M12 := fun c j a1 a2 a3 a4 => by rw [hx, if_neg (by omega), if_neg (by omega)]
            have ry12 : RY b n M0 j (L ++ cs) S M12 := ⟨ry5.1.mv f12.rfr (ry5.1.rd.cg (fun t a1 a2 => by rw [hx, if_neg (by omega), if_neg (by omega)])), ry5.2.1.cg (by rw [hx, if_neg (by omega), if_neg (by omega)]) (fun c j hc => by rw [hx, if_neg (by omega), if_neg (by omega)]), by rw [hx, if_neg (by omega), if_pos ⟨rfl, rfl⟩], ry5.2.2.2.1.2.cg (fun t _ => by rw [hx, if_neg (by omega), if_neg (by omega)]), by rw [hx, if_pos ⟨rfl, rfl⟩], ry5.2.2.2.2.2.trans f12⟩
            refine s12_settles (x := 9) ry12 (by omega) hok (by omega) (by rw [List.length_append]; omega) (fun M13 ry13 => ?_)
            refine s12_anext ry13 (fun M14 ry14 => ?_)
            obtain ⟨k3, rfl⟩ : ∃ k3, k2 = k3 + 1 := ⟨k2 - 1, by omega⟩
            have := kk cs (j + 1) (cmpB_b q40 ho8 hc q41) (by omega) k3 M14 (by omega) ry14
            rw [sR_brk 9 (by omega)] at this
            rw [nI_pred]
            exact this
          have := hanL k1 M4 (by omega) ry4
          rw [b9] at this
          show xlpn (anB Q) (k1 + 1) (nI (brk S) + 1, 1, M4)
          rw [nI_1]
          exact this
        · rw [cmpB_s q6 q40] at kk ke
          refine s12_compared ry.rz (by omega) ⟨fun cs j M2 hs hj z2 => ⟨fun _ => ?_, fun q => absurd q (by decide)⟩, fun f e M2 hs he => ⟨fun q => absurd rfl q, fun _ => ke f e hs M2 (he.of ry.2.2.2.2.2.rfr)⟩⟩
          obtain ⟨-, t1, t2⟩ := cmpS_ty hV [] hs (by decide)
          have ry2 := ry.su z2
          refine s12_settles (x := 9) ry2 (by omega) hok (by omega) (by rw [List.length_append]; omega) (fun M3 ry3 => ?_)
          have := kk cs j hs hj k1 M3 (by omega) ry3
          rw [sR_brk 9 (by omega)] at this
          exact this
theorem s12_any {Q : Int32 → Mem → Prop} {b : Nat → Nat} {n i : Nat} {M : Mem} {L : List (Nat × Nat)} (ra : RA b n i M) (rc : RCd L M) (h26 : M 166 26 = 0) (hn : L.length ≤ i) (hi : i ≤ 400) (k : ∀ cs j M2, (pCC (tyT b n) (tyV b n) 20).1 0 i = .ok (cs, j) → j ≤ 400 → RA b n j M2 → RCd (L ++ cs) M2 → M2 166 26 = 0 → raf M M2 → Q 0 M2) (k2 : ∀ f e M2, (pCC (tyT b n) (tyV b n) 20).1 0 i = .error (f, e) → RErr b n f e M M2 → Q (-1) M2) : FX12_readAny Q 166 M := by
  unfold FX12_readAny
  intro M1 e1
  have hx : ∀ c j, M1 c j = if c = 166 ∧ j = 28 then 0 else M c j := fun c j => by rw [e1, xu_if]
  have f1 : raf M M1 := fun c j a1 a2 a3 a4 => by rw [hx, if_neg (by omega)]
  have ry1 : RY b n M i L [] M1 := ⟨ra.mv f1.rfr (ra.rd.cg (fun t a1 a2 => by rw [hx, if_neg (by omega)])), rc.cg (by rw [hx, if_neg (by omega)]) (fun c j hc => by rw [hx, if_neg (by omega)]), by rw [hx, if_pos ⟨rfl, rfl⟩]; rfl, trivial, by rw [hx, if_neg (by omega)]; exact h26, f1⟩
  refine ⟨402, (an_cc (Q := Q) (b := b) (n := n) (M0 := M) 20).1 i L [] (by decide) (by decide) (by decide) (Or.inl rfl) trivial (by show L.length + 0 ≤ i; omega) hi (fun cs j hc hj => ?_) (fun f e hc M2 he => k2 f e M2 hc he) 401 M1 (by omega) ry1⟩
  intro k3 M5 hk3 ry5
  unfold anK
  exact ⟨fun q => absurd rfl q, fun _ => k cs j M5 hc hj ry5.1 ry5.2.1 ry5.2.2.2.2.1 ry5.2.2.2.2.2⟩
