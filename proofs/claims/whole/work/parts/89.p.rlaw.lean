/-! the reference reads THE LAW -/
/-- the lines, as they lie in the draft -/
def lnD (L : List (Nat × List (Nat × Nat) × List (Nat × Nat))) (M : Mem) : Prop := ∀ l, l < L.length → M 175 (32 + l) = nI (lrow L l).1 ∧ M 176 (32 + l) = nI (lst L l) ∧ M 177 (32 + l) = nI (lst L l + (lrow L l).2.1.length) ∧ M 178 (32 + l) = nI (lst L l + (lrow L l).2.1.length + (lrow L l).2.2.length)
theorem lnD.cg {L : List (Nat × List (Nat × Nat) × List (Nat × Nat))} {M M2 : Mem} (h : lnD L M) (f : ∀ c l, 175 ≤ c → c ≤ 178 → l < L.length → M2 c (32 + l) = M c (32 + l)) : lnD L M2 := fun l hl => by
  rw [f 175 l (by omega) (by omega) hl, f 176 l (by omega) (by omega) hl, f 177 l (by omega) (by omega) hl, f 178 l (by omega) (by omega) hl]
  exact h l hl
/-- what stays while the reference reads a line -/
def rll (M M2 : Mem) : Prop := ∀ c i, ¬ rdp c i → ¬ (c = 166 ∧ (i = 25 ∨ i = 26 ∨ i = 28)) → ¬ ((c = 179 ∨ c = 180) ∧ 800 ≤ i) → ¬ c = 181 → ¬ (175 ≤ c ∧ c ≤ 178 ∧ 32 ≤ i) → M2 c i = M c i
theorem rll.refl (M : Mem) : rll M M := fun _ _ _ _ _ _ _ => rfl
theorem rll.trans {M M2 M3 : Mem} (h : rll M M2) (h2 : rll M2 M3) : rll M M3 := fun c i a1 a2 a3 a4 a5 => (h2 c i a1 a2 a3 a4 a5).trans (h c i a1 a2 a3 a4 a5)
theorem raf.rll {M M2 : Mem} (h : raf M M2) : rll M M2 := fun c i a1 a2 a3 a4 _ => h c i a1 a2 a3 a4
theorem sc175 {c i : Nat} (h1 : 175 ≤ c) (h2 : c ≤ 178) (h : 32 ≤ i) : sc c i = true := by
  have : c = 175 ∨ c = 176 ∨ c = 177 ∨ c = 178 := by omega
  rcases this with rfl | rfl | rfl | rfl <;> simp [sc, vr] <;> omega
theorem rll.rfr {M M2 : Mem} (h : rll M M2) : rfr M M2 := fun c i hc => h c i (fun q => by
    rcases hc with hc | hc
    · rw [sc_rd q] at hc; cases hc
    · have := q.1; omega) (fun q => by
    rcases hc with hc | hc
    · rcases q with ⟨rfl, rfl | rfl | rfl⟩ <;> simp [sc] at hc
    · omega) (fun q => by
    rcases hc with hc | hc
    · rw [sc179 q.1 q.2] at hc; cases hc
    · omega) (fun q => by
    rcases hc with hc | hc
    · rw [q] at hc; simp [sc, vr] at hc
    · omega) (fun q => by
    rcases hc with hc | hc
    · rw [sc175 q.1 q.2.1 q.2.2] at hc; cases hc
    · omega)
theorem rs1.rll {M M2 : Mem} (h : rs1 M M2) : rll M M2 := fun c i a1 _ _ _ _ => h c i a1
/-- a line is written in the draft -/
theorem rll.put {M : Mem} {c i : Nat} (v : Int32) (h1 : 175 ≤ c) (h2 : c ≤ 178) (h : 32 ≤ i) : rll M (xu M c i v) := fun d j _ _ _ _ a5 => xu_ne _ _ (by rintro ⟨rfl, rfl⟩; exact a5 ⟨h1, h2, h⟩)
/-- the state of the reference at the beginning of a line -/
def RW (b : Nat → Nat) (n i : Nat) (C : List (Nat × Nat)) (M : Mem) : Prop := RA b n i M ∧ RCd C M ∧ M 166 26 = 0
theorem RW.put {b : Nat → Nat} {n i : Nat} {C : List (Nat × Nat)} {M : Mem} {c j : Nat} (h : RW b n i C M) (v : Int32) (h1 : 175 ≤ c) (h2 : c ≤ 178) (h3 : 32 ≤ j) : RW b n i C (xu M c j v) := ⟨h.1.put v (sc175 h1 h2 h3) (by omega), h.2.1.cg (xu_ne _ _ (by omega)) (fun d t hd => xu_ne _ _ (by omega)), (xu_ne _ _ (by omega)).trans h.2.2⟩
theorem RW.rs {b : Nat → Nat} {n i j : Nat} {C : List (Nat × Nat)} {M M2 : Mem} (h : RW b n i C M) (ra : RA b n j M2) (f : rs1 M M2) : RW b n j C M2 := ⟨ra, h.2.1.rs f, (f 166 26 (fun q => by have := q.2.2; omega)).trans h.2.2⟩
theorem RW.rz {b : Nat → Nat} {n i : Nat} {C : List (Nat × Nat)} {M : Mem} (h : RW b n i C M) : RZ b n M i C M := ⟨h.1, h.2.1, rsl.refl M⟩
theorem RW.su {b : Nat → Nat} {n i j : Nat} {C D : List (Nat × Nat)} {M M2 : Mem} (h : RW b n i C M) (z : RZ b n M j D M2) : RW b n j D M2 := ⟨z.1, z.2.1, (z.2.2 166 26 (fun q => by have := q.2.2; omega) (by omega) (by omega)).trans h.2.2⟩
theorem s12_lawEnd {b : Nat → Nat} {n k g : Nat} {L : List (Nat × List (Nat × Nat) × List (Nat × Nat))} {c d : List (Nat × Nat)} {M N : Mem} {Q : Int32 → Mem → Prop} {B : Int32 → Mem → Prop} (h : RW b n k (cds L ++ c ++ d) N) (hL : L.length < 16) (hR : lnD L N) (n1 : N 175 (32 + L.length) = nI g) (n2 : N 176 (32 + L.length) = nI (cds L).length) (n3 : N 177 (32 + L.length) = nI (cds L ++ c).length) (hf : rll M N) (h1 : ∀ x j M2, lawE (tyT b n) (tyV b n) g c d k = .ok (x, j) → j = k + 1 → RW b n j (cds (L ++ [x])) M2 → rll M M2 → lnD (L ++ [x]) M2 → (cds (L ++ [x])).length = (cds L ++ c ++ d).length → B (nI (L.length + 1)) M2) (h2 : ∀ f e M2, lawE (tyT b n) (tyV b n) g c d k = .error (f, e) → RErr b n f e M M2 → Q (-1) M2) : NX12_readLaw_92 Q B 166 (nI L.length) (nI (32 + L.length)) N := by
  unfold NX12_readLaw_92
  refine ⟨vp_in_nI (by omega) (by omega), ?_⟩
  rw [ixn (by omega), show N 166 25 = nI (cds L ++ c ++ d).length from h.2.1.1]
  intro M1 e1
  have h1' : RW b n k (cds L ++ c ++ d) M1 := by rw [e1]; exact h.put _ (by omega) (by omega) (by omega)
  have f1 : rll N M1 := by rw [e1]; exact rll.put _ (by omega) (by omega) (by omega)
  have hx : ∀ a j, M1 a j = if a = 178 ∧ j = 32 + L.length then nI (cds L ++ c ++ d).length else N a j := fun a j => by rw [e1, xu_if]
  refine s12_isSign (g := 59) h1'.1 (by omega) (fun q => ⟨fun _ => ?_, fun w => (by cases w)⟩) (fun q => ⟨fun w => (by cases w), fun _ => s12_errs 1 h1'.1 (fun M2 he => h2 1 k M2 (if_neg q) (he.of (hf.trans f1).rfr))⟩)
  have ec : cds (L ++ [(g, c, d)]) = cds L ++ c ++ d := by rw [cds_app, ← List.append_assoc]
  refine s12_next h1'.1 (fun M2 ra2 f2 => ?_)
  rw [nI_1]
  refine h1 (g, c, d) (k + 1) M2 (if_pos q) rfl ?_ ((hf.trans f1).trans f2.rll) ?_ (by rw [ec])
  · rw [ec]
    exact h1'.rs ra2 f2
  · intro l hl
    have g2 : ∀ a t, 175 ≤ a → M2 a t = M1 a t := fun a t ha => f2 a t (fun q => by have := q.1; omega)
    rw [g2 175 _ (by omega), g2 176 _ (by omega), g2 177 _ (by omega), g2 178 _ (by omega)]
    rw [List.length_append] at hl
    by_cases hll : l = L.length
    · subst hll
      rw [lst_old (Nat.le_refl _), lst_new, show lrow (L ++ [(g, c, d)]) L.length = (g, c, d) from getD_new _ _ _]
      rw [List.length_append] at n3
      rw [hx, hx, hx, hx, if_neg (by omega), if_neg (by omega), if_neg (by omega), if_pos ⟨rfl, rfl⟩]
      refine ⟨n1, n2, n3, ?_⟩
      rw [List.length_append, List.length_append]
    · have hl2 : l < L.length := by simp at hl; omega
      rw [lst_old (by omega), show lrow (L ++ [(g, c, d)]) l = lrow L l from getD_old _ _ hl2]
      rw [hx, hx, hx, hx, if_neg (by omega), if_neg (by omega), if_neg (by omega), if_neg (by omega)]
      exact hR l hl2
theorem s12_isLW {b : Nat → Nat} {n i : Nat} {M : Mem} {Q : Bool → Prop} (ra : RA b n i M) (h1 : tyT b n i = 2 ∧ tyV b n i ≤ 2 → Q true) (h2 : ¬ (tyT b n i = 2 ∧ tyV b n i ≤ 2) → Q false) : FX12_isLineWord Q 166 M := by
  unfold FX12_isLineWord
  refine ⟨fun q => h2 (fun w => q ((ra.t (c := 2) (by omega)).mpr w.1)), fun q => ?_⟩
  have q2 := (ra.t (c := 2) (by omega)).mp q
  have e15 : M 166 15 = nI (tyV b n i) := ra.rd.2.2.2 (by show 2 ≤ tyT b n i; omega)
  have hv : tyV b n i < 10000 := tyV_le (by omega) (fun j hj => (ra.bt j hj).1)
  rw [e15]
  refine s12_isIn ⟨fun w => ?_, fun w => ?_⟩
  · have w' := of_decide_eq_false w
    exact h2 (fun r => w' ⟨nI_pos' (by omega), (nI_leI (b := 2) (by omega) (by omega)).mpr r.2⟩)
  · have w' := of_decide_eq_true w
    exact h1 ⟨q2, (nI_leI (b := 2) (by omega) (by omega)).mp w'.2⟩
theorem s12_readLaw {b : Nat → Nat} {n : Nat} {M : Mem} {Q : Int32 → Mem → Prop} (rw0 : RW b n 0 [] M) (h1 : ∀ L M2, pAll (tyT b n) (lawP (tyT b n) (tyV b n)) 18 0 [] = .ok L → L.length ≤ 16 → lnD L M2 → RCd (cds L) M2 → (cds L).length ≤ 400 → rll M M2 → Q (nI L.length) M2) (h2 : ∀ f e M2, pAll (tyT b n) (lawP (tyT b n) (tyV b n)) 18 0 [] = .error (f, e) → RErr b n f e M M2 → Q (-1) M2) : FX12_readLaw Q 166 M := by
  unfold FX12_readLaw NX12_readLaw_2
  have hV : ∀ i, tyT b n i = 3 → tyV b n i < 10000 := fun i => tyV_num
  have stp : ∀ (B : Int32 × Mem → Prop) (L : List (Nat × List (Nat × Nat) × List (Nat × Nat))) (i r : Nat) (N : Mem), L.length ≤ 16 → RW b n i (cds L) N → lnD L N → (cds L).length ≤ i → i ≤ 400 → pAll (tyT b n) (lawP (tyT b n) (tyV b n)) (r + 1) i L = pAll (tyT b n) (lawP (tyT b n) (tyV b n)) 18 0 [] → rll M N → (∀ x j M2, L.length < 16 → RW b n j (cds (L ++ [x])) M2 → lnD (L ++ [x]) M2 → (cds (L ++ [x])).length ≤ j → j ≤ 400 → rll M M2 → pAll (tyT b n) (lawP (tyT b n) (tyV b n)) r j (L ++ [x]) = pAll (tyT b n) (lawP (tyT b n) (tyV b n)) 18 0 [] → B (nI (L.length + 1), M2)) → lbX12_readLaw_2 Q 166 (fun l1 M => B (l1, M)) (nI L.length) N := by
    intro B L i r N hL rw1 hR hc hi hp hf hB
    unfold lbX12_readLaw_2
    have err : ∀ f e M2, ¬ tyT b n i = 0 → lawP (tyT b n) (tyV b n) L.length i = .error (f, e) → RErr b n f e M M2 → Q (-1) M2 := fun f e M2 hz e1 he => h2 f e M2 (hp ▸ pAll_e hz e1) he
    refine s12_isLW rw1.1 (fun q1 => ⟨fun w => (by cases w), fun _ => ?_⟩) (fun q => ⟨fun _ => ⟨fun w => ?_, fun w => ?_⟩, fun w => (by cases w)⟩)
    rotate_left
    · have hz : ¬ tyT b n i = 0 := fun w2 => w ((rw1.1.t (c := 0) (by omega)).mpr w2)
      exact s12_errs 1 rw1.1 (fun M2 he => err 1 i M2 hz (lawP_1 q) (he.of hf.rfr))
    · have hz := (rw1.1.t (c := 0) (by omega)).mp w
      exact h1 L N (hp ▸ pAll_0 hz) hL hR rw1.2.1 (by omega) hf
    have hz : ¬ tyT b n i = 0 := by rw [q1.1]; decide
    have hi4 := rw1.rz.lt4 hz
    refine ⟨fun q => ?_, fun q => ?_⟩
    rotate_left
    · have hl : L.length = 16 := (nI_eq (b := 16) (by omega) (by omega)).mp q
      exact s12_errs 3 rw1.1 (fun M2 he => err 3 i M2 hz (lawP_3 q1 (by omega)) (he.of hf.rfr))
    have q2 : L.length < 16 := by
      have : L.length ≠ 16 := fun w => q (by rw [w]; rfl)
      omega
    have ea : (32 : Int32) + nI L.length = nI (32 + L.length) := nI_add 32 _
    have v1 : vp_in (nI (32 + L.length)) 48 := vp_in_nI (by omega) (by omega)
    rw [ea, ixn (show 32 + L.length < 2 ^ 31 by omega), show N 166 15 = nI (tyV b n i) from rw1.1.rd.2.2.2 (by show 2 ≤ tyT b n i; omega)]
    refine ⟨v1, ?_⟩
    intro M1 e1
    have w1 : RW b n i (cds L) M1 := by rw [e1]; exact rw1.put _ (by omega) (by omega) (by omega)
    have f1 : rll N M1 := by rw [e1]; exact rll.put _ (by omega) (by omega) (by omega)
    refine s12_next w1.1 (fun M2 ra2 f2 => ⟨v1, ?_⟩)
    have w2 := w1.rs ra2 f2
    rw [show M2 166 25 = nI (cds L).length from w2.2.1.1]
    intro M3 e3
    have w3 : RW b n (i + 1) (cds L) M3 := by rw [e3]; exact w2.put _ (by omega) (by omega) (by omega)
    have f3 : rll M2 M3 := by rw [e3]; exact rll.put _ (by omega) (by omega) (by omega)
    have f03 : rll M M3 := ((hf.trans f1).trans f2.rll).trans f3
    refine s12_sum w3.rz (by omega) (fun cs j M4 hs hj z4 => ⟨fun _ => ⟨v1, ?_⟩, fun q => absurd q (by decide)⟩) (fun f e M4 hs he => ⟨fun q => absurd rfl q, fun _ => err f e M4 hz (lawP_e q1 q2 hs) (he.of f03.rfr)⟩)
    obtain ⟨-, t1, t2⟩ := sumP_ty hV [] hs (by decide)
    have w4 := w3.su z4
    rw [show M4 166 25 = nI (cds L ++ cs).length from w4.2.1.1]
    intro M5 e5
    have w5 : RW b n j (cds L ++ cs) M5 := by rw [e5]; exact w4.put _ (by omega) (by omega) (by omega)
    have f5 : rll M4 M5 := by rw [e5]; exact rll.put _ (by omega) (by omega) (by omega)
    have f05 : rll M M5 := (f03.trans z4.2.2.raf.rll).trans f5
    have g5 : ∀ c t, 175 ≤ c → c ≤ 178 → M5 c t = if c = 177 ∧ t = 32 + L.length then nI (cds L ++ cs).length else if c = 176 ∧ t = 32 + L.length then nI (cds L).length else if c = 175 ∧ t = 32 + L.length then nI (tyV b n i) else N c t := fun c t a1 a2 => by
      rw [e5, xu_if, z4.2.2 c t (fun q => by have := q.1; omega) (by omega) (by omega), e3, xu_if, f2 c t (fun q => by have := q.1; omega), e1, xu_if]
    have fin : ∀ ds k N2, raf M5 N2 → RW b n k (cds L ++ cs ++ ds) N2 → (cds L ++ cs ++ ds).length ≤ k → k ≤ 400 → lawP (tyT b n) (tyV b n) L.length i = lawE (tyT b n) (tyV b n) (tyV b n i) cs ds k → NX12_readLaw_92 Q (fun l1 M => B (l1, M)) 166 (nI L.length) (nI (32 + L.length)) N2 := by
      intro ds k N2 fN wN hk hk4 hpl
      have gN : ∀ c t, 175 ≤ c → c ≤ 178 → N2 c t = if c = 177 ∧ t = 32 + L.length then nI (cds L ++ cs).length else if c = 176 ∧ t = 32 + L.length then nI (cds L).length else if c = 175 ∧ t = 32 + L.length then nI (tyV b n i) else N c t := fun c t a1 a2 => by
        rw [fN c t (fun q => by have := q.1; omega) (by omega) (by omega) (by omega), g5 c t a1 a2]
      refine s12_lawEnd (M := M) wN q2 (hR.cg (fun c l a1 a2 a3 => by rw [gN c _ a1 a2, if_neg (by omega), if_neg (by omega), if_neg (by omega)])) ?_ ?_ ?_ (f05.trans fN.rll) (fun x j M2 e1 ej w6 f6 r6 l6 => ?_) (fun f e M2 e1 he => err f e M2 hz (hpl.trans e1) he)
      · rw [gN 175 _ (by omega) (by omega), if_neg (by omega), if_neg (by omega), if_pos ⟨rfl, rfl⟩]
      · rw [gN 176 _ (by omega) (by omega), if_neg (by omega), if_pos ⟨rfl, rfl⟩]
      · rw [gN 177 _ (by omega) (by omega), if_pos ⟨rfl, rfl⟩]
      · have hk5 : k < 400 := by
          refine wN.rz.lt4 (fun w => ?_)
          rw [lawE, if_neg (by omega)] at e1
          cases e1
        exact hB x j M2 q2 w6 r6 (by omega) (by omega) f6 ((pAll_k hz (hpl.trans e1)).symm.trans hp)
    refine s12_isWord (g := 3) w5.1 (by omega) (fun q3 => ⟨fun w => (by cases w), fun _ => ?_⟩) (fun q3 => ⟨fun _ => ?_, fun w => (by cases w)⟩)
    · have hj4 := w5.rz.lt4 (by rw [q3.1]; decide)
      refine s12_next w5.1 (fun M6 ra6 f6 => ?_)
      have w6 := w5.rs ra6 f6
      refine s12_any w6.1 w6.2.1 w6.2.2 (by rw [List.length_append]; omega) (by omega) (fun ds k M7 hc hk4 ra7 rc7 h7 f7 => ⟨fun _ => ?_, fun q => absurd q (by decide)⟩) (fun f e M7 hc he => ⟨fun q => absurd rfl q, fun _ => err f e M7 hz (lawP_we q1 q2 hs q3 hc) (he.of (f05.trans f6.rll).rfr)⟩)
      obtain ⟨-, t3, t4⟩ := (pCC_ty hV 20).1 0 (j + 1) ds k [] hc (by omega) (Nat.zero_le _)
      exact fin ds k M7 (f6.rsl.raf.trans f7) ⟨ra7, rc7, h7⟩ (by rw [List.length_append, List.length_append]; omega) hk4 (lawP_w q1 q2 hs q3 hc)
    · exact fin [] j M5 (raf.refl _) (by rw [List.append_nil]; exact w5) (by rw [List.append_nil, List.length_append]; omega) hj (lawP_n q1 q2 hs q3)
  refine xlp_for (fun r (a : Int32 × Mem) => ∃ (L : List (Nat × List (Nat × Nat) × List (Nat × Nat))) (i : Nat), L.length + r = 16 ∧ a.1 = nI L.length ∧ RW b n i (cds L) a.2 ∧ lnD L a.2 ∧ (cds L).length ≤ i ∧ i ≤ 400 ∧ pAll (tyT b n) (lawP (tyT b n) (tyV b n)) (r + 2) i L = pAll (tyT b n) (lawP (tyT b n) (tyV b n)) 18 0 [] ∧ rll M a.2) ?_ ?_ 16 _ ⟨[], 0, rfl, rfl, rw0, fun j hj => absurd hj (by simp), Nat.zero_le _, by omega, rfl, rll.refl _⟩
  · rintro ⟨a, N⟩ B ⟨L, i, hr, ha, w1, hRL, hc, hi, hp, hf⟩
    have ha' : a = nI L.length := ha
    subst ha'
    exact stp B L i 1 N (by omega) w1 hRL hc hi hp hf (fun x j M2 hlt => absurd hlt (by omega))
  · rintro r ⟨a, N⟩ B ⟨L, i, hr, ha, w1, hRL, hc, hi, hp, hf⟩ hB
    have ha' : a = nI L.length := ha
    subst ha'
    exact stp B L i (r + 2) N (by omega) w1 hRL hc hi hp hf (fun x j M2 hlt w2 r2 c2 j2 f2 hp2 => hB _ ⟨L ++ [x], j, by simp; omega, by simp, w2, r2, c2, j2, hp2, f2⟩)
