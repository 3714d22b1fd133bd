/-! builds -/
def sm (f : Nat → Nat) : Nat → Nat
  | 0 => 0
  | n + 1 => sm f n + f n
theorem sm_congr {f g : Nat → Nat} : ∀ {n : Nat}, (∀ k, k < n → f k = g k) → sm f n = sm g n
  | 0, _ => rfl
  | n + 1, h => by simp only [sm]; rw [sm_congr (n := n) (fun k hk => h k (by omega)), h n (by omega)]
def ins (a : Nat → Nat) (j x : Nat) (k : Nat) : Nat := if k < j then a k else if k = j then x else a (k - 1)
theorem sm_ins {a f : Nat → Nat} {j x : Nat} : ∀ {i : Nat}, j ≤ i → sm (fun k => f (ins a j x k)) (i + 1) = sm (fun k => f (a k)) i + f x
  | 0, h => by
    have : j = 0 := by omega
    subst this
    simp [sm, ins]
  | i + 1, h => by
    by_cases e : j = i + 1
    · subst e
      have e1 : sm (fun k => f (ins a (i + 1) x k)) (i + 1) = sm (fun k => f (a k)) (i + 1) := sm_congr (fun k hk => by simp [ins, hk])
      show sm (fun k => f (ins a (i + 1) x k)) (i + 1) + f (ins a (i + 1) x (i + 1)) = _
      rw [e1]
      simp [ins]
    · have ih := sm_ins (a := a) (f := f) (j := j) (x := x) (i := i) (by omega)
      show sm (fun k => f (ins a j x k)) (i + 1) + f (ins a j x (i + 1)) = sm (fun k => f (a k)) i + f (a i) + f x
      rw [ih]
      have : ins a j x (i + 1) = a i := by unfold ins; rw [if_neg (by omega), if_neg (by omega)]; rfl
      rw [this]; omega
/-- who comes ahead of whom -/
def ahd (d w : Nat → Nat) (b a : Nat) : Prop := w a * d b < w b * d a ∨ (w b * d a = w a * d b ∧ b < a)
theorem cross {x y z p q r : Nat} (hp : 0 < p) (hq : 0 < q) (hr : 0 < r) (h1 : y * p ≤ x * q) (h2 : z * q ≤ y * r) : z * p ≤ x * r ∧ (z * p = x * r → y * p = x * q ∧ z * q = y * r) := by
  have a1 : (y * p) * r ≤ (x * q) * r := Nat.mul_le_mul_right r h1
  have a2 : (z * q) * p ≤ (y * r) * p := Nat.mul_le_mul_right p h2
  have e1 : (y * p) * r = (y * r) * p := by rw [Nat.mul_assoc, Nat.mul_comm p r, ← Nat.mul_assoc]
  have e2 : (z * q) * p = (z * p) * q := by rw [Nat.mul_assoc, Nat.mul_comm q p, ← Nat.mul_assoc]
  have e3 : (x * q) * r = (x * r) * q := by rw [Nat.mul_assoc, Nat.mul_comm q r, ← Nat.mul_assoc]
  have le : (z * p) * q ≤ (x * r) * q := by omega
  refine ⟨Nat.le_of_mul_le_mul_right le hq, fun e => ?_⟩
  rw [e] at e2
  constructor
  · exact Nat.eq_of_mul_eq_mul_right hr (by omega)
  · exact Nat.eq_of_mul_eq_mul_right hp (by omega)
theorem ahd_trans {d w : Nat → Nat} {a b c : Nat} (ha : 0 < d a) (hb : 0 < d b) (hc : 0 < d c) (h1 : ahd d w a b) (h2 : ahd d w b c) : ahd d w a c := by
  unfold ahd at *
  have x := cross (x := w a) (y := w b) (z := w c) ha hb hc (by omega) (by omega)
  rcases Nat.lt_or_ge (w c * d a) (w a * d c) with z | z
  · exact Or.inl z
  · have e : w c * d a = w a * d c := by omega
    obtain ⟨y1, y2⟩ := x.2 e
    right
    omega
theorem ahd_irr {d w : Nat → Nat} {a : Nat} : ¬ ahd d w a a := by unfold ahd; omega
theorem ahd_asym {d w : Nat → Nat} {a b : Nat} (h : ahd d w a b) : ¬ ahd d w b a := by unfold ahd at *; omega
/-- the order: all, sorted -/
def ORD (d w o : Nat → Nat) (i : Nat) : Prop := (∀ p, p < i → o p < i) ∧ (∀ p q, p < q → q < i → ahd d w (o p) (o q)) ∧ ∀ f : Nat → Nat, sm (fun p => f (o p)) i = sm f i
theorem ORD_ins {d w o : Nat → Nat} {i j : Nat} (hd : ∀ k, k ≤ i → 0 < d k) (hj : j ≤ i) (h : ORD d w o i) (h1 : ∀ k, j ≤ k → k < i → w (o k) * d i < w i * d (o k)) (h2 : 0 < j → ¬ w (o (j - 1)) * d i < w i * d (o (j - 1))) : ORD d w (ins o j i) (i + 1) := by
  obtain ⟨o1, o2, o3⟩ := h
  refine ⟨fun p hp => ?_, fun p q hpq hq => ?_, fun f => ?_⟩
  · unfold ins
    split
    · have := o1 p (by omega); omega
    · split
      · omega
      · have := o1 (p - 1) (by omega); omega
  · have hi : ∀ k, k < j → ahd d w (o k) i := by
      intro k hk
      have b0 : ahd d w (o (j - 1)) i := by
        have z := h2 (by omega)
        have := o1 (j - 1) (by omega)
        unfold ahd; omega
      by_cases e : k = j - 1
      · rw [e]; exact b0
      · have l1 := o1 k (by omega)
        have l2 := o1 (j - 1) (by omega)
        exact ahd_trans (hd _ (by omega)) (hd _ (by omega)) (hd _ (by omega)) (o2 k (j - 1) (by omega) (by omega)) b0
    unfold ins
    by_cases c1 : p < j
    · rw [if_pos c1]
      by_cases c2 : q < j
      · rw [if_pos c2]; exact o2 p q hpq (by omega)
      · rw [if_neg c2]
        by_cases c3 : q = j
        · rw [if_pos c3]; exact hi p c1
        · rw [if_neg c3]; exact o2 p (q - 1) (by omega) (by omega)
    · rw [if_neg c1, if_neg (show ¬ q < j by omega), if_neg (show ¬ q = j by omega)]
      by_cases c3 : p = j
      · rw [if_pos c3]
        have := h1 (q - 1) (by omega) (by omega)
        exact Or.inl this
      · rw [if_neg c3]; exact o2 (p - 1) (q - 1) (by omega) (by omega)
  · rw [sm_ins hj, o3]
    rfl
theorem ORD_ahd {d w o : Nat → Nat} {n p q : Nat} (h : ORD d w o n) (hp : p < n) (hq : q < n) : ahd d w (o q) (o p) ↔ q < p := by
  constructor
  · intro ha
    rcases Nat.lt_or_ge q p with z | z
    · exact z
    · by_cases e : q = p
      · subst e; exact absurd ha ahd_irr
      · exact absurd ha (ahd_asym (h.2.1 p q (by omega) hq))
  · intro z; exact h.2.1 q p z hp
theorem ORD_on {d w o : Nat → Nat} {n a : Nat} (h : ORD d w o n) (ha : a < n) : ∃ p, p < n ∧ o p = a := by
  have key := h.2.2 (fun b => if b = a then 1 else 0)
  have pos : ∀ n, a < n → 0 < sm (fun b => if b = a then 1 else 0) n := by
    intro n
    induction n with
    | zero => intro h; omega
    | succ n ih =>
      intro h
      simp only [sm]
      by_cases e : n = a
      · rw [if_pos e]; omega
      · have := ih (by omega); omega
  have z : ∀ n, (∀ p, p < n → o p ≠ a) → sm (fun p => if o p = a then 1 else 0) n = 0 := by
    intro n
    induction n with
    | zero => intro _; rfl
    | succ n ih =>
      intro h
      simp only [sm]
      rw [ih (fun p hp => h p (by omega)), if_neg (h n (by omega))]
  by_cases e : ∃ p, p < n ∧ o p = a
  · exact e
  · have := z n (fun p hp q => e ⟨p, hp, q⟩)
    have := pos n ha
    omega
theorem sm_lt : ∀ {n p : Nat}, p ≤ n → sm (fun q => if q < p then 1 else 0) n = p
  | 0, p, h => by have : p = 0 := by omega
                  subst this; rfl
  | n + 1, p, h => by
    simp only [sm]
    by_cases e : p = n + 1
    · subst e
      rw [sm_congr (g := fun q => if q < n then 1 else 0) (fun k hk => by rw [if_pos (by omega), if_pos hk]), sm_lt (Nat.le_refl n), if_pos (by omega)]
    · rw [sm_lt (by omega), if_neg (by omega)]
      omega
theorem sm_pre {f : Nat → Nat} : ∀ {n p : Nat}, p ≤ n → sm (fun q => if q < p then f q else 0) n = sm f p
  | 0, p, h => by have : p = 0 := by omega
                  subst this; rfl
  | n + 1, p, h => by
    simp only [sm]
    by_cases e : p = n + 1
    · subst e
      rw [sm_congr (g := f) (fun k hk => by rw [if_pos (by omega)]), if_pos (by omega)]
      rfl
    · rw [sm_pre (by omega), if_neg (by omega)]
      omega
def ahB (d w : Nat → Nat) (b a : Nat) : Bool := decide (w a * d b < w b * d a ∨ (w b * d a = w a * d b ∧ b < a))
theorem ahB_iff {d w : Nat → Nat} {b a : Nat} : ahB d w b a = true ↔ ahd d w b a := by
  unfold ahB ahd
  exact decide_eq_true_iff
def rkb (d w : Nat → Nat) (a n : Nat) : Nat := sm (fun b => if ahB d w b a = true then 1 else 0) n
def atb (d w : Nat → Nat) (a n : Nat) : Nat := d a + sm (fun b => if ahB d w b a = true then d b else 0) n
theorem rk_ord {d w o : Nat → Nat} {n p : Nat} (h : ORD d w o n) (hp : p < n) : rkb d w (o p) n = p ∧ atb d w (o p) n = sm (fun q => d (o q)) (p + 1) := by
  unfold rkb atb
  rw [← h.2.2 (fun b => if ahB d w b (o p) = true then 1 else 0), ← h.2.2 (fun b => if ahB d w b (o p) = true then d b else 0)]
  have e : ∀ q, q < n → (ahB d w (o q) (o p) = true ↔ q < p) := fun q hq => ahB_iff.trans (ORD_ahd h hp hq)
  constructor
  · rw [sm_congr (g := fun q => if q < p then 1 else 0) (fun q hq => by simp only [e q hq])]
    exact sm_lt (by omega)
  · rw [sm_congr (g := fun q => if q < p then d (o q) else 0) (fun q hq => by simp only [e q hq]), sm_pre (f := fun q => d (o q)) (by omega)]
    simp only [sm]
    omega
def yD (V : Mem) (l : Nat) : Nat := ix (V 187 l)
def yW (V : Mem) (l : Nat) : Nat := ix (V 188 l)
def YH (V : Mem) (n : Nat) : Prop := V 166 41 = nI n ∧ n ≤ 7 ∧ ∀ l, l < n → V 187 l = nI (yD V l) ∧ V 188 l = nI (yW V l) ∧ 0 < yD V l ∧ yD V l ≤ 30 ∧ yW V l ≤ 30
theorem YH_of {V : Mem} (h : WFy V) : ∃ n, YH V n := by
  obtain ⟨n, h1, h2, h3⟩ := h
  refine ⟨n, h2, h1, fun l hl => ?_⟩
  obtain ⟨a, b, z1, z2, z3, z4, z5, z6⟩ := h3 l hl
  unfold yD yW
  rw [z5, z6, ixn (by omega), ixn (by omega)]
  exact ⟨rfl, rfl, z1, z2, z4⟩
theorem mul30 {a b : Nat} (ha : a ≤ 30) (hb : b ≤ 30) : a * b ≤ 900 := Nat.mul_le_mul ha hb
theorem s10_before {Q : Bool → Prop} {V M : Mem} {n i b : Nat} (hy : YH V n) (hc : M 30 3 = nI n ∧ ∀ l, l < n → M 31 l = nI (yD V l) ∧ M 32 l = nI (yW V l)) (hi : i < n) (hb : b < n) (ht : yW V b * yD V i < yW V i * yD V b → Q true) (hf : ¬ yW V b * yD V i < yW V i * yD V b → Q false) : FX10_isBefore Q 30 (nI i) (nI b) M := by
  obtain ⟨-, h7, hl⟩ := hy
  obtain ⟨i1, i2, i3, i4, i5⟩ := hl i hi
  obtain ⟨b1, b2, b3, b4, b5⟩ := hl b hb
  have m1 := mul30 b4 i5
  have m2 := mul30 i4 b5
  unfold FX10_isBefore
  rw [hc.1, ixn (by omega), ixn (by omega), show M (30 + 1) i = nI (yD V i) from (hc.2 i hi).1, show M (30 + 2) i = nI (yW V i) from (hc.2 i hi).2, show M (30 + 1) b = nI (yD V b) from (hc.2 b hb).1, show M (30 + 2) b = nI (yW V b) from (hc.2 b hb).2, pk_mul, pk_mul, nI_leI (a := yD V b * yW V i) (b := yD V i * yW V b) (by omega) (by omega)]
  refine ⟨fun q => absurd q (nI_pos (by omega)), fun _ => ⟨fun q => absurd q (nI_pos (by omega)), fun _ => ⟨fun q => absurd q (nI_ge hi (by omega)), fun _ => ⟨fun _ => ⟨vp_in_nI (by omega) (by decide), vp_in_nI (by omega) (by decide), vp_in_nI (by omega) (by decide), vp_in_nI (by omega) (by decide), fun q => hf ?_, fun q => ht ?_⟩, fun q => absurd (nI_lt hb (by omega)) q⟩⟩⟩⟩
  · rw [Nat.mul_comm (yW V b), Nat.mul_comm (yW V i)]; omega
  · rw [Nat.mul_comm (yW V b), Nat.mul_comm (yW V i)]; omega
theorem s10_arrange {Q : Mem → Prop} {V M : Mem} {n : Nat} (hy : YH V n) (hc : CY 30 V M) (h : ∀ M' o, (∀ c i, c ≠ 33 → M' c i = M c i) → ORD (yD V) (yW V) o n → (∀ p, p < n → M' 33 p = nI (o p)) → Q M') : FX10_arrange Q 30 M := by
  obtain ⟨en, h7, hl⟩ := id hy
  have mem : ∀ M1 : Mem, (∀ c i, c ≠ 33 → M1 c i = M c i) → M1 30 3 = nI n ∧ ∀ l, l < n → M1 31 l = nI (yD V l) ∧ M1 32 l = nI (yW V l) := by
    intro M1 f1
    refine ⟨(f1 30 3 (by decide)).trans (hc.1.trans en), fun l hl2 => ?_⟩
    obtain ⟨c1, c2⟩ := hc.2 l (by omega) (by rw [en]; exact nI_lt hl2 (by omega))
    obtain ⟨y1, y2, -⟩ := hl l hl2
    exact ⟨(f1 31 l (by decide)).trans (c1.trans y1), (f1 32 l (by decide)).trans (c2.trans y2)⟩
  unfold FX10_arrange NX10_arrange_2
  refine xlp_for (fun r a => ∃ i o, i + r = n ∧ a.1 = nI i ∧ (∀ c i, c ≠ 33 → a.2 c i = M c i) ∧ ORD (yD V) (yW V) o i ∧ (∀ p, p < i → a.2 33 p = nI (o p))) ?_ ?_ n (0, M) ⟨0, fun _ => 0, by omega, rfl, fun _ _ _ => rfl, ⟨fun p hp => by omega, fun p q _ hq => by omega, fun f => rfl⟩, fun p hp => by omega⟩
  · rintro ⟨x, M1⟩ B ⟨i, o, hi, hx, f1, o1, m1⟩
    have hx : x = nI i := hx
    subst hx
    have : i = n := by omega
    subst this
    show lbX10_arrange_2 Q 30 (fun l1 M => B (l1, M)) (nI i) M1
    unfold lbX10_arrange_2
    rw [(mem M1 f1).1]
    exact ⟨fun _ => h M1 o f1 o1 m1, fun q => absurd (nI_le (Nat.le_refl _) (by omega)) q⟩
  · rintro r ⟨x, M1⟩ B ⟨i, o, hi, hx, f1, o1, m1⟩ hB
    have hx : x = nI i := hx
    subst hx
    have f1 : ∀ c i, c ≠ 33 → M1 c i = M c i := f1
    have m1 : ∀ p, p < i → M1 33 p = nI (o p) := m1
    show lbX10_arrange_2 Q 30 (fun l1 M => B (l1, M)) (nI i) M1
    unfold lbX10_arrange_2
    rw [(mem M1 f1).1]
    refine ⟨fun q => absurd q (nI_ge (by omega) (by omega)), fun _ => ?_⟩
    have fin : ∀ (M2 : Mem) (j : Nat), j ≤ i → (∀ c k, c ≠ 33 → M2 c k = M c k) → (∀ k, k < j → M2 33 k = nI (o k)) → (∀ k, j ≤ k → k < i → M2 33 (k + 1) = nI (o k)) → (∀ k, j ≤ k → k < i → yW V (o k) * yD V i < yW V i * yD V (o k)) → (0 < j → ¬ yW V (o (j - 1)) * yD V i < yW V i * yD V (o (j - 1))) → NX10_arrange_58 Q (fun l1 M => B (l1, M)) 30 (nI i) (nI j) M2 := by
      intro M2 j hj f2 a1 a2 a3 a4
      unfold NX10_arrange_58
      rw [ixn (by omega), nI_1]
      refine ⟨vp_in_nI (by omega) (by decide), ?_⟩
      rintro M3 rfl
      refine hB _ ⟨i + 1, ins o j i, by omega, rfl, fun c k hc2 => ?_, ORD_ins (fun k hk => (hl k (by omega)).2.2.1) hj o1 a3 a4, fun p hp => ?_⟩
      · show xu M2 (30 + 3) j (nI i) c k = M c k
        rw [xu_ne _ _ (by omega)]; exact f2 c k hc2
      · show xu M2 (30 + 3) j (nI i) 33 p = _
        rw [xu_if]
        unfold ins
        by_cases e : p = j
        · subst e; rw [if_pos ⟨rfl, rfl⟩, if_neg (by omega), if_pos rfl]
        · rw [if_neg (by omega)]
          by_cases e2 : p < j
          · rw [if_pos e2]; exact a1 p e2
          · rw [if_neg e2, if_neg e]
            have := a2 (p - 1) (by omega) (by omega)
            rwa [show p - 1 + 1 = p by omega] at this
    unfold NX10_arrange_14
    refine xlp_for (fun r a => r ≤ i ∧ a.1 = nI r ∧ a.2.1 = nI r ∧ (∀ c k, c ≠ 33 → a.2.2 c k = M c k) ∧ (∀ k, k < r → a.2.2 33 k = nI (o k)) ∧ (∀ k, r ≤ k → k < i → a.2.2 33 (k + 1) = nI (o k)) ∧ (∀ k, r ≤ k → k < i → yW V (o k) * yD V i < yW V i * yD V (o k))) ?_ ?_ i (nI i, nI i, M1) ⟨Nat.le_refl i, rfl, rfl, f1, m1, fun k h1 h2 => by omega, fun k h1 h2 => by omega⟩
    · rintro ⟨x, y, M2⟩ B2 ⟨hr, hx, hy2, f2, a1, a2, a3⟩
      have hx : x = nI 0 := hx
      have hy2 : y = nI 0 := hy2
      subst hx hy2
      show lbX10_arrange_14 Q (fun l1 M => B (l1, M)) 30 (nI i) (fun l2 l3 M => B2 (l2, l3, M)) (nI 0) (nI 0) M2
      unfold lbX10_arrange_14
      exact ⟨fun _ => fin M2 0 hr f2 a1 a2 a3 (fun q => by omega), fun q => absurd (by decide) q⟩
    · rintro r ⟨x, y, M2⟩ B2 ⟨hr, hx, hy2, f2, a1, a2, a3⟩ hB2
      have hx : x = nI (r + 1) := hx
      have hy2 : y = nI (r + 1) := hy2
      subst hx hy2
      have f2 : ∀ c k, c ≠ 33 → M2 c k = M c k := f2
      have a1 : ∀ k, k < r + 1 → M2 33 k = nI (o k) := a1
      have a2 : ∀ k, r + 1 ≤ k → k < i → M2 33 (k + 1) = nI (o k) := a2
      show lbX10_arrange_14 Q (fun l1 M => B (l1, M)) 30 (nI i) (fun l2 l3 M => B2 (l2, l3, M)) (nI (r + 1)) (nI (r + 1)) M2
      unfold lbX10_arrange_14
      have ol := o1.1 r (by omega)
      rw [i32_m1, nI_s1, ixn (k := r) (by omega), ixn (by omega), show M2 (30 + 3) r = nI (o r) from a1 r (by omega)]
      refine ⟨fun q => absurd q (nI_nle (by omega) (by omega)), fun _ => ⟨vp_in_nI (by omega) (by decide), s10_before hy (mem M2 f2) (by omega) (by omega) (fun hb => ⟨fun q => (by cases q), fun _ => ⟨vp_in_nI (by omega) (by decide), vp_in_nI (by omega) (by decide), ?_⟩⟩) (fun hb => ⟨fun _ => fin M2 (r + 1) hr f2 a1 a2 a3 (fun _ => hb), fun q => (by cases q)⟩)⟩⟩
      rintro M3 rfl
      refine hB2 _ ⟨by omega, rfl, rfl, fun c k hc2 => ?_, fun k hk => ?_, fun k h1 h2 => ?_, fun k h1 h2 => ?_⟩
      · show xu M2 (30 + 3) (r + 1) _ c k = M c k
        rw [xu_ne _ _ (by omega)]; exact f2 c k hc2
      · show xu M2 (30 + 3) (r + 1) _ 33 k = _
        rw [xu_ne _ _ (by omega)]; exact a1 k (by omega)
      · show xu M2 (30 + 3) (r + 1) _ 33 (k + 1) = _
        rw [xu_if]
        by_cases e : k = r
        · subst e; rw [if_pos ⟨rfl, rfl⟩]
        · rw [if_neg (by omega)]; exact a2 k (by omega) h2
      · by_cases e : k = r
        · subst e; exact hb
        · exact a3 k (by omega) h2
theorem s12_ahead {Q : Bool → Prop} {V M : Mem} {n b a : Nat} (hy : YH V n) (hR : RV V M) (hb : b < n) (ha : a < n) (h : Q (ahB (yD V) (yW V) b a)) : FX12_isAhead Q 166 (nI b) (nI a) M := by
  obtain ⟨-, h7, hl⟩ := hy
  obtain ⟨i1, i2, i3, i4, i5⟩ := hl a ha
  obtain ⟨b1, b2, b3, b4, b5⟩ := hl b hb
  have m1 := mul30 b5 i4
  have m2 := mul30 i5 b4
  unfold FX12_isAhead
  rw [ixn (by omega), ixn (by omega), show M (166 + 22) b = nI (yW V b) from (hR 188 b (by decide) (by decide) (by decide)).trans b2, show M (166 + 21) a = nI (yD V a) from (hR 187 a (by decide) (by decide) (by decide)).trans i1, show M (166 + 22) a = nI (yW V a) from (hR 188 a (by decide) (by decide) (by decide)).trans i2, show M (166 + 21) b = nI (yD V b) from (hR 187 b (by decide) (by decide) (by decide)).trans b1, pk_mul, pk_mul]
  refine ⟨vp_in_nI (by omega) (by decide), vp_in_nI (by omega) (by decide), ?_⟩
  rintro y rfl
  refine ⟨vp_in_nI (by omega) (by decide), vp_in_nI (by omega) (by decide), ?_⟩
  rintro y rfl
  rw [nI_ltI (by omega) (by omega), nI_eq (by omega) (by omega), nI_leI (by omega) (by omega)]
  unfold ahB at h
  refine ⟨fun q => ?_, fun q => ⟨fun q2 => ?_, fun q2 => ⟨fun q3 => ?_, fun q3 => ?_⟩⟩⟩
  · rwa [decide_eq_true (Or.inl q)] at h
  · rwa [decide_eq_false (by omega)] at h
  · rwa [decide_eq_false (by omega)] at h
  · rwa [decide_eq_true (Or.inr ⟨q2, by omega⟩)] at h
theorem sm_le {f : Nat → Nat} {c : Nat} : ∀ {n : Nat}, (∀ k, k < n → f k ≤ c) → sm f n ≤ n * c
  | 0, _ => by simp [sm]
  | n + 1, h => by
    have := sm_le (n := n) (fun k hk => h k (by omega))
    have := h n (by omega)
    simp only [sm]
    rw [Nat.add_mul]
    omega
theorem q_builds : lq_builds Inv := by
  intro M a hI
  obtain ⟨n, yh⟩ := YH_of (WFy_c (V := M) (V2 := xu M 166 0 0) (fun c i h => told_ne (by simp [pY] at h; omega)) hI.1.2.2.2.2)
  have cy : CY 30 (xu M 166 0 0) M := CY_c (fun c i h => told_ne (by simp [pY] at h; omega)) (fun _ _ _ _ => rfl) hI.2.1.2.2.2.2.2.1
  obtain ⟨en, h7, hl⟩ := id yh
  have I1 := Inv_told hI 0
  have e3 : M 30 3 = nI n := cy.1.trans en
  generalize hD : yD (xu M 166 0 0) = d at *
  generalize hW : yW (xu M 166 0 0) = w at *
  have b7 : ∀ x k, k ≤ n → rkb d w x k ≤ 7 := fun x k hk => by
    have := sm_le (f := fun b => if ahB d w b x = true then 1 else 0) (c := 1) (n := k) (fun k _ => by split <;> omega)
    unfold rkb; omega
  have b210 : ∀ x k, x < n → k ≤ n → atb d w x k ≤ 240 := fun x k hx hk => by
    have := sm_le (f := fun b => if ahB d w b x = true then d b else 0) (c := 30) (n := k) (fun j hj => by
      split
      · exact (hl j (by omega)).2.2.2.1
      · omega)
    have := (hl x hx).2.2.2.1
    unfold atb; omega
  -- the reference: a rank is looked for, or the sum
  have ref : ∀ (x : Int32) (M1 : Mem), (∀ c i, c ≠ 33 → M1 c i = M c i) → (a = 0 → x = nI (sm (fun a => w a * atb d w a n) n)) → (∀ r, r < n → a = nI (10 + r) → ∃ p, p < n ∧ x = nI p ∧ rkb d w p n = r ∧ ∀ q, q < n → rkb d w q n = r → q = p) → (a = 0 ∨ ∃ r, r < n ∧ a = nI (10 + r)) → FX12_builds (fun r2 M2 => x = r2 ∧ Inv M2) 166 a M1 := by
    intro x M1 f1 x0 x1 hin
    have r1 : RV (xu M 166 0 0) (xu M1 166 0 0) := RV_now (fun c i h => f1 c i (by omega))
    have I2 : Inv (xu M1 166 0 0) := by
      refine Inv_congr (fun c i h => ?_) hI
      have n33 : c ≠ 33 := by rintro rfl; simp [sc, dr] at h
      have n0 : ¬ (c = 166 ∧ i = 0) := by rintro ⟨rfl, rfl⟩; simp [sc] at h
      rw [xu_ne _ _ n0]; exact f1 c i n33
    have e41 : xu M1 166 0 0 166 41 = nI n := (r1.n 41).trans en
    have loop : NX12_builds_32 (fun r2 M2 => x = r2 ∧ Inv M2) 166 a 0 0 (xu M1 166 0 0) := by
      unfold NX12_builds_32
      refine xlp_for (fun r s => ∃ k, k + r = n ∧ s.1 = nI (sm (fun a => w a * atb d w a n) k) ∧ s.2 = nI k ∧ ∀ q, q < k → ∀ r, r < n → a = nI (10 + r) → rkb d w q n ≠ r) ?_ ?_ n (0, 0) ⟨0, by omega, rfl, rfl, fun q hq => by omega⟩
      · rintro ⟨y, z⟩ B ⟨k, hk, hy, hz, hno⟩
        have hy : y = nI (sm (fun a => w a * atb d w a n) k) := hy
        have hz : z = nI k := hz
        subst hy hz
        have : k = n := by omega
        subst this
        show lbX12_builds_32 _ 166 a _ (fun l2 l3 => B (l2, l3)) _ (nI k)
        unfold lbX12_builds_32
        rw [e41]
        refine ⟨fun _ => ?_, fun q => absurd (nI_le (Nat.le_refl _) (by omega)) q⟩
        rcases hin with q | ⟨r, r1, r2⟩
        · exact ⟨x0 q, I2⟩
        · obtain ⟨p, p1, p2, p3, p4⟩ := x1 r r1 r2
          exact absurd p3 (hno p p1 r r1 r2)
      · rintro r ⟨y, z⟩ B ⟨k, hk, hy, hz, hno⟩ hB
        have hy : y = nI (sm (fun a => w a * atb d w a n) k) := hy
        have hz : z = nI k := hz
        subst hy hz
        show lbX12_builds_32 _ 166 a _ (fun l2 l3 => B (l2, l3)) _ (nI k)
        unfold lbX12_builds_32
        obtain ⟨k1, k2, k3, k4, k5⟩ := hl k (by omega)
        rw [e41, ixn (by omega), show xu M1 166 0 0 (166 + 21) k = nI (d k) from (r1 187 k (by decide) (by decide) (by decide)).trans k1]
        refine ⟨fun q => absurd q (nI_ge (by omega) (by omega)), fun _ => ⟨vp_in_nI (by omega) (by decide), ?_⟩⟩
        rintro y rfl
        unfold NX12_builds_54
        refine xlp_for (fun r s => ∃ j, j + r = n ∧ s.1 = nI (atb d w k j) ∧ s.2.1 = nI (rkb d w k j) ∧ s.2.2 = nI j) ?_ ?_ n (nI (d k), 0, 0) ⟨0, by omega, rfl, rfl, rfl⟩
        · rintro ⟨y1, y2, y3⟩ B2 ⟨j, hj, h1, h2, h3⟩
          have h1 : y1 = nI (atb d w k j) := h1
          have h2 : y2 = nI (rkb d w k j) := h2
          have h3 : y3 = nI j := h3
          subst h1 h2 h3
          have : j = n := by omega
          subst this
          show lbX12_builds_54 _ (fun l2 l3 => B (l2, l3)) 166 a _ (nI k) _ (fun l4 l5 l6 => B2 (l4, l5, l6)) _ _ (nI j)
          unfold lbX12_builds_54
          have bk := b7 k j (Nat.le_refl _)
          have bt := b210 k j (by omega) (Nat.le_refl _)
          rw [e41, ixn (by omega), nI_1, show xu M1 166 0 0 (166 + 22) k = nI (w k) from (r1 188 k (by decide) (by decide) (by decide)).trans k2, pk_mul, nI_add]
          refine ⟨fun _ => ⟨fun q => ⟨vp_in_nI (by omega) (by decide), ?_⟩, fun q => ?_⟩, fun q => absurd (nI_le (Nat.le_refl _) (by omega)) q⟩
          · rintro y rfl
            refine hB _ ⟨k + 1, by omega, rfl, rfl, fun p hp r hr ea e => ?_⟩
            rcases Nat.lt_or_ge p k with z | z
            · exact hno p z r hr ea e
            · have : p = k := by omega
              subst this
              refine q (show nI (rkb d w p j) = a - 10 from ?_)
              rw [ea, show (10 : Int32) = nI 10 from rfl, pk_sub (by omega)]
              congr 1; omega
          · rcases hin with z | ⟨r, hr, ea⟩
            · rw [z, show (0 : Int32) - 10 = -10 by decide] at q
              exfalso
              have q : nI (rkb d w k j) = -10 := q
              have : (nI (rkb d w k j)).toInt = ((rkb d w k j : Nat) : Int) := nI_toInt (by omega)
              rw [q] at this
              have z2 : (-10 : Int32).toInt = -10 := by decide
              rw [z2] at this
              omega
            · rw [ea, show (10 : Int32) = nI 10 from rfl, pk_sub (by omega)] at q
              have e := (nI_eq (by omega) (by omega)).mp q
              obtain ⟨p, p1, p2, p3, p4⟩ := x1 r hr ea
              have := p4 k (by omega) (by omega)
              subst this
              exact ⟨p2, I2⟩
        · rintro r' ⟨y1, y2, y3⟩ B2 ⟨j, hj, h1, h2, h3⟩ hB2
          have h1 : y1 = nI (atb d w k j) := h1
          have h2 : y2 = nI (rkb d w k j) := h2
          have h3 : y3 = nI j := h3
          subst h1 h2 h3
          show lbX12_builds_54 _ (fun l2 l3 => B (l2, l3)) 166 a _ (nI k) _ (fun l4 l5 l6 => B2 (l4, l5, l6)) _ _ (nI j)
          unfold lbX12_builds_54
          obtain ⟨j1, j2, j3, j4, j5⟩ := hl j (by omega)
          rw [e41, ixn (k := j) (by omega), nI_1 j, show xu M1 166 0 0 (166 + 21) j = nI (d j) from (r1 187 j (by decide) (by decide) (by decide)).trans j1, nI_eq (by omega) (by omega)]
          refine ⟨fun q => absurd q (nI_ge (by omega) (by omega)), fun _ => ⟨fun q => hB2 _ ⟨j + 1, by omega, ?_, ?_, rfl⟩, fun q => s12_ahead yh r1 (by omega) (by omega) ?_⟩⟩
          · subst q
            have : ahB d w j j = false := by cases e : ahB d w j j with
              | false => rfl
              | true => exact absurd (ahB_iff.mp e) ahd_irr
            show nI (atb d w j j) = nI (atb d w j (j + 1))
            unfold atb; simp only [sm]; rw [this]; simp
          · subst q
            have : ahB d w j j = false := by cases e : ahB d w j j with
              | false => rfl
              | true => exact absurd (ahB_iff.mp e) ahd_irr
            show nI (rkb d w j j) = nI (rkb d w j (j + 1))
            unfold rkb; simp only [sm]; rw [this]; simp
          · rw [hD, hW]
            refine ⟨fun f => ⟨vp_in_nI (by omega) (by decide), ?_⟩, fun f => hB2 _ ⟨j + 1, by omega, ?_, ?_, rfl⟩⟩
            · rintro y rfl
              refine hB2 _ ⟨j + 1, by omega, ?_, ?_, rfl⟩
              · show nI (atb d w k j) + nI (d j) = nI (atb d w k (j + 1))
                unfold atb; simp only [sm]; rw [f, if_pos rfl, nI_add]; congr 1; omega
              · show nI (rkb d w k j) + 1 = nI (rkb d w k (j + 1))
                unfold rkb; simp only [sm]; rw [f, if_pos rfl, nI_1]
            · show nI (atb d w k j) = nI (atb d w k (j + 1))
              unfold atb; simp only [sm]; rw [f]; simp
            · show nI (rkb d w k j) = nI (rkb d w k (j + 1))
              unfold rkb; simp only [sm]; rw [f]; simp
    unfold FX12_builds
    rintro M2 rfl
    rw [e41]
    refine ⟨fun _ => loop, fun q => s12_isIn ⟨fun _ => loop, fun q2 => ?_⟩⟩
    rcases hin with z | ⟨r, hr, ea⟩
    · exact absurd z q
    · refine absurd ⟨?_, ?_⟩ (of_decide_eq_false q2)
      · rw [ea]; exact nI_le (a := 10) (by omega) (by omega)
      · rw [ea, show (9 : Int32) = nI 9 from rfl, nI_add]; exact nI_le (by omega) (by omega)
  have no : a ≠ 0 → (∀ r, r < n → a ≠ nI (10 + r)) → FX12_builds (fun r2 M2 => (-1 : Int32) = r2 ∧ Inv M2) 166 a M := by
    intro a0 hno
    unfold FX12_builds
    rintro M1 rfl
    rw [show xu M 166 0 0 166 41 = nI n from en]
    refine ⟨fun q => absurd q a0, fun _ => s12_isIn ⟨fun q => ?_, fun _ => ⟨rfl, I1⟩⟩⟩
    obtain ⟨q1, q2⟩ := of_decide_eq_true q
    rw [show (9 : Int32) = nI 9 from rfl, nI_add] at q2
    rcases Nat.eq_zero_or_pos n with z | z
    · subst z
      have := Int32.le_trans q1 q2
      exact absurd this (by decide)
    · obtain ⟨j, j1, j2, rfl⟩ := inNat (lo := 10) (hi := 9 + n) (by omega) q1 q2 (by omega)
      exact absurd (by congr 1; omega) (hno (j - 10) (by omega))
  have lt : ∀ r, r < n → ∀ o, ORD d w o n → ∃ p, p < n ∧ nI (o r) = nI p ∧ rkb d w p n = r ∧ ∀ q, q < n → rkb d w q n = r → q = p := by
    intro r hr o ho
    refine ⟨o r, ho.1 r hr, rfl, (rk_ord ho hr).1, fun q hq e => ?_⟩
    obtain ⟨p, p1, p2⟩ := ORD_on ho hq
    subst p2
    rw [(rk_ord ho p1).1] at e
    rw [e]
  unfold FX11_builds
  rw [show M (0 + 1 + 29) 3 = nI n from e3, show (10 : Int32) + nI n = nI (10 + n) from nI_add 10 n]
  refine ⟨fun a0 => ⟨fun h => no a0 (fun r hr e => ?_), fun h1 => ⟨fun h2 => ?_, fun h => no a0 (fun r hr e => h ?_)⟩⟩, fun a0 => ?_⟩
  · rw [e] at h; exact absurd h (nI_nlt (b := 10) (by omega) (by omega))
  · have hnn : ¬ a < 0 := fun q => h1 (Int32.lt_trans q (by decide))
    obtain ⟨j, hj, rfl⟩ := nI_of hnn
    have j1 : 10 ≤ j := by
      rcases Nat.lt_or_ge j 10 with z | z
      · exact absurd (nI_lt (b := 10) z (by decide)) h1
      · exact z
    have j2 : j < 10 + n := (nI_ltI hj (by omega)).mp h2
    rw [show nI j - 10 = nI (j - 10) from pk_sub (b := 10) j1]
    unfold FX10_inOrder
    refine s10_arrange yh cy (fun M1 o f1 o1 m1 => ?_)
    rw [hD, hW] at o1
    rw [show M1 (0 + 1 + 29) 3 = nI n from (f1 30 3 (by decide)).trans e3, ixn (by omega), show M1 (0 + 1 + 29 + 3) (j - 10) = nI (o (j - 10)) from m1 (j - 10) (by omega)]
    refine ⟨fun q => absurd q (nI_pos (by omega)), fun _ => ⟨fun q => absurd q (nI_ge (by omega) (by omega)), fun _ => ⟨vp_in_nI (by omega) (by decide), ref _ M1 f1 (fun q => absurd q a0) (fun r hr e => ?_) (Or.inr ⟨j - 10, by omega, by congr 1; omega⟩)⟩⟩⟩
    have e := (nI_eq hj (by omega)).mp e
    have : j - 10 = r := by omega
    rw [this]
    exact lt r hr o o1
  · rw [e]; exact nI_lt (by omega) (by omega)
  · unfold FX10_leastSum
    refine s10_arrange yh cy (fun M1 o f1 o1 m1 => ?_)
    rw [hD, hW] at o1
    have es : sm (fun a => w a * atb d w a n) n = sm (fun p => w (o p) * sm (fun q => d (o q)) (p + 1)) n := by
      rw [← o1.2.2 (fun a => w a * atb d w a n)]
      exact sm_congr (fun p hp => by rw [(rk_ord o1 hp).2])
    unfold NX10_leastSum_10
    refine xlp_for (fun r s => ∃ k, k + r = n ∧ s.1 = nI (sm (fun q => d (o q)) k) ∧ s.2.1 = nI (sm (fun p => w (o p) * sm (fun q => d (o q)) (p + 1)) k) ∧ s.2.2 = nI k) ?_ ?_ n (0, 0, 0) ⟨0, by omega, rfl, rfl, rfl⟩
    · rintro ⟨y1, y2, y3⟩ B ⟨k, hk, h1, h2, h3⟩
      have h1 : y1 = nI (sm (fun q => d (o q)) k) := h1
      have h2 : y2 = nI (sm (fun p => w (o p) * sm (fun q => d (o q)) (p + 1)) k) := h2
      have h3 : y3 = nI k := h3
      subst h1 h2 h3
      have : k = n := by omega
      subst this
      show lbX10_leastSum_10 _ 30 M1 (fun l1 l2 l3 => B (l1, l2, l3)) _ _ (nI k)
      unfold lbX10_leastSum_10
      rw [show M1 30 3 = nI k from (f1 30 3 (by decide)).trans e3]
      refine ⟨fun _ => ref _ M1 f1 (fun _ => by rw [es]) (fun r hr e => ?_) (Or.inl a0), fun q => absurd (nI_le (Nat.le_refl _) (by omega)) q⟩
      rw [a0] at e
      exact absurd e.symm (nI_ne0 (by omega) (by omega))
    · rintro r ⟨y1, y2, y3⟩ B ⟨k, hk, h1, h2, h3⟩ hB
      have h1 : y1 = nI (sm (fun q => d (o q)) k) := h1
      have h2 : y2 = nI (sm (fun p => w (o p) * sm (fun q => d (o q)) (p + 1)) k) := h2
      have h3 : y3 = nI k := h3
      subst h1 h2 h3
      show lbX10_leastSum_10 _ 30 M1 (fun l1 l2 l3 => B (l1, l2, l3)) _ _ (nI k)
      unfold lbX10_leastSum_10
      have ok := o1.1 k (by omega)
      obtain ⟨k1, k2, k3, k4, k5⟩ := hl (o k) ok
      obtain ⟨c1, c2⟩ := cy.2 (o k) (by omega) (by rw [en]; exact nI_lt ok (by omega))
      rw [show M1 30 3 = nI n from (f1 30 3 (by decide)).trans e3, ixn (k := k) (by omega), show M1 (30 + 3) k = nI (o k) from m1 k (by omega), ixn (by omega), nI_1, show M1 (30 + 1) (o k) = nI (d (o k)) from (f1 31 _ (by decide)).trans (c1.trans k1), show M1 (30 + 2) (o k) = nI (w (o k)) from (f1 32 _ (by decide)).trans (c2.trans k2)]
      refine ⟨fun q => absurd q (nI_ge (by omega) (by omega)), fun _ => ⟨vp_in_nI (by omega) (by decide), fun q => absurd q (nI_pos (by omega)), fun _ => ⟨fun q => absurd q (nI_ge ok (by omega)), fun _ => ⟨vp_in_nI (by omega) (by decide), ?_⟩⟩⟩⟩
      rintro y rfl
      refine ⟨vp_in_nI (by omega) (by decide), ?_⟩
      rintro y rfl
      rw [nI_add, pk_mul, nI_add]
      exact hB _ ⟨k + 1, by omega, rfl, rfl, rfl⟩
