/-! sets of tenets: pure -/
theorem and_bit (a b x y : Nat) (hx : x < 2) (hy : y < 2) : (2 * a + x) &&& (2 * b + y) = 2 * (a &&& b) + min x y := by
  have e1 : ((2 * a + x) &&& (2 * b + y)) / 2 = a &&& b := by
    rw [Nat.and_div_two]; congr 1 <;> omega
  have e2 : ((2 * a + x) &&& (2 * b + y)) % 2 = min x y := by
    have q : ((2 * a + x) &&& (2 * b + y)) % 2 ^ 1 = ((2 * a + x) % 2 ^ 1) &&& ((2 * b + y) % 2 ^ 1) := Nat.and_mod_two_pow
    simp only [Nat.pow_one] at q
    rw [q, show (2 * a + x) % 2 = x by omega, show (2 * b + y) % 2 = y by omega]
    rcases (show x = 0 ∨ x = 1 by omega) with rfl | rfl <;> rcases (show y = 0 ∨ y = 1 by omega) with rfl | rfl <;> decide
  omega
/-- a set within a set -/
def Sb (a b : Nat) : Prop := a &&& b = a
theorem Sb_iff {a b : Nat} : Sb a b ↔ ∀ j, a.testBit j = true → b.testBit j = true := by
  unfold Sb
  constructor
  · intro h j hj
    rw [← h, Nat.testBit_and] at hj
    simp at hj
    exact hj.2
  · intro h
    apply Nat.eq_of_testBit_eq
    intro j
    rw [Nat.testBit_and]
    cases hj : a.testBit j with
    | false => rfl
    | true => rw [h j hj]; rfl
theorem Sb_le {a b : Nat} (h : Sb a b) : a ≤ b := by
  unfold Sb at h
  rw [← h]; exact Nat.and_le_right
theorem Sb_half {a b : Nat} (h : Sb a b) : Sb (a / 2) (b / 2) ∧ a % 2 ≤ b % 2 := by
  unfold Sb at h ⊢
  have e := and_bit (a / 2) (b / 2) (a % 2) (b % 2) (by omega) (by omega)
  rw [show 2 * (a / 2) + a % 2 = a by omega, show 2 * (b / 2) + b % 2 = b by omega, h] at e
  omega
theorem popf_mono : ∀ {k a b : Nat}, Sb a b → a < 2 ^ k → b < 2 ^ k → popf k a ≤ popf k b ∧ (popf k a = popf k b → a = b)
  | 0, a, b, h, h1, h2 => by simp at h1 h2; simp [h1, h2]
  | k + 1, a, b, h, h1, h2 => by
    obtain ⟨q1, q2⟩ := Sb_half h
    rw [Nat.pow_succ] at h1 h2
    have ih := popf_mono (k := k) q1 (by omega) (by omega)
    simp only [popf]
    refine ⟨by omega, fun e => ?_⟩
    have := ih.2 (by omega)
    omega
/-- the next of the subsets of f behind p -/
def nxs (n p f : Nat) : Nat := ((p + 2 ^ n - f) % 2 ^ n) &&& f
theorem comp_and : ∀ {n p f : Nat}, Sb p f → f < 2 ^ n → (p + (2 ^ n - 1 - f)) &&& f = p
  | 0, p, f, h, hf => by
    have := Sb_le h
    simp at hf
    subst hf
    have : p = 0 := by omega
    subst this; rfl
  | n + 1, p, f, h, hf => by
    obtain ⟨q1, q2⟩ := Sb_half h
    rw [Nat.pow_succ] at hf
    have ih := comp_and (n := n) q1 (by omega)
    have e : p + (2 ^ (n + 1) - 1 - f) = 2 * (p / 2 + (2 ^ n - 1 - f / 2)) + (p % 2 + 1 - f % 2) := by rw [Nat.pow_succ]; omega
    have e2 := and_bit (p / 2 + (2 ^ n - 1 - f / 2)) (f / 2) (p % 2 + 1 - f % 2) (f % 2) (by omega) (by omega)
    rw [show 2 * (f / 2) + f % 2 = f by omega, ← e, ih] at e2
    rw [e2]
    omega
theorem nxs_even {n p f : Nat} (h : p ≤ f) (hf : f < 2 ^ n) : nxs (n + 1) (2 * p) (2 * f) = 2 * nxs n p f := by
  unfold nxs
  have e : (2 * p + 2 ^ (n + 1) - 2 * f) % 2 ^ (n + 1) = 2 * ((p + 2 ^ n - f) % 2 ^ n) := by
    rw [Nat.pow_succ, show 2 * p + 2 ^ n * 2 - 2 * f = 2 * (p + 2 ^ n - f) by omega, Nat.mul_comm (2 ^ n) 2, Nat.mul_mod_mul_left]
  rw [e]
  have := and_bit ((p + 2 ^ n - f) % 2 ^ n) f 0 0 (by omega) (by omega)
  simpa using this
theorem nxs_odd1 {n p f : Nat} (h : p ≤ f) (hf : f < 2 ^ n) : nxs (n + 1) (2 * p + 1) (2 * f + 1) = 2 * nxs n p f := by
  unfold nxs
  have e : (2 * p + 1 + 2 ^ (n + 1) - (2 * f + 1)) % 2 ^ (n + 1) = 2 * ((p + 2 ^ n - f) % 2 ^ n) := by
    rw [Nat.pow_succ, show 2 * p + 1 + 2 ^ n * 2 - (2 * f + 1) = 2 * (p + 2 ^ n - f) by omega, Nat.mul_comm (2 ^ n) 2, Nat.mul_mod_mul_left]
  rw [e]
  have := and_bit ((p + 2 ^ n - f) % 2 ^ n) f 0 1 (by omega) (by omega)
  simpa using this
theorem nxs_odd0 {n p f : Nat} (h : Sb p f) (hf : f < 2 ^ n) : nxs (n + 1) (2 * p) (2 * f + 1) = 2 * p + 1 := by
  unfold nxs
  have hle := Sb_le h
  have e : (2 * p + 2 ^ (n + 1) - (2 * f + 1)) % 2 ^ (n + 1) = 2 * (p + (2 ^ n - 1 - f)) + 1 := by
    rw [Nat.pow_succ, Nat.mod_eq_of_lt (by omega)]
    omega
  rw [e]
  have := and_bit (p + (2 ^ n - 1 - f)) f 1 1 (by omega) (by omega)
  rw [this, comp_and h hf]
  rfl
theorem nxs_least : ∀ {n p q f : Nat}, Sb p f → Sb q f → f < 2 ^ n → p < q → p < nxs n p f ∧ nxs n p f ≤ q ∧ Sb (nxs n p f) f
  | 0, p, q, f, h1, h2, hf, hpq => by
    have := Sb_le h2
    simp at hf
    omega
  | n + 1, p, q, f, h1, h2, hf, hpq => by
    obtain ⟨a1, a2⟩ := Sb_half h1
    obtain ⟨b1, b2⟩ := Sb_half h2
    rw [Nat.pow_succ] at hf
    have hs : Sb (nxs (n + 1) p f) f := by
      unfold nxs Sb
      rw [Nat.and_assoc, Nat.and_self]
    refine ⟨?_, ?_, hs⟩ <;> rcases Nat.mod_two_eq_zero_or_one f with z | z
    · have ih := nxs_least (n := n) a1 b1 (by omega) (by omega)
      have e := nxs_even (n := n) (Sb_le a1) (by omega)
      rw [show 2 * (p / 2) = p by omega, show 2 * (f / 2) = f by omega] at e
      omega
    · rcases Nat.mod_two_eq_zero_or_one p with y | y
      · have e := nxs_odd0 (n := n) a1 (by omega)
        rw [show 2 * (p / 2) = p by omega, show 2 * (f / 2) + 1 = f by omega] at e
        omega
      · have ih := nxs_least (n := n) a1 b1 (by omega) (by omega)
        have e := nxs_odd1 (n := n) (Sb_le a1) (by omega)
        rw [show 2 * (p / 2) + 1 = p by omega, show 2 * (f / 2) + 1 = f by omega] at e
        omega
    · have ih := nxs_least (n := n) a1 b1 (by omega) (by omega)
      have e := nxs_even (n := n) (Sb_le a1) (by omega)
      rw [show 2 * (p / 2) = p by omega, show 2 * (f / 2) = f by omega] at e
      omega
    · rcases Nat.mod_two_eq_zero_or_one p with y | y
      · have e := nxs_odd0 (n := n) a1 (by omega)
        rw [show 2 * (p / 2) = p by omega, show 2 * (f / 2) + 1 = f by omega] at e
        omega
      · have ih := nxs_least (n := n) a1 b1 (by omega) (by omega)
        have e := nxs_odd1 (n := n) (Sb_le a1) (by omega)
        rw [show 2 * (p / 2) + 1 = p by omega, show 2 * (f / 2) + 1 = f by omega] at e
        omega
/-! growing in rounds -/
theorem or_bnd {a b : Nat} (ha : a < 65536) (hb : b < 65536) : a ||| b < 65536 := Nat.or_lt_two_pow (n := 16) ha hb
theorem Sb_or (a b : Nat) : Sb a (a ||| b) := Sb_iff.mpr (fun j h => by rw [Nat.testBit_or, h]; rfl)
theorem Sb_refl (a : Nat) : Sb a a := Nat.and_self a
theorem Sb_trans {a b c : Nat} (h : Sb a b) (h2 : Sb b c) : Sb a c := Sb_iff.mpr (fun j q => Sb_iff.mp h2 j (Sb_iff.mp h j q))
/-- a round that only adds is settled within sixteen -/
theorem rounds {R : Nat → Nat} (hR : ∀ s, s < 65536 → Sb s (R s) ∧ R s < 65536) {s : Nat} (hs : s < 65536) : ∀ k, fo (fun _ x => R x) s k < 65536 ∧ (k ≤ popf 16 (fo (fun _ x => R x) s k) ∨ ∃ j, j < k ∧ fo (fun _ x => R x) s (j + 1) = fo (fun _ x => R x) s j)
  | 0 => ⟨hs, Or.inl (Nat.zero_le _)⟩
  | k + 1 => by
    obtain ⟨h1, h2⟩ := rounds hR hs k
    obtain ⟨r1, r2⟩ := hR _ h1
    refine ⟨r2, ?_⟩
    rcases h2 with h2 | ⟨j, j1, j2⟩
    · have m := popf_mono (k := 16) r1 h1 r2
      by_cases e : R (fo (fun _ x => R x) s k) = fo (fun _ x => R x) s k
      · exact Or.inr ⟨k, by omega, e⟩
      · refine Or.inl ?_
        have : popf 16 (fo (fun _ x => R x) s k) ≠ popf 16 (R (fo (fun _ x => R x) s k)) := fun q => e (m.2 q).symm
        have := m.1
        show k + 1 ≤ popf 16 (R (fo (fun _ x => R x) s k))
        omega
    · exact Or.inr ⟨j, by omega, j2⟩
theorem fo_fix {R : Nat → Nat} {s j : Nat} (h : fo (fun _ x => R x) s (j + 1) = fo (fun _ x => R x) s j) : ∀ r, fo (fun _ x => R x) s (j + r) = fo (fun _ x => R x) s j
  | 0 => rfl
  | r + 1 => by
    show R (fo (fun _ x => R x) s (j + r)) = _
    rw [fo_fix h r]; exact h
theorem settled {R : Nat → Nat} (hR : ∀ s, s < 65536 → Sb s (R s) ∧ R s < 65536) {s : Nat} (hs : s < 65536) : fo (fun _ x => R x) s 17 = fo (fun _ x => R x) s 16 := by
  obtain ⟨h1, h2⟩ := rounds hR hs 17
  rcases h2 with h2 | ⟨j, j1, j2⟩
  · have := popf_le 16 (fo (fun _ x => R x) s 17)
    omega
  · have a := fo_fix j2 (17 - j)
    have b := fo_fix j2 (16 - j)
    rw [show j + (17 - j) = 17 by omega] at a
    rw [show j + (16 - j) = 16 by omega] at b
    rw [a, b]
/-- one round over the rules -/
def rl (G T : Nat → Nat) (w : Int32) (l s : Nat) : Nat := if nI l = w then s else if G l &&& s = G l then s ||| 2 ^ T l else s
def rnd (G T : Nat → Nat) (m : Nat) (w : Int32) (s : Nat) : Nat := fo (rl G T w) s m
def cl (G T : Nat → Nat) (m : Nat) (w : Int32) (s : Nat) : Nat := fo (fun _ x => rnd G T m w x) s 17
theorem rl_ok {G T : Nat → Nat} {w : Int32} {l s : Nat} (hT : T l < 16) (hs : s < 65536) : Sb s (rl G T w l s) ∧ rl G T w l s < 65536 := by
  unfold rl
  split
  · exact ⟨Sb_refl s, hs⟩
  · split
    · exact ⟨Sb_or _ _, or_bnd hs (by have := Nat.pow_lt_pow_right (a := 2) (by decide) hT; omega)⟩
    · exact ⟨Sb_refl s, hs⟩
theorem fo_grow {f : Nat → Nat → Nat} {n : Nat} (h : ∀ l s, l < n → s < 65536 → Sb s (f l s) ∧ f l s < 65536) {s : Nat} (hs : s < 65536) : ∀ k, k ≤ n → Sb s (fo f s k) ∧ fo f s k < 65536
  | 0, _ => ⟨Sb_refl s, hs⟩
  | k + 1, hk => by
    obtain ⟨a, b⟩ := fo_grow h hs k (by omega)
    obtain ⟨c, d⟩ := h k _ (by omega) b
    exact ⟨Sb_trans a c, d⟩
/-- nothing was added: at no place -/
theorem fo_same {f : Nat → Nat → Nat} {n : Nat} (h : ∀ l s, l < n → s < 65536 → Sb s (f l s) ∧ f l s < 65536) {s : Nat} (hs : s < 65536) (e : fo f s n = s) : ∀ l, l < n → f l s = s := by
  have key : ∀ k, k ≤ n → Sb (fo f s k) (fo f s n) := by
    intro k hk
    have : ∀ r, k + r ≤ n → Sb (fo f s k) (fo f s (k + r)) := by
      intro r
      induction r with
      | zero => intro _; exact Sb_refl _
      | succ r ih =>
        intro hr
        have b := (fo_grow h hs (k + r) (by omega)).2
        exact Sb_trans (ih (by omega)) (h (k + r) _ (by omega) b).1
    have := this (n - k) (by omega)
    rwa [show k + (n - k) = n by omega] at this
  have all : ∀ k, k ≤ n → fo f s k = s := by
    intro k hk
    have a := (fo_grow h hs k hk).1
    have b := key k hk
    rw [e] at b
    exact Nat.le_antisymm (Sb_le b) (Sb_le a)
  intro l hl
  have := all (l + 1) (by omega)
  have q : f l (fo f s l) = s := this
  rwa [all l (by omega)] at q
theorem rnd_ok {G T : Nat → Nat} {m : Nat} {w : Int32} (hT : ∀ l, l < m → T l < 16) {s : Nat} (hs : s < 65536) : Sb s (rnd G T m w s) ∧ rnd G T m w s < 65536 := fo_grow (fun l s hl hs => rl_ok (hT l hl) hs) hs m (Nat.le_refl m)
theorem cl_ok {G T : Nat → Nat} {m : Nat} {w : Int32} (hT : ∀ l, l < m → T l < 16) {s : Nat} (hs : s < 65536) : Sb s (cl G T m w s) ∧ cl G T m w s < 65536 := fo_grow (n := 17) (fun l s _ hs => rnd_ok hT hs) hs 17 (Nat.le_refl 17)
theorem cl_fix {G T : Nat → Nat} {m : Nat} {w : Int32} (hT : ∀ l, l < m → T l < 16) {s : Nat} (hs : s < 65536) : rnd G T m w (cl G T m w s) = cl G T m w s := by
  have h := settled (fun s hs => rnd_ok (w := w) (G := G) hT hs) hs
  show fo (fun _ x => rnd G T m w x) s 18 = fo (fun _ x => rnd G T m w x) s 17
  have := fo_fix h 2
  rw [this, h]
theorem bit_pow (j k : Nat) : (2 ^ k).testBit j = decide (k = j) := Nat.testBit_two_pow
theorem cl_closed {G T : Nat → Nat} {m : Nat} {w : Int32} (hT : ∀ l, l < m → T l < 16) {s l : Nat} (hs : s < 65536) (hl : l < m) (hw : nI l ≠ w) (hG : Sb (G l) (cl G T m w s)) : (cl G T m w s).testBit (T l) = true := by
  have c := (cl_ok (w := w) (G := G) hT hs).2
  have e := fo_same (fun l s hl hs => rl_ok (w := w) (G := G) (hT l hl) hs) c (cl_fix hT hs) l hl
  unfold rl at e
  rw [if_neg hw, if_pos (show G l &&& cl G T m w s = G l from hG)] at e
  rw [← e, Nat.testBit_or, bit_pow]
  simp
/-- the least that holds what is given and all that follows -/
theorem cl_least {G T : Nat → Nat} {m : Nat} {w : Int32} {y : Nat → Prop} (hy : ∀ l, l < m → nI l ≠ w → (∀ j, (G l).testBit j = true → y j) → y (T l)) {s : Nat} (hs : ∀ j, s.testBit j = true → y j) : ∀ j, (cl G T m w s).testBit j = true → y j := by
  have r1 : ∀ k, k ≤ m → ∀ x, (∀ j, x.testBit j = true → y j) → ∀ j, (fo (rl G T w) x k).testBit j = true → y j := by
    intro k
    induction k with
    | zero => intro _ x hx; exact hx
    | succ k ih =>
      intro hk x hx j hj
      have ih := ih (by omega) x hx
      have hj : (rl G T w k (fo (rl G T w) x k)).testBit j = true := hj
      unfold rl at hj
      split at hj
      · exact ih j hj
      · next h1 =>
        split at hj
        · next h2 =>
          rw [Nat.testBit_or, bit_pow] at hj
          simp at hj
          rcases hj with hj | hj
          · exact ih j hj
          · subst hj
            exact hy k (by omega) h1 (fun i hi => ih i (Sb_iff.mp h2 i hi))
        · exact ih j hj
  have r2 : ∀ k, ∀ j, (fo (fun _ x => rnd G T m w x) s k).testBit j = true → y j := by
    intro k
    induction k with
    | zero => exact hs
    | succ k ih => exact r1 m (Nat.le_refl m) _ ih
  exact r2 17
theorem cl_mono {G T : Nat → Nat} {m : Nat} {w : Int32} (hT : ∀ l, l < m → T l < 16) {a b : Nat} (hb : b < 65536) (h : Sb a b) : Sb (cl G T m w a) (cl G T m w b) :=
  Sb_iff.mpr (cl_least (y := fun j => (cl G T m w b).testBit j = true) (fun l hl hw hG => cl_closed hT hb hl hw (Sb_iff.mpr hG)) (fun j hj => Sb_iff.mp (cl_ok hT hb).1 j (Sb_iff.mp h j hj)))
/-- what leads to a goal -/
def rl2 (G T : Nat → Nat) (l s : Nat) : Nat := if s.testBit (T l) = true then s ||| G l else s
def lead (G T : Nat → Nat) (m s : Nat) : Nat := fo (fun _ x => fo (rl2 G T) x m) s 17
theorem rl2_ok {G T : Nat → Nat} {l s : Nat} (hG : G l < 65536) (hs : s < 65536) : Sb s (rl2 G T l s) ∧ rl2 G T l s < 65536 := by
  unfold rl2
  split
  · exact ⟨Sb_or _ _, or_bnd hs hG⟩
  · exact ⟨Sb_refl s, hs⟩
theorem rnd2_ok {G T : Nat → Nat} {m : Nat} (hG : ∀ l, l < m → G l < 65536) {s : Nat} (hs : s < 65536) : Sb s (fo (rl2 G T) s m) ∧ fo (rl2 G T) s m < 65536 := fo_grow (fun l s hl hs => rl2_ok (hG l hl) hs) hs m (Nat.le_refl m)
theorem lead_ok {G T : Nat → Nat} {m : Nat} (hG : ∀ l, l < m → G l < 65536) {s : Nat} (hs : s < 65536) : Sb s (lead G T m s) ∧ lead G T m s < 65536 := fo_grow (n := 17) (fun l s _ hs => rnd2_ok hG hs) hs 17 (Nat.le_refl 17)
theorem lead_closed {G T : Nat → Nat} {m : Nat} (hG : ∀ l, l < m → G l < 65536) {s l : Nat} (hs : s < 65536) (hl : l < m) (ht : (lead G T m s).testBit (T l) = true) : Sb (G l) (lead G T m s) := by
  have c := (lead_ok (T := T) hG hs).2
  have fx : fo (rl2 G T) (lead G T m s) m = lead G T m s := by
    have h := settled (fun s hs => rnd2_ok (T := T) hG hs) hs
    show fo (fun _ x => fo (rl2 G T) x m) s 18 = fo (fun _ x => fo (rl2 G T) x m) s 17
    have := fo_fix h 2
    rw [this, h]
  have e := fo_same (fun l s hl hs => rl2_ok (T := T) (hG l hl) hs) c fx l hl
  unfold rl2 at e
  rw [if_pos ht] at e
  rw [← e]
  exact Sb_iff.mpr (fun j hj => by rw [Nat.testBit_or, hj]; simp)
