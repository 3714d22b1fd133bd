/-! counted loops; lesser, greater, held -/
def fo {S : Type} (f : Nat → S → S) (s0 : S) : Nat → S
  | 0 => s0
  | k + 1 => f k (fo f s0 k)
theorem fo_inv {S : Type} {f : Nat → S → S} {s0 : S} {n : Nat} (I : Nat → S → Prop) (h0 : I 0 s0) (hs : ∀ k s, k < n → I k s → I (k + 1) (f k s)) : ∀ k, k ≤ n → I k (fo f s0 k)
  | 0, _ => h0
  | k + 1, h => hs k _ (by omega) (fo_inv I h0 hs k (by omega))
theorem fo_congr {S : Type} {f g : Nat → S → S} {s0 : S} : ∀ {n : Nat}, (∀ k s, k < n → f k s = g k s) → fo f s0 n = fo g s0 n
  | 0, _ => rfl
  | n + 1, h => by
    show f n _ = g n _
    rw [fo_congr (n := n) (fun k s hk => h k s (by omega)), h n _ (by omega)]
theorem xlp_fo {A S : Type} {body : (A → Prop) → A → Prop} (f : Nat → S → S) (s0 : S) (P : Nat) (enc : Nat → S → A) (a : A) (ha : a = enc 0 s0) (h0 : ∀ B, body B (enc P (fo f s0 P))) (hs : ∀ k B, k < P → B (enc (k + 1) (f k (fo f s0 k))) → body B (enc k (fo f s0 k))) : xlp body a := by
  refine xlp_for (fun r a => ∃ k, k + r = P ∧ a = enc k (fo f s0 k)) ?_ ?_ P a ⟨0, by omega, ha⟩
  · rintro a B ⟨k, hk, rfl⟩
    have : k = P := by omega
    subst this
    exact h0 B
  · rintro r a B ⟨k, hk, rfl⟩ hB
    exact hs k B (by omega) (hB _ ⟨k + 1, by omega, rfl⟩)
def mn (x y : Int32) : Int32 := if y < x then y else x
def mx (x y : Int32) : Int32 := if x < y then y else x
def hd (v lo hi : Int32) : Int32 := if v < lo then lo else if hi < v then hi else v
theorem s_min {Q : Int32 → Prop} {x y : Int32} {M : Mem} (h : Q (mn x y)) : FJ9_min_7cf53 Q x y M := by
  unfold FJ9_min_7cf53
  unfold mn at h
  exact ⟨fun q => by rwa [if_pos q] at h, fun q => by rwa [if_neg q] at h⟩
theorem s_max {Q : Int32 → Prop} {x y : Int32} {M : Mem} (h : Q (mx x y)) : FJ9_max_7cf53 Q x y M := by
  unfold FJ9_max_7cf53
  unfold mx at h
  exact ⟨fun q => by rwa [if_pos q] at h, fun q => by rwa [if_neg q] at h⟩
theorem s12_lesser {Q : Int32 → Prop} {l : Nat} {x y : Int32} {M : Mem} (h : Q (mn x y)) : FX12_lesser Q l x y M := by
  unfold FX12_lesser
  have : mn x y = if y ≤ x then y else x := by unfold mn; grind
  rw [this] at h
  exact ⟨fun q => by rwa [if_pos q] at h, fun q => by rwa [if_neg q] at h⟩
theorem s12_greater {Q : Int32 → Prop} {l : Nat} {x y : Int32} {M : Mem} (h : Q (mx x y)) : FX12_greater Q l x y M := by
  unfold FX12_greater
  have : mx x y = if x ≤ y then y else x := by unfold mx; grind
  rw [this] at h
  exact ⟨fun q => by rwa [if_pos q] at h, fun q => by rwa [if_neg q] at h⟩
theorem s12_held {Q : Int32 → Prop} {l : Nat} {v lo hi : Int32} {M : Mem} (h : Q (hd v lo hi)) : FX12_held Q l v lo hi M := by
  unfold FX12_held
  unfold hd at h
  grind
theorem s11_held {Q : Int32 → Prop} {v lo hi : Int32} {M : Mem} (hl : lo ≤ hi) (h : Q (hd v lo hi)) : FX11_held Q v lo hi M := by
  unfold FX11_held
  refine s_min (s_max ?_)
  have : mx lo (mn hi v) = hd v lo hi := by unfold mx mn hd; grind
  rw [this]; exact h
theorem mnN {a b : Nat} (ha : a < 2 ^ 31) (hb : b < 2 ^ 31) : mn (nI a) (nI b) = nI (min a b) := by
  unfold mn
  simp only [nI_ltI hb ha]
  split <;> (congr 1; omega)
theorem mxN {a b : Nat} (ha : a < 2 ^ 31) (hb : b < 2 ^ 31) : mx (nI a) (nI b) = nI (max a b) := by
  unfold mx
  simp only [nI_ltI ha hb]
  split <;> (congr 1; omega)
