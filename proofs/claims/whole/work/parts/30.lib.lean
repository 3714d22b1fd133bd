/-! pure rows for the agreements -/
theorem xlp_for {A : Type} {body : (A → Prop) → A → Prop} (I : Nat → A → Prop) (h0 : ∀ a B, I 0 a → body B a) (hs : ∀ r a B, I (r + 1) a → (∀ a', I r a' → B a') → body B a) (r : Nat) (a : A) (h : I r a) : xlp body a := by
  have key : ∀ r a, I r a → xlpn body (r + 1) a := by
    intro r
    induction r with
    | zero => intro a h; exact h0 a _ h
    | succ r ih => intro a h; exact hs r a _ h (fun a' h' => ih a' h')
  exact ⟨_, key r a h⟩
theorem xu_same (M : Mem) (c i : Nat) (v : Int32) : xu M c i v c i = v := by simp [xu, upd]
theorem xu_cell (M : Mem) {c a : Nat} (i : Nat) (v : Int32) (h : a ≠ c) : xu M c i v a = M a := by simp [xu, h]
theorem xu_at (M : Mem) (c : Nat) {i j : Nat} (v : Int32) (h : j ≠ i) : xu M c i v c j = M c j := by simp [xu, upd, h]
theorem xu_ne (M : Mem) {c a i j : Nat} (v : Int32) (h : ¬ (a = c ∧ j = i)) : xu M c i v a j = M a j := by
  by_cases h1 : a = c
  · subst h1
    by_cases h2 : j = i
    · exact absurd ⟨rfl, h2⟩ h
    · exact xu_at M a v h2
  · rw [xu_cell M i v h1]
theorem ixn {k : Nat} (h : k < 2 ^ 31) : ix (nI k) = k := nI_clamp h
theorem ixa (c : Nat) {k : Nat} (h : c + k < 2 ^ 31) : ix (nI c + nI k) = c + k := by rw [nI_add]; exact nI_clamp h
theorem ixb (c d : Nat) {k : Nat} (h : c + k + d < 2 ^ 31) : ix (nI c + nI k + nI d) = c + k + d := by rw [nI_add, nI_add]; exact nI_clamp h
theorem vpa (c : Nat) {k N : Nat} (h : c + k < N) (hN : N < 2 ^ 31) : vp_in (nI c + nI k) N := by rw [nI_add]; exact vp_in_nI h hN
theorem vpb (c d : Nat) {k N : Nat} (h : c + k + d < N) (hN : N < 2 ^ 31) : vp_in (nI c + nI k + nI d) N := by rw [nI_add, nI_add]; exact vp_in_nI h hN
theorem nI_le_of {x : Int32} {k : Nat} (h0 : ¬ x < 0) (h1 : ¬ nI k < x) (hk : k < 2 ^ 31) : ∃ j, j ≤ k ∧ x = nI j := by
  obtain ⟨j, hj, rfl⟩ := nI_of h0
  refine ⟨j, ?_, rfl⟩
  have := mt (nI_ltI hk hj).mpr h1
  omega
/-- a method isIn of the reference: the answer -/
theorem s12_isIn {Q : Bool → Prop} {l0 : Nat} {v lo hi : Int32} {M : Mem} (h : Q (decide (lo ≤ v ∧ v ≤ hi))) : FX12_isIn Q l0 v lo hi M := by
  unfold FX12_isIn
  refine ⟨fun h1 => ?_, fun h1 => ⟨fun h2 => ?_, fun h2 => ?_⟩⟩
  · rwa [decide_eq_false (fun q => absurd q.1 (Int32.not_le.mpr h1))] at h
  · rwa [decide_eq_false (fun q => absurd q.2 (Int32.not_le.mpr h2))] at h
  · rwa [decide_eq_true ⟨Int32.not_lt.mp h1, Int32.not_lt.mp h2⟩] at h
theorem s11_within {Q : Bool → Prop} {v lo hi : Int32} {M : Mem} (h : Q (decide (lo ≤ v ∧ v ≤ hi))) : FX11_within Q v lo hi M := by
  unfold FX11_within
  refine ⟨fun h1 => ?_, fun h1 => ⟨fun h2 => ?_, fun h2 => ?_⟩⟩
  · rwa [decide_eq_false (fun q => absurd q.1 (Int32.not_le.mpr h1))] at h
  · rwa [decide_eq_false (fun q => absurd q.2 (Int32.not_le.mpr h2))] at h
  · rwa [decide_eq_true ⟨Int32.not_lt.mp h1, Int32.not_lt.mp h2⟩] at h
