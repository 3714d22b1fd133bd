/-! the reference reads all tenets -/
def tnR (L : List (List Nat)) (M : Mem) : Prop := ∀ j, j < L.length → M 184 (32 + 2 * j) = rw_ L j 0 ∧ M 184 (33 + 2 * j) = rw_ L j 1
theorem tenF_two {T V : Nat → Nat} {y : Except (Nat × Nat) (Nat × Nat)} {x : List Nat} {j : Nat} (h : tenF T V y = .ok (x, j)) : ∃ g v, x = [g, v] := by
  unfold tenF at h
  split at h
  · cases h
  · unfold tenE at h
    repeat' split at h
    all_goals first | cases h; done | (injection h with h; injection h with h h'; exact ⟨_, _, h.symm⟩)
theorem s12_readTenets {b : Nat → Nat} {n : Nat} {M : Mem} {Q : Int32 → Mem → Prop} (ra : RA b n 0 M) (h1 : ∀ L M2, pAll (tyT b n) (tenP (tyT b n) (tyV b n)) 18 0 [] = .ok L → L.length ≤ 16 → tnR L M2 → rfr M M2 → Q (nI L.length) M2) (h2 : ∀ f e M2, pAll (tyT b n) (tenP (tyT b n) (tyV b n)) 18 0 [] = .error (f, e) → RErr b n f e M M2 → Q (-1) M2) : FX12_readTenets Q 166 M := by
  unfold FX12_readTenets NX12_readTenets_2
  have stp : ∀ (B : Int32 × Mem → Prop) (L : List (List Nat)) (i r : Nat) (N : Mem), L.length ≤ 16 → RA b n i N → tnR L N → pAll (tyT b n) (tenP (tyT b n) (tyV b n)) (r + 1) i L = pAll (tyT b n) (tenP (tyT b n) (tyV b n)) 18 0 [] → rfr M N → (∀ x j M2, L.length < 16 → RA b n j M2 → rfr M M2 → tnR (L ++ [x]) M2 → pAll (tyT b n) (tenP (tyT b n) (tyV b n)) r j (L ++ [x]) = pAll (tyT b n) (tenP (tyT b n) (tyV b n)) 18 0 [] → B (nI (L.length + 1), M2)) → lbX12_readTenets_2 Q 166 (fun l1 M => B (l1, M)) (nI L.length) N := by
    intro B L i r N hL ra hR hp hf hB
    unfold lbX12_readTenets_2
    have err : ∀ f e M2, ¬ tyT b n i = 0 → tenP (tyT b n) (tyV b n) L.length i = .error (f, e) → RErr b n f e N M2 → Q (-1) M2 := fun f e M2 hz e1 he => h2 f e M2 (hp ▸ pAll_e hz e1) (he.of hf)
    refine ⟨fun w3 => ⟨fun w => ?_, fun w => ?_⟩, fun w3 => ?_⟩
    · have hz : ¬ tyT b n i = 0 := fun w2 => w ((ra.t (c := 0) (by omega)).mpr w2)
      have h3 : ¬ tyT b n i = 3 := fun w2 => w3 ((ra.t (c := 3) (by omega)).mpr w2)
      refine s12_errs 1 ra (fun M2 he => err 1 i M2 hz ?_ he)
      by_cases hl : L.length = 16
      · unfold tenP
        rw [if_neg (fun w => h3 w.2.1), if_neg (fun w => h3 w.2), if_pos hl]
      · rw [tenP_lt (by omega), tenG_1 h3]; rfl
    · have hz := (ra.t (c := 0) (by omega)).mp w
      exact h1 L N (hp ▸ pAll_0 hz) hL hR hf
    have h3 := (ra.t (c := 3) (by omega)).mp w3
    have hz : ¬ tyT b n i = 0 := by rw [h3]; decide
    refine ⟨fun q => ?_, fun q => ?_⟩
    rotate_left
    · have hl : L.length = 16 := (nI_eq (b := 16) (by omega) (by omega)).mp q
      have e15 : N 166 15 = nI (tyV b n i) := ra.rd.2.2.2 (by show 2 ≤ tyT b n i; omega)
      have hv := tyV_num h3
      rw [e15]
      refine ⟨fun w => ?_, fun w => ?_⟩
      · have w' := (nI_leI (b := 15) (by omega) (by omega)).mp w
        exact s12_errs 3 ra (fun M2 he => err 3 i M2 hz (by unfold tenP; rw [if_pos ⟨hl, h3, w'⟩]) he)
      · have w' := mt (nI_leI (a := tyV b n i) (b := 15) (by omega) (by omega)).mpr w
        exact s12_errs 2 ra (fun M2 he => err 2 i M2 hz (by unfold tenP; rw [if_neg (fun t => w' t.2.2), if_pos ⟨hl, h3⟩]) he)
    have q2 : L.length < 16 := by
      have : L.length ≠ 16 := fun w => q (by rw [w]; rfl)
      omega
    have ea : (32 : Int32) + 2 * nI L.length = nI (32 + 2 * L.length) := by
      rw [show (2 : Int32) * nI L.length = nI (2 * L.length) from pk_mul 2 _]; exact nI_add 32 _
    rw [ea]
    refine s12_readTenet ra q2 h3 (fun g v j M2 e1 ra2 f2 t2 m1 m2 => ⟨fun _ => ?_, fun w => absurd w (by decide)⟩) (fun f e M2 e1 he => ⟨fun w => absurd rfl w, fun _ => err f e M2 hz (by rw [tenP_lt q2]; exact e1) he⟩)
    rw [nI_1]
    refine hB [g, v] j M2 q2 ra2 (hf.trans f2) (fun t ht => ?_) ((pAll_k hz (by rw [tenP_lt q2]; exact e1)).symm.trans hp)
    rw [List.length_append] at ht
    by_cases hjl : t = L.length
    · subst hjl
      rw [rw_new, rw_new]
      exact ⟨m1, m2⟩
    · have hj2 : t < L.length := by simp at ht; omega
      rw [rw_old _ hj2, rw_old _ hj2, t2 184 _ (fun w => by have := w.1; omega) (fun w => by have := w.2; omega), t2 184 _ (fun w => by have := w.1; omega) (fun w => by have := w.2; omega)]
      exact hR t hj2
  refine xlp_for (fun r (a : Int32 × Mem) => ∃ (L : List (List Nat)) (i : Nat), L.length + r = 16 ∧ a.1 = nI L.length ∧ RA b n i a.2 ∧ tnR L a.2 ∧ pAll (tyT b n) (tenP (tyT b n) (tyV b n)) (r + 2) i L = pAll (tyT b n) (tenP (tyT b n) (tyV b n)) 18 0 [] ∧ rfr M a.2) ?_ ?_ 16 _ ⟨[], 0, rfl, rfl, ra, fun j hj => absurd hj (by simp), rfl, fun _ _ _ => rfl⟩
  · rintro ⟨a, N⟩ B ⟨L, i, hr, ha, ra, hRL, hp, hf⟩
    have ha' : a = nI L.length := ha
    subst ha'
    exact stp B L i 1 N (by omega) ra hRL hp hf (fun x j M2 hlt => absurd hlt (by omega))
  · rintro r ⟨a, N⟩ B ⟨L, i, hr, ha, ra, hRL, hp, hf⟩ hB
    have ha' : a = nI L.length := ha
    subst ha'
    exact stp B L i (r + 2) N (by omega) ra hRL hp hf (fun x j M2 hlt ra2 f2 r2 hp2 => hB _ ⟨L ++ [x], j, by simp; omega, by simp, ra2, r2, hp2, f2⟩)
