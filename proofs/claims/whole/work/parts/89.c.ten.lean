theorem tenP_lt {T V : Nat → Nat} {l i : Nat} (h : l < 16) : tenP T V l i = tenF T V (tenG T V 402 i 0) := by
  unfold tenP
  rw [if_neg (by omega), if_neg (by omega), if_neg (by omega)]
  rfl
theorem tenP_16 {T V : Nat → Nat} {i : Nat} (x : List Nat × Nat) : tenP T V 16 i ≠ .ok x := by
  unfold tenP
  split
  · intro h; cases h
  · split
    · intro h; cases h
    · rw [if_pos rfl]
      intro h; cases h
theorem s5_tenetLine {b : Nat → Nat} {n m : Nat} {P8 P9 : Int32} (L : List (List Nat)) (i : Nat) (M : Mem) (Q : Bool → Mem → Prop) (ca : CA 3 b n m i M) (h7 : M 139 7 = nI L.length) (hL : L.length ≤ 16) (hR : tnC L M) (_ : M 139 8 = P8) (_ : M 139 9 = P9) (h1 : ∀ x j M2, tenP (tyT b n) (tyV b n) L.length i = .ok (x, j) → CA 3 b n m j M2 → cl1 M M2 → tnC (L ++ [x]) M2 → Q true M2) (h2 : ∀ f e M2, tenP (tyT b n) (tyV b n) L.length i = .error (f, e) → CErr b n f e M M2 → Q false M2) : FX5_tenetLine Q 139 M := by
  have go : (L.length = 16 → ¬ (tyT b n i = 3 ∧ tyV b n i ≤ 15)) → NX5_tenetLine_34 Q 139 M := by
    intro hno
    unfold NX5_tenetLine_34
    refine s5_number (lo := 0) (hi := 15) ca (by omega) (by omega) (fun q3 _ q4 M4 c4 f4 v4 => ⟨fun _ => ?_, fun w => (by cases w)⟩) (fun q M2 he => ⟨fun w => (by cases w), fun _ => h2 1 i M2 ?_ he⟩) (fun q3 q M2 he => ⟨fun w => (by cases w), fun _ => h2 2 i M2 ?_ he⟩)
    · have hl : L.length < 16 := by
        have : ¬ L.length = 16 := fun w => hno w ⟨q3, q4⟩
        omega
      rintro y rfl
      rw [v4, sh1 _ (by omega)]
      have e : tenP (tyT b n) (tyV b n) L.length i = tenF (tyT b n) (tyV b n) (tenC (tyT b n) (tyV b n) 401 (i + 1) (2 ^ tyV b n i)) := by
        rw [tenP_lt hl, tenG_k q3 q4, Nat.zero_or]
      rw [e] at h1 h2
      have hRN : tnC L M4 := ⟨by rw [f4 155 2 (by omega)]; exact hR.1, fun j hj => by rw [f4 156 j (by omega), f4 157 j (by omega)]; exact hR.2 j hj⟩
      exact s5_tenL L (i + 1) M4 Q c4 (by omega) hl (by have := or_16 (g := 0) (by omega) q4; rwa [Nat.zero_or] at this) hRN (fun x j M2 e c f t => h1 x j M2 e c (f4.cl1.trans f) t) (fun f e M2 e1 he => h2 f e M2 e1 (he.of f4.cfr))
    · by_cases hl : L.length = 16
      · unfold tenP
        rw [if_neg (fun w => q w.2.1), if_neg (fun w => q w.2), if_pos hl]
      · rw [tenP_lt (by omega), tenG_1 q]; rfl
    · by_cases hl : L.length = 16
      · unfold tenP
        rw [if_neg (fun w => q ⟨Nat.zero_le _, w.2.2⟩), if_pos ⟨hl, q3⟩]
      · rw [tenP_lt (by omega), tenG_2 q3 q]; rfl
  unfold FX5_tenetLine
  rw [h7]
  refine ⟨fun q => go (fun w => absurd ((nI_ltI (b := 16) (by omega) (by omega)).mp q) (by omega)), fun q => s5_kind ca (fun hK => ?_)⟩
  have hl : L.length = 16 := by
    have := mt (nI_ltI (a := L.length) (b := 16) (by omega) (by omega)).mpr q
    omega
  have hz := KR_n (d := 201) (t' := 3) ca.k4 (Or.inr ⟨rfl, rfl⟩) hK
  refine ⟨fun w => go (fun _ w2 => w (hz.mpr w2.1)), fun w => s5_numberHere ca (hz.mp w) ?_⟩
  have hv := tyV_num (hz.mp w)
  refine ⟨fun w2 => go (fun _ w3 => absurd ((nI_leI (a := 16) (by omega) (by omega)).mp w2) (by omega)), fun w2 => s5_refuse 3 ca (fun M2 he => h2 3 i M2 ?_ he)⟩
  have h15 := mt (nI_leI (a := 16) (b := tyV b n i) (by omega) (by omega)).mpr w2
  unfold tenP
  rw [if_pos ⟨hl, hz.mp w, by omega⟩]
