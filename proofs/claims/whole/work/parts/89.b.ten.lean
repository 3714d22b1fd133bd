/-! the class reads a line of the tenets -/
def tenC (T V : Nat → Nat) (r i g : Nat) : Except (Nat × Nat) (Nat × Nat) := if T i = 2 ∧ V i = 5 then tenG T V r (i + 1) g else .ok (g, i)
def tenF (T V : Nat → Nat) (x : Except (Nat × Nat) (Nat × Nat)) : Except (Nat × Nat) (List Nat × Nat) := match x with
  | .error e => .error e
  | .ok (g, j) => tenE T V g j
theorem tenG_k {T V : Nat → Nat} {r i g : Nat} (h1 : T i = 3) (h2 : V i ≤ 15) : tenG T V (r + 1) i g = tenC T V r (i + 1) (g ||| 2 ^ V i) := by
  rw [tenG, if_pos h1, if_pos ⟨Nat.zero_le _, h2⟩]
  rfl
theorem tenG_1 {T V : Nat → Nat} {r i g : Nat} (h1 : ¬ T i = 3) : tenG T V (r + 1) i g = .error (1, i) := by
  rw [tenG, if_neg h1]
theorem tenG_2 {T V : Nat → Nat} {r i g : Nat} (h1 : T i = 3) (h2 : ¬ (0 ≤ V i ∧ V i ≤ 15)) : tenG T V (r + 1) i g = .error (2, i) := by
  rw [tenG, if_pos h1, if_neg h2]
theorem or_16 {g v : Nat} (hg : g < 65536) (hv : v ≤ 15) : g ||| 2 ^ v < 65536 := Nat.or_lt_two_pow (n := 16) hg (Nat.pow_lt_pow_right (by omega) (by omega))
theorem s5_tenL {b : Nat → Nat} {n m g : Nat} (L : List (List Nat)) (i : Nat) (M : Mem) (Q : Bool → Mem → Prop) (ca : CA 3 b n m i M) (hi : 1 ≤ i) (hL : L.length < 16) (hg : g < 65536) (hR : tnC L M) (h1 : ∀ x j M2, tenF (tyT b n) (tyV b n) (tenC (tyT b n) (tyV b n) 401 i g) = .ok (x, j) → CA 3 b n m j M2 → cl1 M M2 → tnC (L ++ [x]) M2 → Q true M2) (h2 : ∀ f e M2, tenF (tyT b n) (tyV b n) (tenC (tyT b n) (tyV b n) 401 i g) = .error (f, e) → CErr b n f e M M2 → Q false M2) : NX5_tenetLine_55 Q 139 (nI g) 0 M := by
  unfold NX5_tenetLine_55
  refine xlp_for (fun r (a : Int32 × Int32 × Mem) => ∃ i' g' s, s + r = 400 ∧ 2 * s + 1 ≤ i' ∧ a.1 = nI g' ∧ a.2.1 = nI s ∧ g' < 65536 ∧ CA 3 b n m i' a.2.2 ∧ cs1 M a.2.2 ∧ tenC (tyT b n) (tyV b n) (r + 1) i' g' = tenC (tyT b n) (tyV b n) 401 i g) ?_ ?_ 400 _ ⟨i, g, 0, rfl, by omega, rfl, rfl, hg, ca, fun _ _ _ => rfl, rfl⟩
  · rintro ⟨a1, a2, N⟩ B ⟨i', g', s, hr, hs, e1, e2, hg', ca', hf, hp⟩
    replace ca' : CA 3 b n m i' N := ca'
    have := ca'.le
    have := ca'.mn
    have := ca'.n4
    omega
  · rintro r ⟨a1, a2, N⟩ B ⟨i', g', s, hr, hs, e1, e2, hg', ca', hf, hp⟩ hB
    replace ca' : CA 3 b n m i' N := ca'
    replace hf : cs1 M N := hf
    have e1' : a1 = nI g' := e1
    have e2' : a2 = nI s := e2
    subst e1' e2'
    show lbX5_tenetLine_55 Q 139 (fun l1 l2 M => B (l1, l2, M)) (nI g') (nI s) N
    unfold lbX5_tenetLine_55
    refine ⟨fun q => absurd ((nI_leI (a := 400) (by omega) (by omega)).mp q) (by omega), fun _ => ?_⟩
    have hRN : tnC L N := ⟨by rw [hf 155 2 (by omega)]; exact hR.1, fun j hj => by rw [hf 156 j (by omega), hf 157 j (by omega)]; exact hR.2 j hj⟩
    refine s5_isWord (w := 0) ca' wO3_0 (fun q => ⟨fun w => (by cases w), fun _ => ?_⟩) (fun q => ⟨fun _ => ?_, fun w => (by cases w)⟩)
    · rintro M9 rfl
      obtain ⟨c9, f9⟩ := ca'.step (by rw [q.1]; decide)
      have eq1 : tenC (tyT b n) (tyV b n) (r + 1 + 1) i' g' = tenG (tyT b n) (tyV b n) (r + 1 + 1) (i' + 1) g' := if_pos q
      refine s5_number (lo := 0) (hi := 15) c9 (by omega) (by omega) (fun q3 _ q4 M4 c4 f4 v4 => ⟨fun _ => ?_, fun w => (by cases w)⟩) (fun q3 M2 he => ⟨fun w => (by cases w), fun _ => h2 1 (i' + 1) M2 (by rw [← hp, eq1, tenG_1 q3]; rfl) (he.of (hf.trans f9).cfr)⟩) (fun q3 q4 M2 he => ⟨fun w => (by cases w), fun _ => h2 2 (i' + 1) M2 (by rw [← hp, eq1, tenG_2 q3 q4]; rfl) (he.of (hf.trans f9).cfr)⟩)
      rintro y rfl
      rw [v4, sh1 _ (by omega), nI_or, nI_1]
      exact hB _ ⟨i' + 1 + 1, g' ||| 2 ^ tyV b n (i' + 1), s + 1, by omega, by omega, rfl, rfl, or_16 hg' q4, c4, (hf.trans f9).trans f4, by rw [← hp, eq1, tenG_k q3 q4]⟩
    · have eq1 : tenC (tyT b n) (tyV b n) (r + 1 + 1) i' g' = .ok (g', i') := if_neg q
      refine s5_tenE L i' N Q ca' hL hg' hRN (fun x j M2 e c f t => h1 x j M2 (by rw [← hp, eq1]; exact e) c (hf.cl1.trans f) t) (fun f e M2 e1 he => h2 f e M2 (by rw [← hp, eq1]; exact e1) (he.of hf.cfr))
