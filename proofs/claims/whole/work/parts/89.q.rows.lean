/-! what every line that was read keeps -/
theorem pAll_all {α : Type} {T : Nat → Nat} {ln : Nat → Nat → Except (Nat × Nat) (α × Nat)} {G : α → Prop} (hG : ∀ l i x j, ln l i = .ok (x, j) → G x) : ∀ (r i : Nat) (acc L : List α), (∀ x, x ∈ acc → G x) → pAll T ln r i acc = .ok L → ∀ x, x ∈ L → G x
  | 0, _, acc, L, ha, h => by
    have : acc = L := Except.ok.inj h
    rw [← this]; exact ha
  | r + 1, i, acc, L, ha, h => by
    unfold pAll at h
    split at h
    · have : acc = L := Except.ok.inj h
      rw [← this]; exact ha
    · split at h
      · cases h
      · next x j hx =>
        refine pAll_all hG r j (acc ++ [x]) L (fun y hy => ?_) h
        rcases List.mem_append.mp hy with hy | hy
        · exact ha y hy
        · rw [List.mem_singleton.mp hy]; exact hG _ _ _ _ hx
theorem getD_mem {α : Type} {L : List α} {l : Nat} (d : α) (h : l < L.length) : L.getD l d ∈ L := by
  rw [List.getD_eq_getElem?_getD, List.getElem?_eq_getElem h]
  exact List.getElem_mem h
/-- a row of the plan -/
def plG (P N : Nat) (x : List Nat) : Prop := x.getD 1 0 ≤ 4 ∧ x.getD 2 0 < 10000 ∧ (x.getD 1 0 = 2 ∨ x.getD 1 0 = 4 → x.getD 2 0 < N) ∧ (x.getD 1 0 = 3 → x.getD 2 0 < P ∧ 1 ≤ x.getD 3 0 ∧ x.getD 3 0 ≤ 99)
theorem planP_G {P N : Nat} {T V : Nat → Nat} (hV : ∀ i, T i = 3 → V i < 10000) (l i : Nat) (x : List Nat) (j : Nat) (h : planP P N T V l i = .ok (x, j)) : plG P N x := by
  unfold planP at h
  split at h
  · split at h
    · split at h
      · split at h
        · split at h
          · next q =>
            unfold planE at h
            split at h
            · next q3 =>
              have hv := hV _ q3
              split at h
              · next qb =>
                unfold hB at qb
                split at h
                · next qw =>
                  split at h
                  · split at h
                    · next qh =>
                      unfold planM at h
                      split at h
                      · have h2 := congrArg Prod.fst (Except.ok.inj h)
                        have h2 : [V (i + 1), V (i + 2) - 18, V (i + 3), V (i + 3 + 1)] = x := h2
                        rw [← h2]
                        rw [if_neg (by omega), if_neg (by omega), if_pos qw] at qb
                        exact ⟨by show V (i + 2) - 18 ≤ 4; omega, hv, fun w => by have w : V (i + 2) - 18 = 2 ∨ V (i + 2) - 18 = 4 := w; omega, fun _ => ⟨qb, qh.1, qh.2⟩⟩
                      · cases h
                    · cases h
                  · cases h
                · next qw =>
                  unfold planM at h
                  split at h
                  · have h2 := congrArg Prod.fst (Except.ok.inj h)
                    have h2 : [V (i + 1), V (i + 2) - 18, V (i + 3), 0] = x := h2
                    rw [← h2]
                    refine ⟨by show V (i + 2) - 18 ≤ 4; omega, hv, fun w => ?_, fun w => absurd w qw⟩
                    have w : V (i + 2) - 18 = 2 ∨ V (i + 2) - 18 = 4 := w
                    rw [if_neg (by omega), if_neg (by omega), if_neg (by omega)] at qb
                    exact qb
                  · cases h
              · cases h
            · cases h
          · cases h
        · cases h
      · cases h
    · cases h
  · cases h
theorem or_pos {g v : Nat} : 0 < g ||| 2 ^ v := Nat.lt_of_lt_of_le (Nat.two_pow_pos v) Nat.right_le_or
theorem tenG_pos {T V : Nat → Nat} : ∀ (r i g g2 j : Nat), tenG T V r i g = .ok (g2, j) → (0 < g ∨ 0 < r) → 0 < g2
  | 0, i, g, g2, j, h, h0 => by
    have : g = g2 := congrArg Prod.fst (Except.ok.inj h)
    omega
  | r + 1, i, g, g2, j, h, _ => by
    unfold tenG at h
    split at h
    · split at h
      · split at h
        · exact tenG_pos r _ _ g2 j h (Or.inl or_pos)
        · have : g ||| 2 ^ V i = g2 := congrArg Prod.fst (Except.ok.inj h)
          rw [← this]
          exact or_pos
      · cases h
    · cases h
theorem tenP_G {T V : Nat → Nat} (l i : Nat) (x : List Nat) (j : Nat) (h : tenP T V l i = .ok (x, j)) : 0 < x.getD 0 0 := by
  unfold tenP at h
  split at h
  · cases h
  · split at h
    · cases h
    · split at h
      · cases h
      · split at h
        · cases h
        · next g k hk =>
          have := tenG_pos 402 i 0 g k hk (Or.inr (by omega))
          unfold tenE at h
          split at h
          · split at h
            · split at h
              · split at h
                · have h2 : [g, V (k + 1)] = x := congrArg Prod.fst (Except.ok.inj h)
                  rw [← h2]
                  exact this
                · cases h
              · cases h
            · cases h
          · cases h
/-- a row of THE LAW -/
def lwG (x : Nat × List (Nat × Nat) × List (Nat × Nat)) : Prop := x.1 ≤ 2 ∧ tyk [] x.2.1 [false] ∧ (x.2.2 = [] ∨ tyk [] x.2.2 [true])
theorem lawE_G {T V : Nat → Nat} {w k : Nat} {c d : List (Nat × Nat)} {x : Nat × List (Nat × Nat) × List (Nat × Nat)} {j : Nat} (h : lawE T V w c d k = .ok (x, j)) : x = (w, c, d) := by
  unfold lawE at h
  split at h
  · exact (congrArg Prod.fst (Except.ok.inj h)).symm
  · cases h
theorem lawP_G {T V : Nat → Nat} (hV : ∀ i, T i = 3 → V i < 10000) (l i : Nat) (x : Nat × List (Nat × Nat) × List (Nat × Nat)) (j : Nat) (h : lawP T V l i = .ok (x, j)) : lwG x := by
  unfold lawP at h
  split at h
  · next q =>
    split at h
    · split at h
      · cases h
      · next c k hk =>
        have t1 := (sumP_ty hV [] hk (by decide)).1
        split at h
        · split at h
          · cases h
          · next d k2 hk2 =>
            rw [lawE_G h]
            exact ⟨q.2, t1, Or.inr ((pCC_ty hV 20).1 0 (k + 1) d k2 [] hk2 (by omega) (Nat.zero_le _)).1⟩
        · rw [lawE_G h]
          exact ⟨q.2, t1, Or.inl rfl⟩
    · cases h
  · cases h
theorem kRun_kL {op ar : Nat → Int32} : ∀ (cs : List (Nat × Nat)) (i : Nat) (st : List Bool), (∀ t, t < cs.length → op (i + t) = nI (cs.getD t (0, 0)).1 ∧ ar (i + t) = nI (cs.getD t (0, 0)).2) → kRun op ar i cs.length st = kL (op (i - 1)) (ar (i - 1)) cs st
  | [], _, _, _ => rfl
  | c :: cs, i, st, h => by
    have h0 : op i = nI c.1 ∧ ar i = nI c.2 := h 0 (by rw [List.length_cons]; omega)
    show (match kStep (op i) (op (i - 1)) (ar (i - 1)) st with
    | none => none
    | some st2 => kRun op ar (i + 1) cs.length st2) = (match kStep (nI c.1) (op (i - 1)) (ar (i - 1)) st with
    | none => none
    | some st2 => kL (nI c.1) (nI c.2) cs st2)
    rw [h0.1]
    cases kStep (nI c.1) (op (i - 1)) (ar (i - 1)) st with
    | none => rfl
    | some st2 =>
      show kRun op ar (i + 1) cs.length st2 = kL (nI c.1) (nI c.2) cs st2
      rw [kRun_kL cs (i + 1) st2 (fun t ht => by
        have := h (t + 1) (by rw [List.length_cons]; omega)
        rw [show i + 1 + t = i + (t + 1) by omega]
        exact this), show i + 1 - 1 = i by omega, h0.1, h0.2]
theorem getD_app2 {α : Type} (A B : List α) (d : α) (t : Nat) : (A ++ B).getD (A.length + t) d = B.getD t d := by
  simp [List.getD_eq_getElem?_getD, List.getElem?_append_right]
theorem cds_cut {L : List (Nat × List (Nat × Nat) × List (Nat × Nat))} {l : Nat} (h : l < L.length) : cds L = cds (L.take l) ++ ((lrow L l).2.1 ++ ((lrow L l).2.2 ++ cds (L.drop (l + 1)))) := by
  have e : L = L.take l ++ (lrow L l :: L.drop (l + 1)) := by
    have h2 : L.drop l = lrow L l :: L.drop (l + 1) := by
      rw [List.drop_eq_getElem_cons h]
      congr 1
      simp [lrow, List.getD_eq_getElem?_getD, List.getElem?_eq_getElem h]
    rw [← h2, List.take_append_drop]
  have : cds L = cds (L.take l ++ (lrow L l :: L.drop (l + 1))) := congrArg cds e
  rw [this]
  simp [cds]
theorem cds_len {L : List (Nat × List (Nat × Nat) × List (Nat × Nat))} {l : Nat} (h : l < L.length) : lst L l + (lrow L l).2.1.length + (lrow L l).2.2.length ≤ (cds L).length := by
  rw [cds_cut h]
  simp only [List.length_append]
  unfold lst
  omega
theorem cds_1 {L : List (Nat × List (Nat × Nat) × List (Nat × Nat))} {l t : Nat} (h : l < L.length) (ht : t < (lrow L l).2.1.length) : (cds L).getD (lst L l + t) (0, 0) = (lrow L l).2.1.getD t (0, 0) := by
  have e := cds_cut h
  have : (cds L).getD (lst L l + t) (0, 0) = (cds (L.take l) ++ ((lrow L l).2.1 ++ ((lrow L l).2.2 ++ cds (L.drop (l + 1))))).getD (lst L l + t) (0, 0) := by rw [← e]
  rw [this]
  unfold lst
  rw [getD_app2, getD_old _ _ ht]
theorem cds_2 {L : List (Nat × List (Nat × Nat) × List (Nat × Nat))} {l t : Nat} (h : l < L.length) (ht : t < (lrow L l).2.2.length) : (cds L).getD (lst L l + (lrow L l).2.1.length + t) (0, 0) = (lrow L l).2.2.getD t (0, 0) := by
  have e := cds_cut h
  have : (cds L).getD (lst L l + (lrow L l).2.1.length + t) (0, 0) = (cds (L.take l) ++ ((lrow L l).2.1 ++ ((lrow L l).2.2 ++ cds (L.drop (l + 1))))).getD (lst L l + (lrow L l).2.1.length + t) (0, 0) := by rw [← e]
  rw [this]
  unfold lst
  rw [Nat.add_assoc, getD_app2, getD_app2, getD_old _ _ ht]
theorem tyk_ne {cs : List (Nat × Nat)} {x : Bool} {s : List Bool} (h : tyk [] cs (x :: s)) : 0 < cs.length := by
  cases cs with
  | nil => exact absurd (h 0 0) (by simp [kL])
  | cons => rw [List.length_cons]; omega
/-- the law that both took is sound -/
theorem WFl_of {L : List (Nat × List (Nat × Nat) × List (Nat × Nat))} {V : Mem} (hL : L.length ≤ 16) (hG : ∀ x, x ∈ L → lwG x) (hc : (cds L).length ≤ 400) (h174 : V 174 0 = nI L.length) (hl : ∀ l, l < L.length → V 175 l = nI (lrow L l).1 ∧ V 176 l = nI (lst L l) ∧ V 177 l = nI (lst L l + (lrow L l).2.1.length) ∧ V 178 l = nI (lst L l + (lrow L l).2.1.length + (lrow L l).2.2.length)) (ho : ∀ j, j < (cds L).length → V 179 j = nI ((cds L).getD j (0, 0)).1 ∧ V 180 j = nI ((cds L).getD j (0, 0)).2) : WFl V := by
  refine ⟨L.length, hL, h174, fun l hlt => ?_⟩
  obtain ⟨a1, a2, a3, a4⟩ := hl l hlt
  have g : lwG (lrow L l) := hG _ (getD_mem _ hlt)
  have hn := cds_len hlt
  have h1 := tyk_ne g.2.1
  refine ⟨?_, lst L l, lst L l + (lrow L l).2.1.length, lst L l + (lrow L l).2.1.length + (lrow L l).2.2.length, by omega, by omega, by omega, a2, a3, a4, ?_, fun hb => ?_⟩
  · rw [a1]
    have : (lrow L l).1 = 0 ∨ (lrow L l).1 = 1 ∨ (lrow L l).1 = 2 := by have := g.1; omega
    rcases this with e | e | e
    · rw [e]; exact Or.inl rfl
    · rw [e]; exact Or.inr (Or.inl rfl)
    · rw [e]; exact Or.inr (Or.inr rfl)
  · rw [show lst L l + (lrow L l).2.1.length - lst L l = (lrow L l).2.1.length by omega, kRun_kL]
    · exact g.2.1 _ _
    · intro t ht
      rw [← cds_1 hlt ht]
      exact ho _ (by omega)
  · rw [show lst L l + (lrow L l).2.1.length + (lrow L l).2.2.length - (lst L l + (lrow L l).2.1.length) = (lrow L l).2.2.length by omega, kRun_kL]
    · rcases g.2.2 with e | e
      · rw [e] at hb; simp at hb
      · exact e _ _
    · intro t ht
      rw [← cds_2 hlt ht]
      exact ho _ (by omega)
