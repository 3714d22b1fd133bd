/-! the pure parser of a line of THE LAW: a code is a pair, operation and argument of the reference -/
def untP (T V : Nat → Nat) (i : Nat) : Option (Nat × Nat) := if T i = 2 ∧ 7 ≤ V i ∧ V i ≤ 15 then some (1, V i - 7) else if T i = 3 then some (0, V i) else none
def pdw (w : Nat) (acc : List (Nat × Nat)) : List (Nat × Nat) := if w = 0 then acc else acc ++ [(w, 0)]
def wn (w : Nat) : Nat := if w = 0 then 0 else 1
def sumL (T V : Nat → Nat) : Nat → Nat → Nat → List (Nat × Nat) → Except (Nat × Nat) (List (Nat × Nat) × Nat)
  | 0, _, _, _ => .error (0, 0)
  | r + 1, i, w, acc =>
    if T i = 4 ∧ V i = 42 then
      match untP T V (i + 1) with
      | none => .error (1, i + 1)
      | some u => sumL T V r (i + 2) w (acc ++ [u, (4, 0)])
    else if T i = 4 ∧ V i = 47 then
      if T (i + 1) = 3 then
        if V (i + 1) = 0 then .error (2, i + 1) else sumL T V r (i + 2) w (acc ++ [(0, V (i + 1)), (5, 0)])
      else .error (1, i + 1)
    else if T i = 4 ∧ (V i = 43 ∨ V i = 45) then
      match untP T V (i + 1) with
      | none => .error (1, i + 1)
      | some u => sumL T V r (i + 2) (if V i = 43 then 2 else 3) (pdw w acc ++ [u])
    else .ok (pdw w acc, i)
def sumP (T V : Nat → Nat) (i : Nat) : Except (Nat × Nat) (List (Nat × Nat) × Nat) := match untP T V i with
  | none => .error (1, i)
  | some u => sumL T V 400 (i + 1) 0 [u]
def pdo (w : Bool) (acc : List (Nat × Nat)) : List (Nat × Nat) := if w = true then acc ++ [(11, 0)] else acc
def condL (cmp : Nat → Except (Nat × Nat) (List (Nat × Nat) × Nat)) (T V : Nat → Nat) : Nat → Bool → Nat → List (Nat × Nat) → Except (Nat × Nat) (List (Nat × Nat) × Nat)
  | 0, _, _, _ => .error (0, 0)
  | r + 1, w, i, acc =>
    if T i = 2 ∧ V i = 5 then
      match cmp (i + 1) with
      | .error e => .error e
      | .ok (c, j) => condL cmp T V r w j (acc ++ c ++ [(10, 0)])
    else if T i = 2 ∧ V i = 4 then
      match cmp (i + 1) with
      | .error e => .error e
      | .ok (c, j) => condL cmp T V r true j (pdo w acc ++ c)
    else .ok (pdo w acc, i)
def condB (cmp : Nat → Except (Nat × Nat) (List (Nat × Nat) × Nat)) (T V : Nat → Nat) (i : Nat) : Except (Nat × Nat) (List (Nat × Nat) × Nat) := match cmp i with
  | .error e => .error e
  | .ok (c, j) => condL cmp T V 400 false j c
def cmpS (T V : Nat → Nat) (i : Nat) : Except (Nat × Nat) (List (Nat × Nat) × Nat) := match sumP T V i with
  | .error e => .error e
  | .ok (c, j) => if T j = 4 ∧ (V j = 60 ∨ V j = 61 ∨ V j = 62) then (match sumP T V (j + 1) with
    | .error e => .error e
    | .ok (d, k) => .ok (c ++ d ++ [(V j - 54, 0)], k)) else .error (1, j)
def cmpB (cond cmp : Nat → Nat → Except (Nat × Nat) (List (Nat × Nat) × Nat)) (T V : Nat → Nat) (o i : Nat) : Except (Nat × Nat) (List (Nat × Nat) × Nat) :=
  if T i = 2 ∧ V i = 6 then
    if o < 8 then (match cmp (o + 1) (i + 1) with
      | .error e => .error e
      | .ok (c, j) => .ok (c ++ [(9, 0)], j)) else .error (3, i)
  else if T i = 4 ∧ V i = 40 then
    if o < 8 then (match cond (o + 1) (i + 1) with
      | .error e => .error e
      | .ok (c, j) => if T j = 4 ∧ V j = 41 then .ok (c, j + 1) else .error (1, j)) else .error (3, i)
  else cmpS T V i
def pCC (T V : Nat → Nat) : Nat → ((Nat → Nat → Except (Nat × Nat) (List (Nat × Nat) × Nat)) × (Nat → Nat → Except (Nat × Nat) (List (Nat × Nat) × Nat)))
  | 0 => (fun _ _ => .error (0, 0), fun _ _ => .error (0, 0))
  | n + 1 => (fun o i => condB ((pCC T V n).2 o) T V i, cmpB (pCC T V n).1 (pCC T V n).2 T V)
def lawE (T V : Nat → Nat) (w : Nat) (c d : List (Nat × Nat)) (k : Nat) : Except (Nat × Nat) ((Nat × List (Nat × Nat) × List (Nat × Nat)) × Nat) := if T k = 4 ∧ V k = 59 then .ok ((w, c, d), k + 1) else .error (1, k)
def lawP (T V : Nat → Nat) (l i : Nat) : Except (Nat × Nat) ((Nat × List (Nat × Nat) × List (Nat × Nat)) × Nat) :=
  if T i = 2 ∧ V i ≤ 2 then
    if l < 16 then
      match sumP T V (i + 1) with
      | .error e => .error e
      | .ok (c, j) =>
        if T j = 2 ∧ V j = 3 then
          match (pCC T V 20).1 0 (j + 1) with
          | .error e => .error e
          | .ok (d, k) => lawE T V (V i) c d k
        else lawE T V (V i) c [] j
    else .error (3, i)
  else .error (1, i)
/-! the kinds: a sum leaves a number, a condition a truth -/
def kL : Int32 → Int32 → List (Nat × Nat) → List Bool → Option (List Bool)
  | _, _, [], st => some st
  | po, pa, c :: cs, st => match kStep (nI c.1) po pa st with
    | none => none
    | some st2 => kL (nI c.1) (nI c.2) cs st2
def tyk (st : List Bool) (cs : List (Nat × Nat)) (st2 : List Bool) : Prop := ∀ po pa, kL po pa cs st = some st2
theorem kL_app {ds : List (Nat × Nat)} {st2 : List Bool} : ∀ (cs : List (Nat × Nat)) (po pa : Int32) (st st1 : List Bool), kL po pa cs st = some st1 → tyk st1 ds st2 → kL po pa (cs ++ ds) st = some st2
  | [], po, pa, st, st1, h, h2 => by
    have : st = st1 := Option.some.inj h
    rw [this]
    exact h2 po pa
  | c :: cs, po, pa, st, st1, h, h2 => by
    show (match kStep (nI c.1) po pa st with
    | none => none
    | some st2 => kL (nI c.1) (nI c.2) (cs ++ ds) st2) = _
    unfold kL at h
    cases hk : kStep (nI c.1) po pa st with
    | none => rw [hk] at h; cases h
    | some s => rw [hk] at h; exact kL_app cs _ _ _ _ h h2
theorem tyk.app {st st1 st2 : List Bool} {cs ds : List (Nat × Nat)} (h : tyk st cs st1) (h2 : tyk st1 ds st2) : tyk st (cs ++ ds) st2 := fun po pa => kL_app cs po pa st st1 (h po pa) h2
theorem tyk_one {st st2 : List Bool} {c : Nat × Nat} (h : ∀ po pa, kStep (nI c.1) po pa st = some st2) : tyk st [c] st2 := fun po pa => by
  unfold kL
  rw [h po pa]
  rfl
theorem tyk_u {T V : Nat → Nat} {i : Nat} {u : Nat × Nat} {st : List Bool} (h : untP T V i = some u) (hs : st.length < 30) : tyk st [u] (false :: st) := by
  refine tyk_one (fun po pa => ?_)
  have hu : nI u.1 = 0 ∨ nI u.1 = 1 := by
    unfold untP at h
    split at h
    · rw [← Option.some.inj h]; exact Or.inr rfl
    · split at h
      · rw [← Option.some.inj h]; exact Or.inl rfl
      · cases h
  unfold kStep
  rw [if_pos hu, if_pos hs]
theorem tyk_ar {o : Nat} {st : List Bool} (h : o = 2 ∨ o = 3 ∨ o = 4) : tyk (false :: false :: st) [(o, 0)] (false :: st) := tyk_one (fun po pa => by
  have h2 : nI o = 2 ∨ nI o = 3 ∨ nI o = 4 := by rcases h with rfl | rfl | rfl <;> decide
  have h3 : ¬ (nI o = 0 ∨ nI o = 1) := by rcases h with rfl | rfl | rfl <;> decide
  have h4 : ¬ nI o = 9 := by rcases h with rfl | rfl | rfl <;> decide
  show kStep (nI o) po pa _ = _
  unfold kStep
  rw [if_neg h3]
  show (if nI o = 9 then _ else _) = _
  rw [if_neg h4, if_pos h2, if_pos ⟨rfl, rfl⟩])
theorem tyk_cm {o : Nat} {st : List Bool} (h : o = 6 ∨ o = 7 ∨ o = 8) : tyk (false :: false :: st) [(o, 0)] (true :: st) := tyk_one (fun po pa => by
  have h2 : nI o = 6 ∨ nI o = 7 ∨ nI o = 8 := by rcases h with rfl | rfl | rfl <;> decide
  have h3 : ¬ (nI o = 0 ∨ nI o = 1) := by rcases h with rfl | rfl | rfl <;> decide
  have h4 : ¬ nI o = 9 := by rcases h with rfl | rfl | rfl <;> decide
  have h5 : ¬ (nI o = 2 ∨ nI o = 3 ∨ nI o = 4) := by rcases h with rfl | rfl | rfl <;> decide
  have h6 : ¬ nI o = 5 := by rcases h with rfl | rfl | rfl <;> decide
  show kStep (nI o) po pa _ = _
  unfold kStep
  rw [if_neg h3]
  show (if nI o = 9 then _ else _) = _
  rw [if_neg h4, if_neg h5, if_neg h6, if_pos h2, if_pos ⟨rfl, rfl⟩])
theorem tyk_bo {o : Nat} {st : List Bool} (h : o = 10 ∨ o = 11) : tyk (true :: true :: st) [(o, 0)] (true :: st) := tyk_one (fun po pa => by
  have h2 : nI o = 10 ∨ nI o = 11 := by rcases h with rfl | rfl <;> decide
  have h3 : ¬ (nI o = 0 ∨ nI o = 1) := by rcases h with rfl | rfl <;> decide
  have h4 : ¬ nI o = 9 := by rcases h with rfl | rfl <;> decide
  have h5 : ¬ (nI o = 2 ∨ nI o = 3 ∨ nI o = 4) := by rcases h with rfl | rfl <;> decide
  have h6 : ¬ nI o = 5 := by rcases h with rfl | rfl <;> decide
  have h7 : ¬ (nI o = 6 ∨ nI o = 7 ∨ nI o = 8) := by rcases h with rfl | rfl <;> decide
  show kStep (nI o) po pa _ = _
  unfold kStep
  rw [if_neg h3]
  show (if nI o = 9 then _ else _) = _
  rw [if_neg h4, if_neg h5, if_neg h6, if_neg h7, if_pos h2, if_pos ⟨rfl, rfl⟩])
theorem tyk_no {st : List Bool} : tyk (true :: st) [(9, 0)] (true :: st) := tyk_one (fun po pa => by
  show kStep (nI 9) po pa _ = _
  unfold kStep
  rw [if_neg (show ¬ (nI 9 = 0 ∨ nI 9 = 1) by decide)]
  cases st with
  | nil => show (if nI 9 = 9 ∧ true = true then _ else _) = _; rw [if_pos ⟨rfl, rfl⟩]
  | cons y r => show (if nI 9 = 9 then _ else _) = _; rw [if_pos (show nI 9 = 9 from rfl)]; rfl)
theorem tyk_dv {v : Nat} {st : List Bool} (h0 : ¬ v = 0) (hv : v < 10000) (hs : st.length < 29) : tyk (false :: st) [(0, v), (5, 0)] (false :: st) := fun po pa => by
  unfold kL
  have e1 : kStep (nI 0) po pa (false :: st) = some (false :: false :: st) := by
    unfold kStep
    rw [if_pos (show nI 0 = 0 ∨ nI 0 = 1 from Or.inl rfl), if_pos (show (false :: st).length < 30 by rw [List.length_cons]; omega)]
  show (match kStep (nI 0) po pa (false :: st) with
    | none => none
    | some st2 => kL (nI 0) (nI v) [(5, 0)] st2) = _
  rw [e1]
  show kL (nI 0) (nI v) [(5, 0)] (false :: false :: st) = _
  unfold kL
  have e2 : kStep (nI 5) (nI 0) (nI v) (false :: false :: st) = some (false :: st) := by
    unfold kStep
    rw [if_neg (show ¬ (nI 5 = 0 ∨ nI 5 = 1) by decide)]
    show (if nI 5 = 9 then _ else _) = _
    rw [if_neg (show ¬ nI 5 = 9 by decide), if_neg (show ¬ (nI 5 = 2 ∨ nI 5 = 3 ∨ nI 5 = 4) by decide), if_pos (show nI 5 = 5 from rfl), if_pos ⟨rfl, rfl, rfl, nI_ne0 (by omega) (by omega)⟩]
  show (match kStep (nI 5) (nI 0) (nI v) (false :: false :: st) with
    | none => none
    | some st2 => kL (nI 5) (nI 0) [] st2) = _
  rw [e2]
  rfl
def stW (w : Nat) (st : List Bool) : List Bool := if w = 0 then false :: st else false :: false :: st
theorem tyk_pdw {w : Nat} {st : List Bool} {acc : List (Nat × Nat)} (hw : w = 0 ∨ w = 2 ∨ w = 3) (h : tyk st acc (stW w st)) : tyk st (pdw w acc) (false :: st) := by
  unfold pdw
  unfold stW at h
  split
  · next e => rwa [if_pos e] at h
  · next e =>
    rw [if_neg e] at h
    exact h.app (tyk_ar (by omega))
theorem pdw_len (w : Nat) (acc : List (Nat × Nat)) : (pdw w acc).length = acc.length + wn w := by
  unfold pdw wn
  split
  · rfl
  · simp
theorem sumL_ty {T V : Nat → Nat} (hV : ∀ i, T i = 3 → V i < 10000) : ∀ (r i w : Nat) (acc cs : List (Nat × Nat)) (j : Nat) (st : List Bool), sumL T V r i w acc = .ok (cs, j) → (w = 0 ∨ w = 2 ∨ w = 3) → st.length ≤ 26 → tyk st acc (stW w st) → tyk st cs (false :: st) ∧ i ≤ j ∧ cs.length + i ≤ acc.length + wn w + j
  | 0, _, _, _, _, _, _, h, _, _, _ => by cases h
  | r + 1, i, w, acc, cs, j, st, h, hw, hs, ht => by
    have hl : (stW w st).length ≤ 28 := by unfold stW; split <;> simp <;> omega
    have hc : ∃ st', stW w st = false :: st' ∧ st'.length ≤ 27 := by
      unfold stW
      split
      · exact ⟨st, rfl, by omega⟩
      · exact ⟨false :: st, rfl, by rw [List.length_cons]; omega⟩
    obtain ⟨st', e', l'⟩ := hc
    unfold sumL at h
    split at h
    · split at h
      · cases h
      · next u hu =>
        have t1 : tyk st (acc ++ [u, (4, 0)]) (stW w st) := by
          rw [show acc ++ [u, (4, 0)] = acc ++ ([u] ++ [(4, 0)]) from rfl]
          refine ht.app ((tyk_u hu (by omega)).app ?_)
          rw [e']
          exact tyk_ar (by omega)
        obtain ⟨a1, a2, a3⟩ := sumL_ty hV r (i + 2) w _ cs j st h hw hs t1
        rw [List.length_append] at a3
        simp only [List.length_cons, List.length_nil] at a3
        exact ⟨a1, by omega, by omega⟩
    · split at h
      · split at h
        · next h3 =>
          split at h
          · cases h
          · next h0 =>
            have t1 : tyk st (acc ++ [(0, V (i + 1)), (5, 0)]) (stW w st) := by
              refine ht.app ?_
              rw [e']
              exact tyk_dv h0 (hV _ h3) (by omega)
            obtain ⟨a1, a2, a3⟩ := sumL_ty hV r (i + 2) w _ cs j st h hw hs t1
            rw [List.length_append] at a3
            simp only [List.length_cons, List.length_nil] at a3
            exact ⟨a1, by omega, by omega⟩
        · cases h
      · split at h
        · split at h
          · cases h
          · next u hu =>
            have t0 := tyk_pdw hw ht
            have hw2 : (if V i = 43 then 2 else 3 : Nat) = 2 ∨ (if V i = 43 then 2 else 3 : Nat) = 3 := by split <;> omega
            have e2 : stW (if V i = 43 then 2 else 3) st = false :: false :: st := by unfold stW; rw [if_neg (by omega)]
            have e3 : wn (if V i = 43 then 2 else 3) = 1 := by unfold wn; rw [if_neg (by omega)]
            have t1 : tyk st (pdw w acc ++ [u]) (stW (if V i = 43 then 2 else 3) st) := by
              rw [e2]
              exact t0.app (tyk_u hu (by rw [List.length_cons]; omega))
            obtain ⟨a1, a2, a3⟩ := sumL_ty hV r (i + 2) _ _ cs j st h (by omega) hs t1
            rw [List.length_append, pdw_len, e3] at a3
            simp only [List.length_cons, List.length_nil] at a3
            exact ⟨a1, by omega, by omega⟩
        · have h2 := Except.ok.inj h
          have h3 : pdw w acc = cs := congrArg Prod.fst h2
          have h4 : i = j := congrArg Prod.snd h2
          rw [← h3, ← h4, pdw_len]
          exact ⟨tyk_pdw hw ht, by omega, by omega⟩
theorem sumP_ty {T V : Nat → Nat} (hV : ∀ i, T i = 3 → V i < 10000) {i : Nat} {cs : List (Nat × Nat)} {j : Nat} (st : List Bool) (h : sumP T V i = .ok (cs, j)) (hs : st.length ≤ 26) : tyk st cs (false :: st) ∧ i < j ∧ cs.length + i ≤ j := by
  unfold sumP at h
  split at h
  · cases h
  · next u hu =>
    obtain ⟨a1, a2, a3⟩ := sumL_ty hV 400 (i + 1) 0 [u] cs j st h (Or.inl rfl) hs (tyk_u hu (by omega))
    simp only [List.length_cons, List.length_nil, wn] at a3
    exact ⟨a1, by omega, by simp at a3; omega⟩
def stO (w : Bool) (st : List Bool) : List Bool := if w = true then true :: true :: st else true :: st
def wb (w : Bool) : Nat := if w = true then 1 else 0
theorem pdo_len (w : Bool) (acc : List (Nat × Nat)) : (pdo w acc).length = acc.length + wb w := by
  unfold pdo wb
  split
  · simp
  · rfl
theorem tyk_pdo {w : Bool} {st : List Bool} {acc : List (Nat × Nat)} (h : tyk st acc (stO w st)) : tyk st (pdo w acc) (true :: st) := by
  unfold pdo
  unfold stO at h
  split
  · next e =>
    rw [if_pos e] at h
    exact h.app (tyk_bo (by omega))
  · next e => rwa [if_neg e] at h
theorem condL_ty {cmp : Nat → Except (Nat × Nat) (List (Nat × Nat) × Nat)} {T V : Nat → Nat} {o : Nat} (hc : ∀ i cs j st, cmp i = .ok (cs, j) → st.length ≤ 2 * o + 2 → tyk st cs (true :: st) ∧ i < j ∧ cs.length + i ≤ j) : ∀ (r : Nat) (w : Bool) (i : Nat) (acc cs : List (Nat × Nat)) (j : Nat) (st : List Bool), condL cmp T V r w i acc = .ok (cs, j) → st.length ≤ 2 * o → tyk st acc (stO w st) → tyk st cs (true :: st) ∧ i ≤ j ∧ cs.length + i ≤ acc.length + wb w + j
  | 0, _, _, _, _, _, _, h, _, _ => by cases h
  | r + 1, w, i, acc, cs, j, st, h, hs, ht => by
    unfold condL at h
    split at h
    · split at h
      · cases h
      · next c k hk =>
        have hx : ∃ st', stO w st = true :: st' ∧ st'.length ≤ 2 * o + 1 := by
          unfold stO
          split
          · exact ⟨true :: st, rfl, by rw [List.length_cons]; omega⟩
          · exact ⟨st, rfl, by omega⟩
        obtain ⟨st', e', l'⟩ := hx
        obtain ⟨b1, b2, b3⟩ := hc (i + 1) c k (stO w st) hk (by rw [e', List.length_cons]; omega)
        have t1 : tyk st (acc ++ c ++ [(10, 0)]) (stO w st) := by
          refine (ht.app b1).app ?_
          rw [e']
          exact tyk_bo (Or.inl rfl)
        obtain ⟨a1, a2, a3⟩ := condL_ty hc r w k _ cs j st h hs t1
        rw [List.length_append, List.length_append] at a3
        simp only [List.length_cons, List.length_nil] at a3
        exact ⟨a1, by omega, by omega⟩
    · split at h
      · split at h
        · cases h
        · next c k hk =>
          have t0 := tyk_pdo ht
          obtain ⟨b1, b2, b3⟩ := hc (i + 1) c k (true :: st) hk (by rw [List.length_cons]; omega)
          obtain ⟨a1, a2, a3⟩ := condL_ty hc r true k _ cs j st h hs (t0.app b1)
          rw [List.length_append, pdo_len] at a3
          have : wb true = 1 := rfl
          exact ⟨a1, by omega, by omega⟩
      · have h2 := Except.ok.inj h
        have h3 : pdo w acc = cs := congrArg Prod.fst h2
        have h4 : i = j := congrArg Prod.snd h2
        rw [← h3, ← h4, pdo_len]
        exact ⟨tyk_pdo ht, by omega, by omega⟩
theorem cmpS_ty {T V : Nat → Nat} (hV : ∀ i, T i = 3 → V i < 10000) {i : Nat} {cs : List (Nat × Nat)} {j : Nat} (st : List Bool) (h : cmpS T V i = .ok (cs, j)) (hs : st.length ≤ 25) : tyk st cs (true :: st) ∧ i < j ∧ cs.length + i ≤ j := by
  unfold cmpS at h
  split at h
  · cases h
  · next c k hk =>
    split at h
    · next hq =>
      split at h
      · cases h
      · next d k2 hk2 =>
        have h2 := Except.ok.inj h
        have h3 : c ++ d ++ [(V k - 54, 0)] = cs := congrArg Prod.fst h2
        have h4 : k2 = j := congrArg Prod.snd h2
        obtain ⟨a1, a2, a3⟩ := sumP_ty hV st hk (by omega)
        obtain ⟨b1, b2, b3⟩ := sumP_ty hV (false :: st) hk2 (by rw [List.length_cons]; omega)
        rw [← h3, ← h4, List.length_append, List.length_append]
        simp only [List.length_cons, List.length_nil]
        exact ⟨(a1.app b1).app (tyk_cm (by omega)), by omega, by omega⟩
    · cases h
theorem pCC_ty {T V : Nat → Nat} (hV : ∀ i, T i = 3 → V i < 10000) : ∀ n : Nat, (∀ o i cs j st, (pCC T V n).1 o i = .ok (cs, j) → o ≤ 8 → st.length ≤ 2 * o → tyk st cs (true :: st) ∧ i < j ∧ cs.length + i ≤ j) ∧ (∀ o i cs j st, (pCC T V n).2 o i = .ok (cs, j) → o ≤ 8 → st.length ≤ 2 * o + 2 → tyk st cs (true :: st) ∧ i < j ∧ cs.length + i ≤ j)
  | 0 => ⟨fun o i cs j st h => (by cases h), fun o i cs j st h => (by cases h)⟩
  | n + 1 => by
    obtain ⟨ih1, ih2⟩ := pCC_ty hV n
    constructor
    · intro o i cs j st h ho hs
      have h : condB ((pCC T V n).2 o) T V i = .ok (cs, j) := h
      unfold condB at h
      split at h
      · cases h
      · next c k hk =>
        obtain ⟨b1, b2, b3⟩ := ih2 o i c k st hk ho (by omega)
        obtain ⟨a1, a2, a3⟩ := condL_ty (o := o) (fun i cs j st h hs => ih2 o i cs j st h ho hs) 400 false k c cs j st h hs b1
        have : wb false = 0 := rfl
        exact ⟨a1, by omega, by omega⟩
    · intro o i cs j st h ho hs
      have h : cmpB (pCC T V n).1 (pCC T V n).2 T V o i = .ok (cs, j) := h
      unfold cmpB at h
      split at h
      · split at h
        · split at h
          · cases h
          · next c k hk =>
            have h2 := Except.ok.inj h
            have h3 : c ++ [(9, 0)] = cs := congrArg Prod.fst h2
            have h4 : k = j := congrArg Prod.snd h2
            obtain ⟨a1, a2, a3⟩ := ih2 (o + 1) (i + 1) c k st hk (by omega) (by omega)
            rw [← h3, ← h4, List.length_append]
            simp only [List.length_cons, List.length_nil]
            exact ⟨a1.app tyk_no, by omega, by omega⟩
        · cases h
      · split at h
        · split at h
          · split at h
            · cases h
            · next c k hk =>
              split at h
              · have h2 := Except.ok.inj h
                have h3 : c = cs := congrArg Prod.fst h2
                have h4 : k + 1 = j := congrArg Prod.snd h2
                obtain ⟨a1, a2, a3⟩ := ih1 (o + 1) (i + 1) c k st hk (by omega) (by omega)
                rw [← h3, ← h4]
                exact ⟨a1, by omega, by omega⟩
              · cases h
          · cases h
        · exact cmpS_ty hV st h (by omega)
