/-! THE INVARIANT. V is a view of the reference: V 166 its numbers, V 167 its row 'now', V 170 faith, V 171 the book, V 174 .. V 180 the law, V 182 the sky, V 183 the deeds, V 184 the tenets, V 187 and V 188 the builds; the present: V = M; a row of the past, the image: as they are laid in rows and images -/
def dset (f : Nat → Int32) : Nat → Int32
  | 0 => 0
  | k + 1 => if f k = 1 then dset f k ||| ((1 : Int32) <<< (nI k &&& 31)) else dset f k
def cnt (f : Nat → Bool) : Nat → Nat
  | 0 => 0
  | k + 1 => cnt f k + (if f k then 1 else 0)
/-- numbers of a world: pillars, saints, how many on the ground, and the bounds of what the row holds -/
def WFa (V : Mem) (P N g : Nat) : Prop :=
  (V 166 6 = nI P ∧ V 166 7 = nI N ∧ V 167 6 = nI g ∧ P ≤ 10 ∧ N ≤ 14 ∧ g ≤ 14) ∧
  (∃ n, n ≤ 150 ∧ V 167 2 = nI n) ∧
  (∀ p, p < P → ∃ a, a ≤ N ∧ V 167 (73 + p) = nI a) ∧
  (∀ p, p < P → ∃ a, 1 ≤ a ∧ a ≤ 99 ∧ V 167 (63 + p) = nI a) ∧
  (∀ k, k < g → ∃ a, a < N ∧ V 167 (93 + k) = nI a) ∧
  (∀ t, t < N → -99 ≤ (V 167 (21 + t)).toInt ∧ (V 167 (21 + t)).toInt ≤ 99) ∧
  (∀ t, t < 14 → V 167 (49 + t) = 0 ∨ V 167 (49 + t) = 1) ∧
  (∀ t, N ≤ t → t < 14 → V 167 (49 + t) = 0) ∧
  (P = 0 → V 167 83 = 0)
/-- who lives is on one pillar or at one place of the ground, who is dead nowhere -/
def WFb (V : Mem) (P N g : Nat) : Prop :=
  (∀ t, t < N → V 167 (49 + t) = 0 → (∃ p, p < P ∧ V 167 (73 + p) = nI (t + 1)) ∨ (∃ k, k < g ∧ V 167 (93 + k) = nI t)) ∧
  (∀ p q, p < P → q < P → V 167 (73 + p) = V 167 (73 + q) → V 167 (73 + p) ≠ 0 → p = q) ∧
  (∀ p k, p < P → k < g → V 167 (73 + p) ≠ V 167 (93 + k) + 1) ∧
  (∀ j k, j < g → k < g → V 167 (93 + j) = V 167 (93 + k) → j = k) ∧
  (∀ p t, p < P → t < N → V 167 (73 + p) = nI (t + 1) → V 167 (49 + t) = 0) ∧
  (∀ k t, k < g → t < N → V 167 (93 + k) = nI t → V 167 (49 + t) = 0) ∧
  g + cnt (fun p => decide (V 167 (73 + p) ≠ 0)) P + cnt (fun t => decide (V 167 (49 + t) = 1)) N = N
/-- all have climbed: nobody waits on the ground below an empty pillar -/
def WFz (V : Mem) (P : Nat) : Prop := ∀ p, p < P → V 167 (73 + p) = 0 → V 167 6 = 0
def WFw (V : Mem) : Prop := ∃ P N g : Nat, WFa V P N g ∧ WFb V P N g ∧ WFz V P
/-- the world at cell w of the class, and the row -/
def CWn (w : Nat) (V M : Mem) : Prop :=
  M w 10 = V 166 6 ∧ M w 11 = V 166 7 ∧ M w 15 = V 167 0 ∧ M w 17 = V 167 1 ∧ M w 18 = V 167 2 ∧ M w 13 = V 167 3 ∧ M w 16 = V 167 4 ∧ M w 14 = V 167 5 ∧ M w 9 = V 167 6 ∧ M w 12 = dset (fun t => V 167 (49 + t)) 14
def CWt (w : Nat) (V M : Mem) : Prop := ∀ t, t < 14 → M (w + 4) t = V 167 (7 + t) ∧ M (w + 5) t = V 170 t ∧ M (w + 6) t = V 167 (21 + t) ∧ M (w + 7) t = V 167 (35 + t) ∧ M (w + 8) t = V 167 (93 + t)
def CWp (w : Nat) (V M : Mem) : Prop := ∀ p, p < 10 → M (w + 1) p = V 167 (63 + p) ∧ M (w + 2) p = V 167 (73 + p) - 1 ∧ M (w + 3) p = V 167 (83 + p) - 100
def CW (w : Nat) (V M : Mem) : Prop := CWn w V M ∧ CWt w V M ∧ CWp w V M
/-- THE LAW: a code of the class, and an operation of the reference with its argument -/
def cRel (x o a : Int32) : Prop :=
  (o = 0 ∧ x = a ∧ ∃ n, n ≤ 9999 ∧ a = nI n) ∨ (o = 1 ∧ ∃ k, k < 9 ∧ a = nI k ∧ x = -107 - nI k) ∨ (o = 2 ∧ x = -1) ∨ (o = 3 ∧ x = -2) ∨ (o = 4 ∧ x = -3) ∨ (o = 5 ∧ x = -4) ∨ (o = 6 ∧ x = -5) ∨ (o = 7 ∧ x = -6) ∨ (o = 8 ∧ x = -7) ∨ (o = 9 ∧ x = -10) ∨ (o = 10 ∧ x = -8) ∨ (o = 11 ∧ x = -9)
/-- the kinds on the stack (true: a truth) behind a code; none: it can't be run; a quotient needs the number ahead of it -/
def kStep (o prev a : Int32) (st : List Bool) : Option (List Bool) :=
  if o = 0 ∨ o = 1 then (if st.length < 30 then some (false :: st) else none)
  else match st with
    | [] => none
    | [x] => if o = 9 ∧ x = true then some [true] else none
    | x :: y :: r =>
      if o = 9 then (if x = true then some (true :: y :: r) else none)
      else if o = 2 ∨ o = 3 ∨ o = 4 then (if x = false ∧ y = false then some (false :: r) else none)
      else if o = 5 then (if x = false ∧ y = false ∧ prev = 0 ∧ a ≠ 0 then some (false :: r) else none)
      else if o = 6 ∨ o = 7 ∨ o = 8 then (if x = false ∧ y = false then some (true :: r) else none)
      else if o = 10 ∨ o = 11 then (if x = true ∧ y = true then some (true :: r) else none)
      else none
/-- from place i, k codes on: op, arg by their places; the argument of the code ahead tells a divisor -/
def kRun (op ar : Nat → Int32) : Nat → Nat → List Bool → Option (List Bool)
  | _, 0, st => some st
  | i, k + 1, st => match kStep (op i) (op (i - 1)) (ar (i - 1)) st with
    | none => none
    | some st2 => kRun op ar (i + 1) k st2
def WFl (V : Mem) : Prop := ∃ n, n ≤ 16 ∧ V 174 0 = nI n ∧ ∀ l, l < n → (V 175 l = 0 ∨ V 175 l = 1 ∨ V 175 l = 2) ∧ ∃ a b c : Nat, a < b ∧ b ≤ c ∧ c ≤ 400 ∧ V 176 l = nI a ∧ V 177 l = nI b ∧ V 178 l = nI c ∧ kRun (V 179) (V 180) a (b - a) [] = some [false] ∧ (b < c → kRun (V 179) (V 180) b (c - b) [] = some [true])
def CL (d : Nat) (V M : Mem) : Prop := M d 7 = V 174 0 ∧ (∀ l, l < 16 → nI l < V 174 0 → M (d + 2) l = V 175 l ∧ M (d + 3) l = V 176 l ∧ M (d + 4) l = V 177 l ∧ M (d + 5) l = V 178 l ∧ ∀ i, i < 400 → V 176 l ≤ nI i → nI i < V 178 l → cRel (M (d + 1) i) (V 179 i) (V 180 i))
def WFs (V : Mem) : Prop := ∃ n, n ≤ 16 ∧ V 166 33 = nI n
def CS (d : Nat) (V M : Mem) : Prop := M d 2 = V 166 33 ∧ ∀ l, l < 16 → nI l < V 166 33 → M (d + 1) l = V 182 (2 * l) ∧ M (d + 2) l = V 182 (2 * l + 1)
/-- THE PLAN: day, deed, who or how many, how tall -/
def WFp (V : Mem) (P N : Nat) : Prop := ∃ n, n ≤ 16 ∧ V 166 35 = nI n ∧ ∀ l, l < n → ∃ w a : Nat, w ≤ 4 ∧ V 183 (4 * l + 1) = nI w ∧ V 183 (4 * l + 2) = nI a ∧ (w = 2 ∨ w = 4 → a < N) ∧ (w = 3 → a < P ∧ ∃ h, 1 ≤ h ∧ h ≤ 99 ∧ V 183 (4 * l + 3) = nI h)
def CP (d : Nat) (V M : Mem) : Prop := M d 4 = V 166 35 ∧ ∀ l, l < 16 → nI l < V 166 35 → M (d + 1) l = V 183 (4 * l) ∧ M (d + 2) l = V 183 (4 * l + 1) + 1 ∧ ((V 183 (4 * l + 1) = 0 ∨ V 183 (4 * l + 1) = 1) → M (d + 4) l = V 183 (4 * l + 2)) ∧ ((V 183 (4 * l + 1) = 2 ∨ V 183 (4 * l + 1) = 3 ∨ V 183 (4 * l + 1) = 4) → M (d + 3) l = V 183 (4 * l + 2)) ∧ (V 183 (4 * l + 1) = 3 → M (d + 4) l = V 183 (4 * l + 3))
def WFt (V : Mem) : Prop := ∃ n, n ≤ 16 ∧ V 166 37 = nI n ∧ ∀ l, l < n → ∃ a b : Nat, 0 < a ∧ a < 65536 ∧ b < 16 ∧ V 184 (2 * l) = nI a ∧ V 184 (2 * l + 1) = nI b
def CT (d : Nat) (V M : Mem) : Prop := M d 2 = V 166 37 ∧ ∀ l, l < 16 → nI l < V 166 37 → M (d + 1) l = V 184 (2 * l) ∧ M (d + 2) l = (1 : Int32) <<< (V 184 (2 * l + 1) &&& 31)
def WFy (V : Mem) : Prop := ∃ n, n ≤ 7 ∧ V 166 41 = nI n ∧ ∀ l, l < n → ∃ a b : Nat, 1 ≤ a ∧ a ≤ 30 ∧ 1 ≤ b ∧ b ≤ 30 ∧ V 187 l = nI a ∧ V 188 l = nI b
def CY (d : Nat) (V M : Mem) : Prop := M d 3 = V 166 41 ∧ ∀ l, l < 7 → nI l < V 166 41 → M (d + 1) l = V 187 l ∧ M (d + 2) l = V 188 l
/-- all that THE IMAGE keeps: a Desert at cell d of the class, and the view -/
def DR (d : Nat) (V M : Mem) : Prop := CW (d + 1) V M ∧ CL (d + 11) V M ∧ CS (d + 18) V M ∧ CP (d + 21) V M ∧ CT (d + 26) V M ∧ CY (d + 29) V M ∧ ∀ i, i < 600 → M (d + 10) i = V 171 i
def VW (V : Mem) : Prop := (∃ P N g : Nat, WFa V P N g ∧ WFb V P N g ∧ WFp V P N ∧ WFz V P) ∧ WFl V ∧ WFs V ∧ WFt V ∧ WFy V
/-- a row of the past, as a view -/
def rowV (k : Nat) (M : Mem) : Mem := fun c i => if c = 167 then M 168 (107 * k + i) else M c i
/-- the image, as a view -/
def imgV (M : Mem) : Mem := fun c i =>
  if c = 167 then M 191 i
  else if c = 166 then (if i = 6 then M 191 107 else if i = 7 then M 191 108 else if i = 33 then M 191 109 else if i = 35 then M 191 110 else if i = 37 then M 191 111 else if i = 41 then M 191 112 else 0)
  else if c = 170 then M 191 (113 + i)
  else if c = 187 then M 191 (127 + 2 * i)
  else if c = 188 then M 191 (128 + 2 * i)
  else if c = 182 then M 191 (141 + 2 * i)
  else if c = 184 then M 191 (142 + 2 * i)
  else if c = 183 then M 191 (205 + i)
  else if c = 171 then M 191 (269 + i)
  else if c = 174 then M 191 869
  else if c = 175 then M 191 (870 + 4 * i)
  else if c = 176 then M 191 (871 + 4 * i)
  else if c = 177 then M 191 (872 + 4 * i)
  else if c = 178 then M 191 (873 + 4 * i)
  else if c = 179 then M 191 (934 + 2 * i)
  else if c = 180 then M 191 (935 + 2 * i)
  else 0
/-- the past: how many rows; where the class keeps each; each as it was -/
def IP (M : Mem) : Prop := ∃ n, n ≤ 6 ∧ M 166 3 = nI n ∧ M 77 1 = nI n ∧ ∃ σ : Nat → Nat, (∀ k, k < 6 → σ k < 6 ∧ M 78 k = nI (79 + 10 * σ k)) ∧ (∀ j k, j < 6 → k < 6 → σ j = σ k → j = k) ∧ ∀ k, k < n → WFw (rowV k M) ∧ CW (79 + 10 * σ k) (rowV k M) M
def IT (M : Mem) : Prop := (∃ n, n ≤ 400 ∧ M 0 7 = nI n ∧ M 166 11 = nI n ∧ ∀ i, i < n → ∃ b, b < 256 ∧ M 172 i = nI b ∧ M 165 i = (nI b).toInt8.toInt32) ∧ M 139 10 = M 166 31 ∧ M 139 11 = M 166 32
def xWords : List Int32 := [32, 101, 97, 116, 115, 32, 100, 105, 101, 115, 32, 108, 101, 97, 110, 115, 32, 119, 104, 101, 110, 32, 111, 114, 32, 97, 110, 100, 32, 110, 111, 116, 32, 97, 103, 101, 32, 102, 97, 105, 116, 104, 32, 100, 111, 99, 116, 114, 105, 110, 101, 32, 104, 117, 110, 103, 101, 114, 32, 112, 108, 97, 99, 101, 32, 116, 97, 108, 108, 32, 119, 101, 97, 116, 104, 101, 114, 32, 97, 98, 111, 118, 101, 32, 100, 97, 121, 32, 105, 115, 32, 111, 110, 32, 108, 111, 97, 118, 101, 115, 32, 115, 97, 121, 32, 100, 111, 119, 110, 32, 98, 117, 105, 108, 100, 32, 99, 117, 114, 115, 101, 32, 115, 111, 32]
def IX (M : Mem) : Prop := (∀ i, i < 125 → M 173 i = xWords.getD i 0) ∧ M 166 5 = 0
def II (M : Mem) : Prop := M 0 8 = M 166 47 ∧ (M 0 8 = 0 ∨ (M 0 8 = 1 ∧ VW (imgV M) ∧ DR 34 (imgV M) M))
def Inv (M : Mem) : Prop := VW M ∧ DR 1 M M ∧ IP M ∧ IT M ∧ IX M ∧ II M
