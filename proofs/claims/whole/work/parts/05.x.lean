/-! the abstract memory: a cell's ints by place; a reference is the number of a cell -/
def xu (M : Mem) (c i : Nat) (v : Int32) : Mem := fun a => if a = c then upd (M c) i v else M a
def xuC (M : Mem) (c : Nat) (f : Nat → Int32) : Mem := fun a => if a = c then f else M a
theorem xu_eq (M : Mem) (c i : Nat) (v : Int32) : xu M c i v = xuC M c (upd (M c) i v) := rfl
/-- the tables, the array kinds, the addresses of the cells (a String constant k: at 1000 + k), its bytes: at 2000 + k) -/
abbrev xGt : Type := va_G × (ClassId × ClassId × ClassId) × (Nat → Nat) × Unit
def xad (G : xGt) (c : Nat) : Nat := G.2.2.1 c
def xc (G : xGt) : Value → Value
  | .ref c => .ref (xad G c)
  | v => v
def xl (G : xGt) (q : Nat × Value) : Nat × Value := (q.1, xc G q.2)
theorem xc_cat (G : xGt) (v : Value) : (xc G v).category = v.category := by cases v <;> rfl
def xfv (G : xGt) (c k : Nat) (f : Nat → Int32) (j : Nat) : Value := if xoff k j = 0 then .int (f j) else .ref (xad G (c + xoff k j))
def xent (G : xGt) (c : Nat) (f : Nat → Int32) : va_E :=
  if SHk c = 13 then .inl (G.2.1.1, SHn c, .inl f)
  else if SHk c = 14 then .inl (G.2.1.2.1, SHn c, .inl f)
  else if SHk c = 15 then .inl (G.2.1.2.2, SHn c, .inr (.inr (.inr (.inr (fun j => if f j = 0 then none else some (xad G (f j).toNatClampNeg))))))
  else .inr (SHk c, (List.range (SHn c)).map (xfv G c (SHk c) f))
def xw (G : xGt) (M : Mem) : va_W := (List.range xNC).map fun c => (xad G c, xent G c (M c))
def xA (G : xGt) : Nat → Prop := fun q => ∃ c, c < xNC ∧ q = xad G c
def xD (G : xGt) : Prop := ∀ i j, i < xNC → j < xNC → xad G i = xad G j → i = j
def xT (G : xGt) : List (ClassId × FieldType) := [(G.2.1.1, .int), (G.2.1.2.1, .byte), (G.2.1.2.2, .object "PillarSaints$World")]
theorem xw_get (G : xGt) (M : Mem) {c : Nat} (h : c < xNC) : (xw G M)[c]? = some (xad G c, xent G c (M c)) := by
  unfold xw
  rw [List.getElem?_map, List.getElem?_range h]
  rfl
theorem xw_len (G : xGt) (M : Mem) : (xw G M).length = xNC := by simp [xw]
theorem xw_set (G : xGt) (M : Mem) {c : Nat} (h : c < xNC) (f : Nat → Int32) : (xw G M).set c (xad G c, xent G c f) = xw G (xuC M c f) := by
  apply List.ext_getElem?
  intro i
  rw [List.getElem?_set]
  by_cases hi : i < xNC
  · rw [xw_get G _ hi, xw_len, xw_get G _ hi]
    by_cases e : c = i
    · subst e
      simp [h, xuC]
    · have e' : ¬ i = c := fun q => e q.symm
      simp [e, e', xuC]
  · have h1 : ∀ N : Mem, (xw G N)[i]? = none := fun N => List.getElem?_eq_none (by rw [xw_len]; omega)
    rw [h1, h1]
    have e : ¬ c = i := fun q => hi (q ▸ h)
    simp [e]
theorem xw_key (G : xGt) (M : Mem) {k : Nat} {q : Nat × va_E} (h : (xw G M)[k]? = some q) : k < xNC ∧ q = (xad G k, xent G k (M k)) := by
  have hk : k < xNC := by
    have := (List.getElem?_eq_some_iff.mp h).1
    rwa [xw_len] at this
  rw [xw_get G M hk] at h
  exact ⟨hk, (Option.some.inj h).symm⟩
theorem xw_D {G : xGt} (h : xD G) (M : Mem) : va_D (xA G) (xw G M) := by
  refine ⟨fun i j p q hi hj e => ?_, fun k q hk => ?_⟩
  · obtain ⟨h1, rfl⟩ := xw_key G M hi
    obtain ⟨h2, rfl⟩ := xw_key G M hj
    exact h i j h1 h2 e
  · obtain ⟨h1, rfl⟩ := xw_key G M hk
    exact ⟨k, h1, rfl⟩
/-- the words on private members of nest mates -/
def xN (s : State) : Prop := ∀ (a : String) (i : Nat) (y : MethodName) (h : String), Cond.methodLinkNest a i y h ∈ tables_1 → va_Nw (.methodLinkNest a i y h) s
def xSL : List Nat := [87, 7, 31, 7]
def xSB : List (List Int32) := [[101, 97, 116, 115, 32, 100, 105, 101, 115, 32, 108, 101, 97, 110, 115, 32, 119, 104, 101, 110, 32, 111, 114, 32, 97, 110, 100, 32, 110, 111, 116, 32, 97, 103, 101, 32, 102, 97, 105, 116, 104, 32, 100, 111, 99, 116, 114, 105, 110, 101, 32, 104, 117, 110, 103, 101, 114, 32, 112, 108, 97, 99, 101, 32, 116, 97, 108, 108, 32, 119, 101, 97, 116, 104, 101, 114, 32, 97, 98, 111, 118, 101, 32, 100, 97, 121, 32], [100, 97, 121, 32, 105, 115, 32], [111, 110, 32, 108, 111, 97, 118, 101, 115, 32, 115, 97, 121, 32, 100, 111, 119, 110, 32, 98, 117, 105, 108, 100, 32, 99, 117, 114, 115, 101, 32], [97, 110, 100, 32, 115, 111, 32]]
/-- the String constants, and String's own switch -/
def xStr (G : xGt) (s : State) : Prop :=
  vk_S 4 xSL xSB (fun k => xad G (1000 + k)) (fun k => xad G (2000 + k)) (xA G) s s.heap ∧ va_Z "java/lang/String" "COMPACT_STRINGS" "Z" (.int 1) (xA G) s s.heap ∧
  vk_R "PillarSaints$Reader" 105 "eats dies leans when or and not age faith doctrine hunger place tall weather above day " (xad G 1000) s ∧ vk_R "PillarSaints$Reader" 107 "day is " (xad G 1001) s ∧ vk_R "PillarSaints$Reader" 109 "on loaves say down build curse " (xad G 1002) s ∧ vk_R "PillarSaints$Reader" 111 "and so " (xad G 1003) s ∧ (va_Z "jdk/internal/util/Preconditions" "SIOOBE_FORMATTER" "Ljava/util/function/BiFunction;" .null (xA G) s s.heap ∨ va_Z "jdk/internal/util/Preconditions" "SIOOBE_FORMATTER" "Ljava/util/function/BiFunction;" (.ref (xad G 3000)) (xA G) s s.heap)
def xR (d : Nat) : Room := { frames := d, cells := 0, slots := 0, locals := 48 * d }
def xC (own : String) (cc : ByteArray) (nL : Nat) (rt : Option FieldType) (G : xGt) (p : Program) (s : State) (m : MethodId) (args : Array Value) (meth : Method) (c : Code) : Prop :=
  p.tables.exec = Jvm.exec ∧ c.code = cc ∧ c.maxLocals = nL ∧ meth.sig.returnType = rt ∧ s.vm.findClass own = some m.cls ∧ (∀ w ∈ xTs, w.before args s = true) ∧ meth.locks = false ∧ va_K G.1 vwCl (xT G) s ∧ xD G ∧ xN s ∧ xStr G s
def xX (own : String) (cc : ByteArray) (nL : Nat) (rt : Option FieldType) (d pc : Nat) (L : List (Nat × Value)) (st : List Value) (M : Mem) (Rt : xGt → Array Value → State → Outcome → State → Prop) : Prop :=
  ∀ (G : xGt) (p : Program) (l : Launch) (e : Env) (s : State) (m : MethodId) (a : Array Value) (b : List Frame) (t : Method) (c : Code) (H : Heap) (o : List Loc) (ls : Array Slot),
    xC own cc nL rt G p s m a t c → va_P G.1 vwCl (xw G M) H → va_S (xA G) s.heap H o → lv_has ls nL (L.map (xl G)) →
    W p l e (xR d) s m a b t c H o 0 0 (MQ b (Rt G) a s 0 0 (xA G)) (F0 m pc ls (st.map (xc G)))
def xat : List (Nat × Value) → Nat → Option Value
  | [], _ => none
  | q :: l, i => cond (Nat.beq q.1 i) (some q.2) (xat l i)
theorem xat_mem : ∀ {L : List (Nat × Value)} {i : Nat} {v : Value}, xat L i = some v → (i, v) ∈ L
  | [], _, _, h => by cases h
  | q :: l, i, v, h => by
    unfold xat at h
    cases hb : Nat.beq q.1 i with
    | true =>
      rw [hb] at h
      have h1 : q.2 = v := Option.some.inj h
      have h2 : q.1 = i := Nat.eq_of_beq_eq_true hb
      rw [← h1, ← h2]
      exact List.mem_cons_self
    | false =>
      rw [hb] at h
      exact List.mem_cons_of_mem _ (xat_mem h)
def xins (i : Nat) (v : Value) : List (Nat × Value) → List (Nat × Value)
  | [] => [(i, v)]
  | q :: l => cond (Nat.blt i q.1) ((i, v) :: q :: l) (q :: xins i v l)
theorem xins_mem {i : Nat} {v : Value} : ∀ {l : List (Nat × Value)} {q : Nat × Value}, q ∈ xins i v l → q = (i, v) ∨ q ∈ l
  | [], q, h => by
    left
    simpa [xins] using h
  | r :: l, q, h => by
    unfold xins at h
    cases hb : Nat.blt i r.1 with
    | true =>
      rw [hb] at h
      rcases List.mem_cons.mp h with h | h
      · exact Or.inl h
      · exact Or.inr h
    | false =>
      rw [hb] at h
      rcases List.mem_cons.mp h with h | h
      · exact Or.inr (List.mem_cons.mpr (Or.inl h))
      · rcases xins_mem h with h | h
        · exact Or.inl h
        · exact Or.inr (List.mem_cons_of_mem _ h)
def xset (i : Nat) (v : Value) (L : List (Nat × Value)) : List (Nat × Value) := xins i v (L.filter (fun q => !(q.1 == i) && !(q.1 + 1 == i && q.2.category == 2)))
def xset2 (i : Nat) (v : Value) (L : List (Nat × Value)) : List (Nat × Value) := xins i v (L.filter (fun q => !(q.1 == i) && (!(q.1 == i + 1) && !(q.1 + 1 == i && q.2.category == 2))))
theorem lv_weak {ls : Array Slot} {n : Nat} {l l' : List (Nat × Value)} (h : lv_has ls n l) (hs : ∀ q ∈ l', q ∈ l) : lv_has ls n l' := ⟨h.1, h.2.1, fun q hq => h.2.2 q (hs q hq)⟩
theorem xset_has {G : xGt} {ls : Array Slot} {n i : Nat} {v : Value} {L : List (Nat × Value)} (h : lv_has ls n ((i, xc G v) :: (L.map (xl G)).filter (fun q => !(q.1 == i) && !(q.1 + 1 == i && q.2.category == 2)))) : lv_has ls n ((xset i v L).map (xl G)) := by
  refine lv_weak h fun q hq => ?_
  obtain ⟨r, hr, rfl⟩ := List.mem_map.mp hq
  rcases xins_mem hr with rfl | hr
  · exact List.mem_cons_self
  · refine List.mem_cons_of_mem _ (List.mem_filter.mpr ⟨List.mem_map.mpr ⟨r, (List.mem_filter.mp hr).1, rfl⟩, ?_⟩)
    have := (List.mem_filter.mp hr).2
    simpa [xl, xc_cat] using this
theorem xset2_has {G : xGt} {ls : Array Slot} {n i : Nat} {v : Value} {L : List (Nat × Value)} (h : lv_has ls n ((i, xc G v) :: (L.map (xl G)).filter (fun q => !(q.1 == i) && (!(q.1 == i + 1) && !(q.1 + 1 == i && q.2.category == 2))))) : lv_has ls n ((xset2 i v L).map (xl G)) := by
  refine lv_weak h fun q hq => ?_
  obtain ⟨r, hr, rfl⟩ := List.mem_map.mp hq
  rcases xins_mem hr with rfl | hr
  · exact List.mem_cons_self
  · refine List.mem_cons_of_mem _ (List.mem_filter.mpr ⟨List.mem_map.mpr ⟨r, (List.mem_filter.mp hr).1, rfl⟩, ?_⟩)
    have := (List.mem_filter.mp hr).2
    simpa [xl, xc_cat] using this
theorem xl_at {G : xGt} {ls : Array Slot} {n i : Nat} {v : Value} {L : List (Nat × Value)} (h : lv_has ls n (L.map (xl G))) (hv : xat L i = some v) : ls[i]? = some (.val (xc G v)) := h.2.2 (i, xc G v) (List.mem_map.mpr ⟨(i, v), xat_mem hv, rfl⟩)
/-- a method's end: an int, nothing, a long, a truth, a cell -/
def xQi (Q : Int32 → Mem → Prop) : xGt → Array Value → State → Outcome → State → Prop := fun G => va_Qi Q (fun M t => va_P G.1 vwCl (xw G M) t.heap) (xA G)
def xQv (Q : Mem → Prop) : xGt → Array Value → State → Outcome → State → Prop := fun G => va_Qv Q (fun M t => va_P G.1 vwCl (xw G M) t.heap) (xA G)
def xQl (Q : Int64 → Mem → Prop) : xGt → Array Value → State → Outcome → State → Prop := fun G => va_Ql Q (fun M t => va_P G.1 vwCl (xw G M) t.heap) (xA G)
def bI (b : Bool) : Int32 := cond b 1 0
def xQb (Q : Bool → Mem → Prop) : xGt → Array Value → State → Outcome → State → Prop := fun G => va_Qi (fun r M => ∃ b, r = bI b ∧ Q b M) (fun M t => va_P G.1 vwCl (xw G M) t.heap) (xA G)
def xQr (Q : Nat → Mem → Prop) : xGt → Array Value → State → Outcome → State → Prop := fun G => va_Qr (fun u : Nat × Mem => Q u.1 u.2) (fun u a t => a = xad G u.1 ∧ va_P G.1 vwCl (xw G u.2) t.heap) (xA G)
section XR
variable {own : String} {cc : ByteArray} {nL : Nat} {rt : Option FieldType} {d pc : Nat} {L : List (Nat × Value)} {st : List Value} {M : Mem} {Rt : xGt → Array Value → State → Outcome → State → Prop}
theorem x_iadd {x y : Int32} (hd : decode cc pc = .ok (.iadd, 1))  (q : Nat) (hq : pc + 1 = q) (k : xX own cc nL rt d q L (.int (x + y) :: st) M Rt) : xX own cc nL rt d pc L (.int y :: .int x :: st) M Rt := by
  subst hq
  intro G p l e s m a b t c H o ls C hP hS hl
  exact lv_iadd C.1 C.2.1 hd (k G p l e s m a b t c H o ls C hP hS hl)
theorem x_isub {x y : Int32} (hd : decode cc pc = .ok (.isub, 1))  (q : Nat) (hq : pc + 1 = q) (k : xX own cc nL rt d q L (.int (x - y) :: st) M Rt) : xX own cc nL rt d pc L (.int y :: .int x :: st) M Rt := by
  subst hq
  intro G p l e s m a b t c H o ls C hP hS hl
  exact lv_isub C.1 C.2.1 hd (k G p l e s m a b t c H o ls C hP hS hl)
theorem x_imul {x y : Int32} (hd : decode cc pc = .ok (.imul, 1))  (q : Nat) (hq : pc + 1 = q) (k : xX own cc nL rt d q L (.int (x * y) :: st) M Rt) : xX own cc nL rt d pc L (.int y :: .int x :: st) M Rt := by
  subst hq
  intro G p l e s m a b t c H o ls C hP hS hl
  exact lv_imul C.1 C.2.1 hd (k G p l e s m a b t c H o ls C hP hS hl)
theorem x_iand {x y : Int32} (hd : decode cc pc = .ok (.iand, 1))  (q : Nat) (hq : pc + 1 = q) (k : xX own cc nL rt d q L (.int (x &&& y) :: st) M Rt) : xX own cc nL rt d pc L (.int y :: .int x :: st) M Rt := by
  subst hq
  intro G p l e s m a b t c H o ls C hP hS hl
  exact lv_iand C.1 C.2.1 hd (k G p l e s m a b t c H o ls C hP hS hl)
theorem x_ior {x y : Int32} (hd : decode cc pc = .ok (.ior, 1))  (q : Nat) (hq : pc + 1 = q) (k : xX own cc nL rt d q L (.int (x ||| y) :: st) M Rt) : xX own cc nL rt d pc L (.int y :: .int x :: st) M Rt := by
  subst hq
  intro G p l e s m a b t c H o ls C hP hS hl
  exact lv_ior C.1 C.2.1 hd (k G p l e s m a b t c H o ls C hP hS hl)
theorem x_ixor {x y : Int32} (hd : decode cc pc = .ok (.ixor, 1))  (q : Nat) (hq : pc + 1 = q) (k : xX own cc nL rt d q L (.int (x ^^^ y) :: st) M Rt) : xX own cc nL rt d pc L (.int y :: .int x :: st) M Rt := by
  subst hq
  intro G p l e s m a b t c H o ls C hP hS hl
  exact lv_ixor C.1 C.2.1 hd (k G p l e s m a b t c H o ls C hP hS hl)
theorem x_ishl {x y : Int32} (hd : decode cc pc = .ok (.ishl, 1))  (q : Nat) (hq : pc + 1 = q) (k : xX own cc nL rt d q L (.int (x <<< (y &&& 31)) :: st) M Rt) : xX own cc nL rt d pc L (.int y :: .int x :: st) M Rt := by
  subst hq
  intro G p l e s m a b t c H o ls C hP hS hl
  exact lv_ishl C.1 C.2.1 hd (k G p l e s m a b t c H o ls C hP hS hl)
theorem x_ishr {x y : Int32} (hd : decode cc pc = .ok (.ishr, 1))  (q : Nat) (hq : pc + 1 = q) (k : xX own cc nL rt d q L (.int (x >>> (y &&& 31)) :: st) M Rt) : xX own cc nL rt d pc L (.int y :: .int x :: st) M Rt := by
  subst hq
  intro G p l e s m a b t c H o ls C hP hS hl
  exact lv_ishr C.1 C.2.1 hd (k G p l e s m a b t c H o ls C hP hS hl)
theorem x_iushr {x y : Int32} (hd : decode cc pc = .ok (.iushr, 1))  (q : Nat) (hq : pc + 1 = q) (k : xX own cc nL rt d q L (.int (x.toUInt32 >>> (y.toUInt32 &&& Int32.toUInt32 31)).toInt32 :: st) M Rt) : xX own cc nL rt d pc L (.int y :: .int x :: st) M Rt := by
  subst hq
  intro G p l e s m a b t c H o ls C hP hS hl
  exact lv_iushr C.1 C.2.1 hd rfl (k G p l e s m a b t c H o ls C hP hS hl)
theorem x_idiv {x y : Int32} (hd : decode cc pc = .ok (.idiv, 1)) (hne : ¬ y = 0) (q : Nat) (hq : pc + 1 = q) (k : xX own cc nL rt d q L (.int (x / y) :: st) M Rt) : xX own cc nL rt d pc L (.int y :: .int x :: st) M Rt := by
  subst hq
  intro G p l e s m a b t c H o ls C hP hS hl
  exact lv_idiv C.1 C.2.1 hd hne (k G p l e s m a b t c H o ls C hP hS hl)
theorem x_irem {x y : Int32} (hd : decode cc pc = .ok (.irem, 1)) (hne : ¬ y = 0) (q : Nat) (hq : pc + 1 = q) (k : xX own cc nL rt d q L (.int (x - x / y * y) :: st) M Rt) : xX own cc nL rt d pc L (.int y :: .int x :: st) M Rt := by
  subst hq
  intro G p l e s m a b t c H o ls C hP hS hl
  exact lv_irem C.1 C.2.1 hd hne (k G p l e s m a b t c H o ls C hP hS hl)
theorem x_ineg {x : Int32} (hd : decode cc pc = .ok (.ineg, 1))  (q : Nat) (hq : pc + 1 = q) (k : xX own cc nL rt d q L (.int (-x) :: st) M Rt) : xX own cc nL rt d pc L (.int x :: st) M Rt := by
  subst hq
  intro G p l e s m a b t c H o ls C hP hS hl
  exact lv_ineg C.1 C.2.1 hd (k G p l e s m a b t c H o ls C hP hS hl)
theorem x_i2b {x : Int32} (hd : decode cc pc = .ok (.i2b, 1))  (q : Nat) (hq : pc + 1 = q) (k : xX own cc nL rt d q L (.int x.toInt8.toInt32 :: st) M Rt) : xX own cc nL rt d pc L (.int x :: st) M Rt := by
  subst hq
  intro G p l e s m a b t c H o ls C hP hS hl
  exact lv_i2b C.1 C.2.1 hd rfl (k G p l e s m a b t c H o ls C hP hS hl)
theorem x_i2c {x : Int32} (hd : decode cc pc = .ok (.i2c, 1))  (q : Nat) (hq : pc + 1 = q) (k : xX own cc nL rt d q L (.int (x.toUInt32 % 65536).toInt32 :: st) M Rt) : xX own cc nL rt d pc L (.int x :: st) M Rt := by
  subst hq
  intro G p l e s m a b t c H o ls C hP hS hl
  exact lv_i2c C.1 C.2.1 hd rfl (k G p l e s m a b t c H o ls C hP hS hl)
theorem x_i2l {x : Int32} (hd : decode cc pc = .ok (.i2l, 1))  (q : Nat) (hq : pc + 1 = q) (k : xX own cc nL rt d q L (.long x.toInt64 :: st) M Rt) : xX own cc nL rt d pc L (.int x :: st) M Rt := by
  subst hq
  intro G p l e s m a b t c H o ls C hP hS hl
  exact lv_i2l C.1 C.2.1 hd rfl (k G p l e s m a b t c H o ls C hP hS hl)
theorem x_l2i {x : Int64} (hd : decode cc pc = .ok (.l2i, 1))  (q : Nat) (hq : pc + 1 = q) (k : xX own cc nL rt d q L (.int x.toInt32 :: st) M Rt) : xX own cc nL rt d pc L (.long x :: st) M Rt := by
  subst hq
  intro G p l e s m a b t c H o ls C hP hS hl
  exact lv_l2i C.1 C.2.1 hd rfl (k G p l e s m a b t c H o ls C hP hS hl)
theorem x_ladd {x y : Int64} (hd : decode cc pc = .ok (.ladd, 1))  (q : Nat) (hq : pc + 1 = q) (k : xX own cc nL rt d q L (.long (x + y) :: st) M Rt) : xX own cc nL rt d pc L (.long y :: .long x :: st) M Rt := by
  subst hq
  intro G p l e s m a b t c H o ls C hP hS hl
  exact lv_ladd C.1 C.2.1 hd (k G p l e s m a b t c H o ls C hP hS hl)
theorem x_lsub {x y : Int64} (hd : decode cc pc = .ok (.lsub, 1))  (q : Nat) (hq : pc + 1 = q) (k : xX own cc nL rt d q L (.long (x - y) :: st) M Rt) : xX own cc nL rt d pc L (.long y :: .long x :: st) M Rt := by
  subst hq
  intro G p l e s m a b t c H o ls C hP hS hl
  exact lv_lsub C.1 C.2.1 hd (k G p l e s m a b t c H o ls C hP hS hl)
theorem x_lmul {x y : Int64} (hd : decode cc pc = .ok (.lmul, 1))  (q : Nat) (hq : pc + 1 = q) (k : xX own cc nL rt d q L (.long (x * y) :: st) M Rt) : xX own cc nL rt d pc L (.long y :: .long x :: st) M Rt := by
  subst hq
  intro G p l e s m a b t c H o ls C hP hS hl
  exact lv_lmul C.1 C.2.1 hd (k G p l e s m a b t c H o ls C hP hS hl)
theorem x_ldiv {x y : Int64} (hd : decode cc pc = .ok (.ldiv, 1)) (hne : ¬ y = 0) (q : Nat) (hq : pc + 1 = q) (k : xX own cc nL rt d q L (.long (x / y) :: st) M Rt) : xX own cc nL rt d pc L (.long y :: .long x :: st) M Rt := by
  subst hq
  intro G p l e s m a b t c H o ls C hP hS hl
  exact lv_ldiv C.1 C.2.1 hd hne (k G p l e s m a b t c H o ls C hP hS hl)
theorem x_lrem {x y : Int64} (hd : decode cc pc = .ok (.lrem, 1)) (hne : ¬ y = 0) (q : Nat) (hq : pc + 1 = q) (k : xX own cc nL rt d q L (.long (x - x / y * y) :: st) M Rt) : xX own cc nL rt d pc L (.long y :: .long x :: st) M Rt := by
  subst hq
  intro G p l e s m a b t c H o ls C hP hS hl
  exact lv_lrem C.1 C.2.1 hd hne (k G p l e s m a b t c H o ls C hP hS hl)
theorem x_lcmp {x y : Int64} (hd : decode cc pc = .ok (.lcmp, 1))  (q : Nat) (hq : pc + 1 = q) (k : xX own cc nL rt d q L (.int (lg_cmp x y) :: st) M Rt) : xX own cc nL rt d pc L (.long y :: .long x :: st) M Rt := by
  subst hq
  intro G p l e s m a b t c H o ls C hP hS hl
  exact W.lcmp C.1 C.2.1 hd (k G p l e s m a b t c H o ls C hP hS hl)
theorem x_iconst {n : Int} {v : Int32} (hd : decode cc pc = .ok (.iconst n, 1)) (hv : Int32.ofInt n = v) (q : Nat) (hq : pc + 1 = q) (k : xX own cc nL rt d q L (.int v :: st) M Rt) : xX own cc nL rt d pc L st M Rt := by
  subst hq
  intro G p l e s m a b t c H o ls C hP hS hl
  exact lv_iconst C.1 C.2.1 hd hv (k G p l e s m a b t c H o ls C hP hS hl)
theorem x_bipush {n : Int} {v : Int32} (hd : decode cc pc = .ok (.bipush n, 2)) (hv : (Int8.ofInt n).toInt32 = v) (q : Nat) (hq : pc + 2 = q) (k : xX own cc nL rt d q L (.int v :: st) M Rt) : xX own cc nL rt d pc L st M Rt := by
  subst hq
  intro G p l e s m a b t c H o ls C hP hS hl
  exact lv_bipush C.1 C.2.1 hd hv (k G p l e s m a b t c H o ls C hP hS hl)
theorem x_sipush {n : Int} {v : Int32} (hd : decode cc pc = .ok (.sipush n, 3)) (hv : (Int16.ofInt n).toInt32 = v) (q : Nat) (hq : pc + 3 = q) (k : xX own cc nL rt d q L (.int v :: st) M Rt) : xX own cc nL rt d pc L st M Rt := by
  subst hq
  intro G p l e s m a b t c H o ls C hP hS hl
  exact lv_sipush C.1 C.2.1 hd hv (k G p l e s m a b t c H o ls C hP hS hl)
theorem x_lconst {n : Fin 2} {v : Int64} (hd : decode cc pc = .ok (.lconst n, 1)) (hv : Int64.ofNat (n : Nat) = v) (q : Nat) (hq : pc + 1 = q) (k : xX own cc nL rt d q L (.long v :: st) M Rt) : xX own cc nL rt d pc L st M Rt := by
  subst hq
  intro G p l e s m a b t c H o ls C hP hS hl
  exact lv_lconst C.1 C.2.1 hd hv (k G p l e s m a b t c H o ls C hP hS hl)
theorem x_ldc {i : Nat} {v : Int32} (hd : decode cc pc = .ok (.ldc i, 2)) (hk : Cond.constant own i v ∈ xTs) (q : Nat) (hq : pc + 2 = q) (k : xX own cc nL rt d q L (.int v :: st) M Rt) : xX own cc nL rt d pc L st M Rt := by
  subst hq
  intro G p l e s m a b t c H o ls C hP hS hl
  exact lv_ldc C.1 C.2.1 C.2.2.2.2.1 (C.2.2.2.2.2.1 _ hk) hd (k G p l e s m a b t c H o ls C hP hS hl)
theorem x_ldcw {i : Nat} {v : Int32} (hd : decode cc pc = .ok (.ldc_w i, 3)) (hk : Cond.constant own i v ∈ xTs) (q : Nat) (hq : pc + 3 = q) (k : xX own cc nL rt d q L (.int v :: st) M Rt) : xX own cc nL rt d pc L st M Rt := by
  subst hq
  intro G p l e s m a b t c H o ls C hP hS hl
  exact lv_ldcw C.1 C.2.1 C.2.2.2.2.1 (C.2.2.2.2.2.1 _ hk) hd (k G p l e s m a b t c H o ls C hP hS hl)
theorem x_ldc2 {i : Nat} {v : Int64} (hd : decode cc pc = .ok (.ldc2_w i, 3)) (hk : Cond.constantLong own i v ∈ xTs) (q : Nat) (hq : pc + 3 = q) (k : xX own cc nL rt d q L (.long v :: st) M Rt) : xX own cc nL rt d pc L st M Rt := by
  subst hq
  intro G p l e s m a b t c H o ls C hP hS hl
  exact lv_ldc2 C.1 C.2.1 C.2.2.2.2.1 (C.2.2.2.2.2.1 _ hk) hd (k G p l e s m a b t c H o ls C hP hS hl)
theorem x_iload {i : Nat} {x : Int32} (hd : decode cc pc = .ok (.iload i, 2)) (hv : xat L i = some (.int x)) (q : Nat) (hq : pc + 2 = q) (k : xX own cc nL rt d q L (.int x :: st) M Rt) : xX own cc nL rt d pc L st M Rt := by
  subst hq
  intro G p l e s m a b t c H o ls C hP hS hl
  exact lv_iload C.1 C.2.1 hd (xl_at hl hv) (k G p l e s m a b t c H o ls C hP hS hl)
theorem x_iload_n {i : Fin 4} {x : Int32} (hd : decode cc pc = .ok (.iload_n i, 1)) (hv : xat L i.val = some (.int x)) (q : Nat) (hq : pc + 1 = q) (k : xX own cc nL rt d q L (.int x :: st) M Rt) : xX own cc nL rt d pc L st M Rt := by
  subst hq
  intro G p l e s m a b t c H o ls C hP hS hl
  exact lv_iload_n C.1 C.2.1 hd rfl (xl_at hl hv) (k G p l e s m a b t c H o ls C hP hS hl)
theorem x_aload {i : Nat} {x : Nat} (hd : decode cc pc = .ok (.aload i, 2)) (hv : xat L i = some (.ref x)) (q : Nat) (hq : pc + 2 = q) (k : xX own cc nL rt d q L (.ref x :: st) M Rt) : xX own cc nL rt d pc L st M Rt := by
  subst hq
  intro G p l e s m a b t c H o ls C hP hS hl
  exact lv_aload C.1 C.2.1 hd (xl_at hl hv) (k G p l e s m a b t c H o ls C hP hS hl)
theorem x_aload_n {i : Fin 4} {x : Nat} (hd : decode cc pc = .ok (.aload_n i, 1)) (hv : xat L i.val = some (.ref x)) (q : Nat) (hq : pc + 1 = q) (k : xX own cc nL rt d q L (.ref x :: st) M Rt) : xX own cc nL rt d pc L st M Rt := by
  subst hq
  intro G p l e s m a b t c H o ls C hP hS hl
  exact lv_aload_n C.1 C.2.1 hd rfl (xl_at hl hv) (k G p l e s m a b t c H o ls C hP hS hl)
theorem x_lload {i : Nat} {x : Int64} (hd : decode cc pc = .ok (.lload i, 2)) (hv : xat L i = some (.long x)) (q : Nat) (hq : pc + 2 = q) (k : xX own cc nL rt d q L (.long x :: st) M Rt) : xX own cc nL rt d pc L st M Rt := by
  subst hq
  intro G p l e s m a b t c H o ls C hP hS hl
  exact lv_lload C.1 C.2.1 hd (xl_at hl hv) (k G p l e s m a b t c H o ls C hP hS hl)
theorem x_lload_n {i : Fin 4} {x : Int64} (hd : decode cc pc = .ok (.lload_n i, 1)) (hv : xat L i.val = some (.long x)) (q : Nat) (hq : pc + 1 = q) (k : xX own cc nL rt d q L (.long x :: st) M Rt) : xX own cc nL rt d pc L st M Rt := by
  subst hq
  intro G p l e s m a b t c H o ls C hP hS hl
  exact lv_lload_n C.1 C.2.1 hd rfl (xl_at hl hv) (k G p l e s m a b t c H o ls C hP hS hl)
theorem x_istore {i : Nat} {x : Int32} (hd : decode cc pc = .ok (.istore i, 2)) (hn : i < nL) (L2 : List (Nat × Value)) (hL : xset i (.int x) L = L2) (q : Nat) (hq : pc + 2 = q) (k : xX own cc nL rt d q L2 st M Rt) : xX own cc nL rt d pc L (.int x :: st) M Rt := by
  subst hq
  intro G p l e s m a b t c H o ls C hP hS hl
  subst hL
  exact lv_istore C.1 C.2.1 hd hl hn rfl (fun ls2 hl2 => k G p l e s m a b t c H o ls2 C hP hS (xset_has (v := .int x) hl2))
theorem x_istore_n {i : Fin 4} {x : Int32} (hd : decode cc pc = .ok (.istore_n i, 1)) (hn : i.val < nL) (L2 : List (Nat × Value)) (hL : xset i.val (.int x) L = L2) (q : Nat) (hq : pc + 1 = q) (k : xX own cc nL rt d q L2 st M Rt) : xX own cc nL rt d pc L (.int x :: st) M Rt := by
  subst hq
  intro G p l e s m a b t c H o ls C hP hS hl
  subst hL
  exact lv_istore_n C.1 C.2.1 hd rfl hl hn rfl (fun ls2 hl2 => k G p l e s m a b t c H o ls2 C hP hS (xset_has (v := .int x) hl2))
theorem x_astore {i : Nat} {x : Nat} (hd : decode cc pc = .ok (.astore i, 2)) (hn : i < nL) (L2 : List (Nat × Value)) (hL : xset i (.ref x) L = L2) (q : Nat) (hq : pc + 2 = q) (k : xX own cc nL rt d q L2 st M Rt) : xX own cc nL rt d pc L (.ref x :: st) M Rt := by
  subst hq
  intro G p l e s m a b t c H o ls C hP hS hl
  subst hL
  exact lv_astore C.1 C.2.1 hd hl hn rfl (fun ls2 hl2 => k G p l e s m a b t c H o ls2 C hP hS (xset_has (v := .ref x) hl2))
theorem x_astore_n {i : Fin 4} {x : Nat} (hd : decode cc pc = .ok (.astore_n i, 1)) (hn : i.val < nL) (L2 : List (Nat × Value)) (hL : xset i.val (.ref x) L = L2) (q : Nat) (hq : pc + 1 = q) (k : xX own cc nL rt d q L2 st M Rt) : xX own cc nL rt d pc L (.ref x :: st) M Rt := by
  subst hq
  intro G p l e s m a b t c H o ls C hP hS hl
  subst hL
  exact lv_astore_n C.1 C.2.1 hd rfl hl hn rfl (fun ls2 hl2 => k G p l e s m a b t c H o ls2 C hP hS (xset_has (v := .ref x) hl2))
theorem x_lstore {i : Nat} {x : Int64} (hd : decode cc pc = .ok (.lstore i, 2)) (hn : i + 1 < nL) (L2 : List (Nat × Value)) (hL : xset2 i (.long x) L = L2) (q : Nat) (hq : pc + 2 = q) (k : xX own cc nL rt d q L2 st M Rt) : xX own cc nL rt d pc L (.long x :: st) M Rt := by
  subst hq
  intro G p l e s m a b t c H o ls C hP hS hl
  subst hL
  exact lv_lstore C.1 C.2.1 hd hl hn rfl (fun ls2 hl2 => k G p l e s m a b t c H o ls2 C hP hS (xset2_has (v := .long x) hl2))
theorem x_lstore_n {i : Fin 4} {x : Int64} (hd : decode cc pc = .ok (.lstore_n i, 1)) (hn : i.val + 1 < nL) (L2 : List (Nat × Value)) (hL : xset2 i.val (.long x) L = L2) (q : Nat) (hq : pc + 1 = q) (k : xX own cc nL rt d q L2 st M Rt) : xX own cc nL rt d pc L (.long x :: st) M Rt := by
  subst hq
  intro G p l e s m a b t c H o ls C hP hS hl
  subst hL
  exact lv_lstore_n C.1 C.2.1 hd rfl hl hn rfl (fun ls2 hl2 => k G p l e s m a b t c H o ls2 C hP hS (xset2_has (v := .long x) hl2))
theorem x_iinc {i : Nat} {n : Int} {x v : Int32} (hd : decode cc pc = .ok (.iinc i n, 3)) (hx : xat L i = some (.int x)) (hv : x + Int32.ofInt n = v) (hn : i < nL) (L2 : List (Nat × Value)) (hL : xset i (.int v) L = L2) (q : Nat) (hq : pc + 3 = q) (k : xX own cc nL rt d q L2 st M Rt) : xX own cc nL rt d pc L st M Rt := by
  subst hq
  intro G p l e s m a b t c H o ls C hP hS hl
  subst hL
  obtain ⟨z, hz⟩ := List.getElem?_of_mem (List.mem_map.mpr ⟨(i, Value.int x), xat_mem hx, rfl⟩ : xl G (i, .int x) ∈ L.map (xl G))
  exact lv_iinc C.1 C.2.1 hd hl hz hv hn rfl (fun ls2 hl2 => k G p l e s m a b t c H o ls2 C hP hS (xset_has (v := .int v) hl2))
theorem x_dup {v : Value} (hd : decode cc pc = .ok (.dup, 1)) (hc : v.category = 1) (q : Nat) (hq : pc + 1 = q) (k : xX own cc nL rt d q L (v :: v :: st) M Rt) : xX own cc nL rt d pc L (v :: st) M Rt := by
  subst hq
  intro G p l e s m a b t c H o ls C hP hS hl
  exact lv_dup C.1 C.2.1 hd (by rw [xc_cat]; exact hc) (k G p l e s m a b t c H o ls C hP hS hl)
theorem x_pop {v : Value} (hd : decode cc pc = .ok (.pop, 1)) (hc : v.category = 1) (q : Nat) (hq : pc + 1 = q) (k : xX own cc nL rt d q L st M Rt) : xX own cc nL rt d pc L (v :: st) M Rt := by
  subst hq
  intro G p l e s m a b t c H o ls C hP hS hl
  exact lv_pop C.1 C.2.1 hd (by rw [xc_cat]; exact hc) (k G p l e s m a b t c H o ls C hP hS hl)
theorem x_if_eq {x : Int32} {off : Int} (hd : decode cc pc = .ok (.ifCond .eq off, 3)) (tg q : Nat) (ht : (pc : Int) + off = (tg : Int)) (hq : pc + 3 = q) (kt : x = 0 → xX own cc nL rt d tg L st M Rt) (kf : ¬ x = 0 → xX own cc nL rt d q L st M Rt) : xX own cc nL rt d pc L (.int x :: st) M Rt := by
  subst hq
  intro G p l e s m a b t c H o ls C hP hS hl
  exact lv_if_eq C.1 C.2.1 hd ht (fun h => kt h G p l e s m a b t c H o ls C hP hS hl) (fun h => kf h G p l e s m a b t c H o ls C hP hS hl)
theorem x_if_ne {x : Int32} {off : Int} (hd : decode cc pc = .ok (.ifCond .ne off, 3)) (tg q : Nat) (ht : (pc : Int) + off = (tg : Int)) (hq : pc + 3 = q) (kt : ¬ x = 0 → xX own cc nL rt d tg L st M Rt) (kf : x = 0 → xX own cc nL rt d q L st M Rt) : xX own cc nL rt d pc L (.int x :: st) M Rt := by
  subst hq
  intro G p l e s m a b t c H o ls C hP hS hl
  exact lv_if_ne C.1 C.2.1 hd ht (fun h => kt h G p l e s m a b t c H o ls C hP hS hl) (fun h => kf h G p l e s m a b t c H o ls C hP hS hl)
theorem x_if_lt {x : Int32} {off : Int} (hd : decode cc pc = .ok (.ifCond .lt off, 3)) (tg q : Nat) (ht : (pc : Int) + off = (tg : Int)) (hq : pc + 3 = q) (kt : x < 0 → xX own cc nL rt d tg L st M Rt) (kf : ¬ x < 0 → xX own cc nL rt d q L st M Rt) : xX own cc nL rt d pc L (.int x :: st) M Rt := by
  subst hq
  intro G p l e s m a b t c H o ls C hP hS hl
  exact lv_if_lt C.1 C.2.1 hd ht (fun h => kt h G p l e s m a b t c H o ls C hP hS hl) (fun h => kf h G p l e s m a b t c H o ls C hP hS hl)
theorem x_if_ge {x : Int32} {off : Int} (hd : decode cc pc = .ok (.ifCond .ge off, 3)) (tg q : Nat) (ht : (pc : Int) + off = (tg : Int)) (hq : pc + 3 = q) (kt : 0 ≤ x → xX own cc nL rt d tg L st M Rt) (kf : ¬ 0 ≤ x → xX own cc nL rt d q L st M Rt) : xX own cc nL rt d pc L (.int x :: st) M Rt := by
  subst hq
  intro G p l e s m a b t c H o ls C hP hS hl
  exact lv_if_ge C.1 C.2.1 hd ht (fun h => kt h G p l e s m a b t c H o ls C hP hS hl) (fun h => kf h G p l e s m a b t c H o ls C hP hS hl)
theorem x_if_gt {x : Int32} {off : Int} (hd : decode cc pc = .ok (.ifCond .gt off, 3)) (tg q : Nat) (ht : (pc : Int) + off = (tg : Int)) (hq : pc + 3 = q) (kt : 0 < x → xX own cc nL rt d tg L st M Rt) (kf : ¬ 0 < x → xX own cc nL rt d q L st M Rt) : xX own cc nL rt d pc L (.int x :: st) M Rt := by
  subst hq
  intro G p l e s m a b t c H o ls C hP hS hl
  exact lv_if_gt C.1 C.2.1 hd ht (fun h => kt h G p l e s m a b t c H o ls C hP hS hl) (fun h => kf h G p l e s m a b t c H o ls C hP hS hl)
theorem x_if_le {x : Int32} {off : Int} (hd : decode cc pc = .ok (.ifCond .le off, 3)) (tg q : Nat) (ht : (pc : Int) + off = (tg : Int)) (hq : pc + 3 = q) (kt : x ≤ 0 → xX own cc nL rt d tg L st M Rt) (kf : ¬ x ≤ 0 → xX own cc nL rt d q L st M Rt) : xX own cc nL rt d pc L (.int x :: st) M Rt := by
  subst hq
  intro G p l e s m a b t c H o ls C hP hS hl
  exact lv_if_le C.1 C.2.1 hd ht (fun h => kt h G p l e s m a b t c H o ls C hP hS hl) (fun h => kf h G p l e s m a b t c H o ls C hP hS hl)
theorem x_icmp_eq {x y : Int32} {off : Int} (hd : decode cc pc = .ok (.if_icmp .eq off, 3)) (tg q : Nat) (ht : (pc : Int) + off = (tg : Int)) (hq : pc + 3 = q) (kt : x = y → xX own cc nL rt d tg L st M Rt) (kf : ¬ x = y → xX own cc nL rt d q L st M Rt) : xX own cc nL rt d pc L (.int y :: .int x :: st) M Rt := by
  subst hq
  intro G p l e s m a b t c H o ls C hP hS hl
  exact lv_icmp_eq C.1 C.2.1 hd ht (fun h => kt h G p l e s m a b t c H o ls C hP hS hl) (fun h => kf h G p l e s m a b t c H o ls C hP hS hl)
theorem x_icmp_ne {x y : Int32} {off : Int} (hd : decode cc pc = .ok (.if_icmp .ne off, 3)) (tg q : Nat) (ht : (pc : Int) + off = (tg : Int)) (hq : pc + 3 = q) (kt : ¬ x = y → xX own cc nL rt d tg L st M Rt) (kf : x = y → xX own cc nL rt d q L st M Rt) : xX own cc nL rt d pc L (.int y :: .int x :: st) M Rt := by
  subst hq
  intro G p l e s m a b t c H o ls C hP hS hl
  exact lv_icmp_ne C.1 C.2.1 hd ht (fun h => kt h G p l e s m a b t c H o ls C hP hS hl) (fun h => kf h G p l e s m a b t c H o ls C hP hS hl)
theorem x_icmp_lt {x y : Int32} {off : Int} (hd : decode cc pc = .ok (.if_icmp .lt off, 3)) (tg q : Nat) (ht : (pc : Int) + off = (tg : Int)) (hq : pc + 3 = q) (kt : x < y → xX own cc nL rt d tg L st M Rt) (kf : ¬ x < y → xX own cc nL rt d q L st M Rt) : xX own cc nL rt d pc L (.int y :: .int x :: st) M Rt := by
  subst hq
  intro G p l e s m a b t c H o ls C hP hS hl
  exact lv_icmp_lt C.1 C.2.1 hd ht (fun h => kt h G p l e s m a b t c H o ls C hP hS hl) (fun h => kf h G p l e s m a b t c H o ls C hP hS hl)
theorem x_icmp_ge {x y : Int32} {off : Int} (hd : decode cc pc = .ok (.if_icmp .ge off, 3)) (tg q : Nat) (ht : (pc : Int) + off = (tg : Int)) (hq : pc + 3 = q) (kt : y ≤ x → xX own cc nL rt d tg L st M Rt) (kf : ¬ y ≤ x → xX own cc nL rt d q L st M Rt) : xX own cc nL rt d pc L (.int y :: .int x :: st) M Rt := by
  subst hq
  intro G p l e s m a b t c H o ls C hP hS hl
  exact lv_icmp_ge C.1 C.2.1 hd ht (fun h => kt h G p l e s m a b t c H o ls C hP hS hl) (fun h => kf h G p l e s m a b t c H o ls C hP hS hl)
theorem x_icmp_gt {x y : Int32} {off : Int} (hd : decode cc pc = .ok (.if_icmp .gt off, 3)) (tg q : Nat) (ht : (pc : Int) + off = (tg : Int)) (hq : pc + 3 = q) (kt : y < x → xX own cc nL rt d tg L st M Rt) (kf : ¬ y < x → xX own cc nL rt d q L st M Rt) : xX own cc nL rt d pc L (.int y :: .int x :: st) M Rt := by
  subst hq
  intro G p l e s m a b t c H o ls C hP hS hl
  exact lv_icmp_gt C.1 C.2.1 hd ht (fun h => kt h G p l e s m a b t c H o ls C hP hS hl) (fun h => kf h G p l e s m a b t c H o ls C hP hS hl)
theorem x_icmp_le {x y : Int32} {off : Int} (hd : decode cc pc = .ok (.if_icmp .le off, 3)) (tg q : Nat) (ht : (pc : Int) + off = (tg : Int)) (hq : pc + 3 = q) (kt : x ≤ y → xX own cc nL rt d tg L st M Rt) (kf : ¬ x ≤ y → xX own cc nL rt d q L st M Rt) : xX own cc nL rt d pc L (.int y :: .int x :: st) M Rt := by
  subst hq
  intro G p l e s m a b t c H o ls C hP hS hl
  exact lv_icmp_le C.1 C.2.1 hd ht (fun h => kt h G p l e s m a b t c H o ls C hP hS hl) (fun h => kf h G p l e s m a b t c H o ls C hP hS hl)
theorem bI_eq0 {b : Bool} : bI b = 0 ↔ b = false := by cases b <;> decide
theorem x_if_eq_b {b : Bool} {off : Int} (hd : decode cc pc = .ok (.ifCond .eq off, 3)) (tg q : Nat) (ht : (pc : Int) + off = (tg : Int)) (hq : pc + 3 = q) (kt : b = false → xX own cc nL rt d tg L st M Rt) (kf : b = true → xX own cc nL rt d q L st M Rt) : xX own cc nL rt d pc L (.int (bI b) :: st) M Rt :=
  x_if_eq hd tg q ht hq (fun h => kt (bI_eq0.mp h)) (fun h => kf (by cases b; exact absurd rfl h; rfl))
theorem x_if_ne_b {b : Bool} {off : Int} (hd : decode cc pc = .ok (.ifCond .ne off, 3)) (tg q : Nat) (ht : (pc : Int) + off = (tg : Int)) (hq : pc + 3 = q) (kt : b = true → xX own cc nL rt d tg L st M Rt) (kf : b = false → xX own cc nL rt d q L st M Rt) : xX own cc nL rt d pc L (.int (bI b) :: st) M Rt :=
  x_if_ne hd tg q ht hq (fun h => kt (by cases b; exact absurd rfl h; rfl)) (fun h => kf (bI_eq0.mp h))
theorem x_goto {off : Int} (hd : decode cc pc = .ok (.goto off, 3)) (tg : Nat) (ht : (pc : Int) + off = (tg : Int)) (k : xX own cc nL rt d tg L st M Rt) : xX own cc nL rt d pc L st M Rt := by
  intro G p l e s m a b t c H o ls C hP hS hl
  exact lv_goto C.1 C.2.1 hd ht (k G p l e s m a b t c H o ls C hP hS hl)
theorem x_ifnull {x : Nat} {off : Int} (hd : decode cc pc = .ok (.ifnull off, 3)) (q : Nat) (hq : pc + 3 = q) (k : xX own cc nL rt d q L st M Rt) : xX own cc nL rt d pc L (.ref x :: st) M Rt := by
  subst hq
  intro G p l e s m a b t c H o ls C hP hS hl
  exact lv_ifnull C.1 C.2.1 hd (k G p l e s m a b t c H o ls C hP hS hl)
theorem x_table {dflt lo hi : Int} {offs : Array Int} {len : Nat} {x : Int32} (hd : decode cc pc = .ok (.tableswitch dflt lo hi offs, len)) (tg : Nat) (ht : (pc : Int) + dflt = (tg : Int)) (ko : (x.toInt < lo ∨ hi < x.toInt) → xX own cc nL rt d tg L st M Rt)
    (ki : ¬ x.toInt < lo → ¬ hi < x.toInt → ∃ (off : Int) (tq : Nat), offs[(x.toInt - lo).toNat]? = some off ∧ (pc : Int) + off = (tq : Int) ∧ xX own cc nL rt d tq L st M Rt) : xX own cc nL rt d pc L (.int x :: st) M Rt := by
  intro G p l e s m a b t c H o ls C hP hS hl
  by_cases h1 : x.toInt < lo
  · exact lv_tableOut C.1 C.2.1 hd (Or.inl h1) ht (ko (Or.inl h1) G p l e s m a b t c H o ls C hP hS hl)
  · by_cases h2 : hi < x.toInt
    · exact lv_tableOut C.1 C.2.1 hd (Or.inr h2) ht (ko (Or.inr h2) G p l e s m a b t c H o ls C hP hS hl)
    · obtain ⟨off, tq, e1, e2, k⟩ := ki h1 h2
      exact lv_tableIn C.1 C.2.1 hd h1 h2 e1 e2 (k G p l e s m a b t c H o ls C hP hS hl)
theorem x_lookup {dflt : Int} {ps : Array (Int × Int)} {len : Nat} {x : Int32} {off : Int} {tg : Nat} (hd : decode cc pc = .ok (.lookupswitch dflt ps, len)) (hp : (ps.toList.zip (ps.toList.drop 1)).all (fun (a, next) => a.1 < next.1) = true) (ho : Op.lookupswitch.offset ps.toList dflt x.toInt = off) (ht : (pc : Int) + off = (tg : Int)) (k : xX own cc nL rt d tg L st M Rt) : xX own cc nL rt d pc L (.int x :: st) M Rt := by
  intro G p l e s m a b t c H o ls C hP hS hl
  exact lv_lookup C.1 C.2.1 hd hp ho ht (k G p l e s m a b t c H o ls C hP hS hl)
theorem x_weak (L2 : List (Nat × Value)) (ps : List Nat) (h : lv_pick L ps = L2) (k : xX own cc nL rt d pc L2 st M Rt) : xX own cc nL rt d pc L st M Rt := by
  intro G p l e s m a b t c H o ls C hP hS hl
  refine k G p l e s m a b t c H o ls C hP hS (lv_weak hl fun q hq => ?_)
  subst h
  obtain ⟨r, hr, rfl⟩ := List.mem_map.mp hq
  obtain ⟨i, -, hi⟩ := List.mem_filterMap.mp hr
  exact List.mem_map.mpr ⟨r, List.mem_of_getElem? hi, rfl⟩
theorem x_top {x : Int32} (k : ∀ y : Int32, y = x → xX own cc nL rt d pc L (.int y :: st) M Rt) : xX own cc nL rt d pc L (.int x :: st) M Rt := k x rfl
theorem x_topl {x : Int64} (k : ∀ y : Int64, y = x → xX own cc nL rt d pc L (.long y :: st) M Rt) : xX own cc nL rt d pc L (.long x :: st) M Rt := k x rfl
theorem x_mem (k : ∀ N : Mem, N = M → xX own cc nL rt d pc L st N Rt) : xX own cc nL rt d pc L st M Rt := k M rfl
theorem x_at {q : Nat} (h : pc = q) (k : xX own cc nL rt d q L st M Rt) : xX own cc nL rt d pc L st M Rt := h ▸ k
theorem xe_i {G : xGt} {c : Nat} (h : SHk c = 13) (f : Nat → Int32) : xent G c f = .inl (G.2.1.1, SHn c, .inl f) := by simp [xent, h]
theorem xe_b {G : xGt} {c : Nat} (h : SHk c = 14) (f : Nat → Int32) : xent G c f = .inl (G.2.1.2.1, SHn c, .inl f) := by simp [xent, h]
theorem xe_q {G : xGt} {c : Nat} (h : SHk c = 15) (f : Nat → Int32) : xent G c f = .inl (G.2.1.2.2, SHn c, .inr (.inr (.inr (.inr (fun j => if f j = 0 then none else some (xad G (f j).toNatClampNeg)))))) := by simp [xent, h]
theorem xe_o {G : xGt} {c k : Nat} (h : SHk c = k) (hk : k < 13) (f : Nat → Int32) : xent G c f = .inr (k, (List.range (SHn c)).map (xfv G c k f)) := by
  subst h
  have h1 : ¬ SHk c = 13 := by omega
  have h2 : ¬ SHk c = 14 := by omega
  have h3 : ¬ SHk c = 15 := by omega
  simp [xent, h1, h2, h3]
theorem x_iaload {i : Int32} {v N : Nat} (hd : decode cc pc = .ok (.iaload, 1)) (hk : SHk v = 13 ∧ SHn v = N) (hin : vp_in i N) (q : Nat) (hq : pc + 1 = q) (k : xX own cc nL rt d q L (.int (M v i.toNatClampNeg) :: st) M Rt) : xX own cc nL rt d pc L (.int i :: .ref v :: st) M Rt := by
  subst hq
  intro G p l e s m a b t c H o ls C hP hS hl
  have e0 := xw_get G M (xlt hk.1 (by decide))
  rw [xe_i hk.1] at e0
  rw [hk.2] at e0
  exact va_iald C.1 C.2.1 C.2.2.2.2.2.2.2.1 hP v 0 e0 rfl hin hd (k G p l e s m a b t c H o ls C hP hS hl)
theorem x_baload {i : Int32} {v N : Nat} (hd : decode cc pc = .ok (.baload, 1)) (hk : SHk v = 14 ∧ SHn v = N) (hin : vp_in i N) (q : Nat) (hq : pc + 1 = q) (k : xX own cc nL rt d q L (.int (M v i.toNatClampNeg) :: st) M Rt) : xX own cc nL rt d pc L (.int i :: .ref v :: st) M Rt := by
  subst hq
  intro G p l e s m a b t c H o ls C hP hS hl
  have e0 := xw_get G M (xlt hk.1 (by decide))
  rw [xe_b hk.1] at e0
  rw [hk.2] at e0
  exact va_bald C.1 C.2.1 C.2.2.2.2.2.2.2.1 hP v 1 e0 rfl hin hd (k G p l e s m a b t c H o ls C hP hS hl)
theorem x_aaload {i : Int32} {v N : Nat} (hd : decode cc pc = .ok (.aaload, 1)) (hk : SHk v = 15 ∧ SHn v = N) (hin : vp_in i N) (hw : SHk (M v i.toNatClampNeg).toNatClampNeg = 9) (q : Nat) (hq : pc + 1 = q) (k : xX own cc nL rt d q L (.ref (M v i.toNatClampNeg).toNatClampNeg :: st) M Rt) : xX own cc nL rt d pc L (.int i :: .ref v :: st) M Rt := by
  subst hq
  intro G p l e s m a b t c H o ls C hP hS hl
  have e0 := xw_get G M (xlt hk.1 (by decide))
  rw [xe_q hk.1] at e0
  rw [hk.2] at e0
  have hne : ¬ M v i.toNatClampNeg = 0 := fun h => by rw [h] at hw; exact absurd hw (by decide)
  refine va_aldq C.1 C.2.1 C.2.2.2.2.2.2.2.1 hP v 2 e0 rfl hin hd ?_
  rw [if_neg hne]
  exact k G p l e s m a b t c H o ls C hP hS hl
theorem x_iastore {i x : Int32} {v N : Nat} (hd : decode cc pc = .ok (.iastore, 1)) (hk : SHk v = 13 ∧ SHn v = N) (hin : vp_in i N) (q : Nat) (hq : pc + 1 = q) (k : xX own cc nL rt d q L st (xu M v i.toNatClampNeg x) Rt) : xX own cc nL rt d pc L (.int x :: .int i :: .ref v :: st) M Rt := by
  subst hq
  intro G p l e s m a b t c H o ls C hP hS hl
  have hv := xlt hk.1 (by decide)
  have e0 := xw_get G M hv
  rw [xe_i hk.1] at e0
  rw [hk.2] at e0
  refine va_iast C.1 C.2.1 C.2.2.2.2.2.2.2.1 hP (xw_D C.2.2.2.2.2.2.2.2.1 M) hS v 0 e0 rfl hin hd (fun H1 o1 hP1 _ hS1 => k G p l e s m a b t c H1 o1 ls C ?_ hS1 hl)
  have e2 := xw_set G M hv (upd (M v) i.toNatClampNeg x)
  rw [xe_i hk.1, hk.2] at e2
  rw [e2] at hP1
  exact hP1
theorem x_bastore {i x : Int32} {v N : Nat} (hd : decode cc pc = .ok (.bastore, 1)) (hk : SHk v = 14 ∧ SHn v = N) (hin : vp_in i N) (q : Nat) (hq : pc + 1 = q) (k : xX own cc nL rt d q L st (xu M v i.toNatClampNeg (vp_nar .byte x)) Rt) : xX own cc nL rt d pc L (.int x :: .int i :: .ref v :: st) M Rt := by
  subst hq
  intro G p l e s m a b t c H o ls C hP hS hl
  have hv := xlt hk.1 (by decide)
  have e0 := xw_get G M hv
  rw [xe_b hk.1] at e0
  rw [hk.2] at e0
  refine va_bast C.1 C.2.1 C.2.2.2.2.2.2.2.1 hP (xw_D C.2.2.2.2.2.2.2.2.1 M) hS v 1 e0 rfl hin hd (fun H1 o1 hP1 _ hS1 => k G p l e s m a b t c H1 o1 ls C ?_ hS1 hl)
  have e2 := xw_set G M hv (upd (M v) i.toNatClampNeg (vp_nar .byte x))
  rw [xe_b hk.1, hk.2] at e2
  rw [e2] at hP1
  exact hP1
theorem x_alen {v N : Nat} {n : Int32} (hd : decode cc pc = .ok (.arraylength, 1)) (hk : SHk v = 13 ∧ SHn v = N) (hn : Int32.ofNat N = n) (q : Nat) (hq : pc + 1 = q) (k : xX own cc nL rt d q L (.int n :: st) M Rt) : xX own cc nL rt d pc L (.ref v :: st) M Rt := by
  subst hq
  intro G p l e s m a b t c H o ls C hP hS hl
  have e0 := xw_get G M (xlt hk.1 (by decide))
  rw [xe_i hk.1] at e0
  rw [hk.2] at e0
  exact va_alen C.1 C.2.1 C.2.2.2.2.2.2.2.1 hP v 0 e0 rfl hn hd (k G p l e s m a b t c H o ls C hP hS hl)
theorem x_alenb {v N : Nat} {n : Int32} (hd : decode cc pc = .ok (.arraylength, 1)) (hk : SHk v = 14 ∧ SHn v = N) (hn : Int32.ofNat N = n) (q : Nat) (hq : pc + 1 = q) (k : xX own cc nL rt d q L (.int n :: st) M Rt) : xX own cc nL rt d pc L (.ref v :: st) M Rt := by
  subst hq
  intro G p l e s m a b t c H o ls C hP hS hl
  have e0 := xw_get G M (xlt hk.1 (by decide))
  rw [xe_b hk.1] at e0
  rw [hk.2] at e0
  exact va_alen C.1 C.2.1 C.2.2.2.2.2.2.2.1 hP v 1 e0 rfl hn hd (k G p l e s m a b t c H o ls C hP hS hl)
theorem x_aastore {i : Int32} {v w N : Nat} (hd : decode cc pc = .ok (.aastore, 1)) (hk : SHk v = 15 ∧ SHn v = N) (hw : SHk w = 9) (hin : vp_in i N) (q : Nat) (hq : pc + 1 = q) (k : xX own cc nL rt d q L st (xu M v i.toNatClampNeg (nI w)) Rt) : xX own cc nL rt d pc L (.ref w :: .int i :: .ref v :: st) M Rt := by
  subst hq
  intro G p l e s m a b t c H o ls C hP hS hl
  have hv := xlt hk.1 (by decide)
  have e0 := xw_get G M hv
  rw [xe_q hk.1] at e0
  rw [hk.2] at e0
  have ew := xw_get G M (xlt hw (by decide))
  rw [xe_o hw (by decide)] at ew
  refine va_astq C.1 C.2.1 C.2.2.2.2.2.2.2.1 hP (xw_D C.2.2.2.2.2.2.2.2.1 M) hS v 2 w 9 e0 rfl ew rfl hin hd (fun H1 o1 hP1 _ hS1 => k G p l e s m a b t c H1 o1 ls C ?_ hS1 hl)
  have e2 := xw_set G M hv (upd (M v) i.toNatClampNeg (nI w))
  rw [xe_q hk.1, hk.2] at e2
  have hw2 : (nI w).toNatClampNeg = w := nI_clamp (by have := xlt hw (by decide); unfold xNC at this; omega)
  have hw3 : ¬ nI w = 0 := fun h => by rw [h] at hw2; rw [← hw2] at hw; exact absurd hw (by decide)
  have e3 : (fun j => if upd (M v) i.toNatClampNeg (nI w) j = 0 then none else some (xad G (upd (M v) i.toNatClampNeg (nI w) j).toNatClampNeg)) = va_up (fun j => if M v j = 0 then none else some (xad G (M v j).toNatClampNeg)) i.toNatClampNeg (some (xad G w)) := by
    funext j
    by_cases hj : j = i.toNatClampNeg
    · simp [upd, va_up, hj, hw2, hw3]
    · simp [upd, va_up, hj]
  rw [e3] at e2
  rw [e2] at hP1
  exact hP1
theorem xfs_get {G : xGt} {c k n j : Nat} {f : Nat → Int32} (h : j < n) : ((List.range n).map (xfv G c k f))[j]? = some (xfv G c k f j) := by
  rw [List.getElem?_map, List.getElem?_range h]
  rfl
theorem xfs_set {G : xGt} {c k n j : Nat} {f : Nat → Int32} {v : Int32} (h0 : xoff k j = 0) (h : j < n) : ((List.range n).map (xfv G c k f)).set j (.int v) = (List.range n).map (xfv G c k (upd f j v)) := by
  apply List.ext_getElem?
  intro i
  rw [List.getElem?_set]
  by_cases hi : i < n
  · rw [xfs_get hi, List.length_map, List.length_range, xfs_get hi]
    by_cases e : j = i
    · subst e
      simp [h, xfv, h0, upd]
    · have e' : ¬ i = j := fun q => e q.symm
      simp [e, e', xfv, upd]
  · rw [List.getElem?_eq_none (by simp; omega), List.getElem?_eq_none (by simp; omega)]
    have e : ¬ j = i := fun q => hi (q ▸ h)
    simp [e]
theorem x_geti {ix ci j v : Nat} {C ref : String} {T : u_T} {N : Nat} (hd : decode cc pc = .ok (.getfield ix, 3)) (hk : SHk v = ci) (hci : ci < 13) (hc : vwCl[ci]? = some (C, T, N)) (hN : SHn v = N) (hj : j < N) (hin : ∀ w ∈ u_ws C T N, w ∈ xTs) (hr : (T j).1 = ref) (hw : Cond.fieldLink own ix ref (T j).2.1 (T j).2.2.1 ∈ xTs) (h0 : xoff ci j = 0) (q : Nat) (hq : pc + 3 = q) (k : xX own cc nL rt d q L (.int (M v j) :: st) M Rt) : xX own cc nL rt d pc L (.ref v :: st) M Rt := by
  subst hq
  intro G p l e s m a b t c H o ls C hP hS hl
  have e0 := xw_get G M (xlt hk (by omega))
  rw [xe_o hk hci, hN] at e0
  refine va_get C.1 C.2.1 C.2.2.2.2.2.1 hin C.2.2.2.2.1 C.2.2.2.2.2.2.2.1 hP v e0 hc j hj (C.2.2.2.2.2.1 _ hw) (fun _ h9 => hr ▸ h9) (xfs_get hj) hd ?_
  have ev : xfv G v ci (M v) j = xc G (.int (M v j)) := by
    unfold xfv
    rw [if_pos h0]; rfl
  rw [ev]
  exact k G p l e s m a b t c H o ls C hP hS hl
theorem x_geta {ix ci j v f : Nat} {C ref : String} {T : u_T} {N : Nat} (hd : decode cc pc = .ok (.getfield ix, 3)) (hk : SHk v = ci) (hci : ci < 13) (hc : vwCl[ci]? = some (C, T, N)) (hN : SHn v = N) (hj : j < N) (hin : ∀ w ∈ u_ws C T N, w ∈ xTs) (hr : (T j).1 = ref) (hw : Cond.fieldLink own ix ref (T j).2.1 (T j).2.2.1 ∈ xTs) (h0 : xoff ci j = f) (hf : 0 < f) (q : Nat) (hq : pc + 3 = q) (k : xX own cc nL rt d q L (.ref (v + f) :: st) M Rt) : xX own cc nL rt d pc L (.ref v :: st) M Rt := by
  subst hq
  intro G p l e s m a b t c H o ls C hP hS hl
  have e0 := xw_get G M (xlt hk (by omega))
  rw [xe_o hk hci, hN] at e0
  refine va_get C.1 C.2.1 C.2.2.2.2.2.1 hin C.2.2.2.2.1 C.2.2.2.2.2.2.2.1 hP v e0 hc j hj (C.2.2.2.2.2.1 _ hw) (fun _ h9 => hr ▸ h9) (xfs_get hj) hd ?_
  have ev : xfv G v ci (M v) j = xc G (.ref (v + f)) := by
    unfold xfv
    rw [h0, if_neg (by omega)]; rfl
  rw [ev]
  exact k G p l e s m a b t c H o ls C hP hS hl
theorem x_puti {ix ci j v : Nat} {x : Int32} {C ref : String} {T : u_T} {N : Nat} {ty : FieldType} (hd : decode cc pc = .ok (.putfield ix, 3)) (hk : SHk v = ci) (hci : ci < 13) (hc : vwCl[ci]? = some (C, T, N)) (hN : SHn v = N) (hj : j < N) (hin : ∀ w ∈ u_ws C T N, w ∈ xTs) (ty0 : Nat → FieldType) (hty : ∀ k, k < N → parseFieldDescriptor (T k).2.2.1 = some (ty0 k)) (hnm : ∀ a, a < N → ∀ b, b < N → a ≠ b → (T a).2.1 ≠ (T b).2.1) (hr : (T j).1 = ref) (hw : Cond.fieldLink own ix ref (T j).2.1 (T j).2.2.1 ∈ xTs) (h0 : xoff ci j = 0) (hfin : (T j).2.2.2 = false) (hdsc : parseFieldDescriptor (T j).2.2.1 = some ty) (hnar : narrow ty (.int x) = .int x) (hfit : fits ty (.int x) = true) (q : Nat) (hq : pc + 3 = q) (k : xX own cc nL rt d q L st (xu M v j x) Rt) : xX own cc nL rt d pc L (.int x :: .ref v :: st) M Rt := by
  subst hq
  intro G p l e s m a b t c H o ls C hP hS hl
  have hv := xlt hk (by omega)
  have e0 := xw_get G M hv
  rw [xe_o hk hci, hN] at e0
  refine va_put C.1 C.2.1 C.2.2.2.2.2.1 hin ty0 hty hnm C.2.2.2.2.1 C.2.2.2.2.2.2.2.1 hP (xw_D C.2.2.2.2.2.2.2.2.1 M) hS v e0 hc j hj (C.2.2.2.2.2.1 _ hw) (fun _ h9 => hr ▸ h9) hfin hdsc hnar hfit (by simp; exact hj) hd (fun H1 o1 hP1 _ hS1 => k G p l e s m a b t c H1 o1 ls C ?_ hS1 hl)
  have e2 := xw_set G M hv (upd (M v) j x)
  rw [xe_o hk hci, hN] at e2
  rw [show xc G (.int x) = .int x from rfl, xfs_set h0 hj, e2] at hP1
  exact hP1
theorem x_iret {x : Int32} {Q : Int32 → Mem → Prop} (hd : decode cc pc = .ok (.ireturn, 1)) (h : Q x M) : xX own cc nL (some .int) d pc L [.int x] M (xQi Q) := by
  intro G p l e s m a b t c H o ls C hP hS hl
  exact W.iret C.1 C.2.1 C.2.2.2.1 (fun u hu hW => ⟨⟨x, M, rfl, h, by show va_P _ _ _ _; rw [hu]; exact hP⟩, hS.F hu⟩) hS.2.2 hd C.2.2.2.2.2.2.1
theorem x_zret {z : Bool} {Q : Bool → Mem → Prop} (hd : decode cc pc = .ok (.ireturn, 1)) (h : Q z M) : xX own cc nL (some .boolean) d pc L [.int (bI z)] M (xQb Q) := by
  intro G p l e s m a b t c H o ls C hP hS hl
  exact W.zret C.1 C.2.1 C.2.2.2.1 (by cases z <;> rfl) (fun u hu hW => ⟨⟨bI z, M, rfl, ⟨z, rfl, h⟩, by show va_P _ _ _ _; rw [hu]; exact hP⟩, hS.F hu⟩) hS.2.2 hd C.2.2.2.2.2.2.1
theorem x_vret {Q : Mem → Prop} (hd : decode cc pc = .ok (.return_, 1)) (h : Q M) : xX own cc nL none d pc L [] M (xQv Q) := by
  intro G p l e s m a b t c H o ls C hP hS hl
  exact W.vret C.1 C.2.1 C.2.2.2.1 (fun u hu hW => ⟨⟨M, rfl, h, by show va_P _ _ _ _; rw [hu]; exact hP⟩, hS.F hu⟩) hS.2.2 hd C.2.2.2.2.2.2.1
theorem x_lret {x : Int64} {Q : Int64 → Mem → Prop} (hd : decode cc pc = .ok (.lreturn, 1)) (h : Q x M) : xX own cc nL (some .long) d pc L [.long x] M (xQl Q) := by
  intro G p l e s m a b t c H o ls C hP hS hl
  exact W.lret C.1 C.2.1 C.2.2.2.1 (fun u hu hW => ⟨⟨x, M, rfl, h, by show va_P _ _ _ _; rw [hu]; exact hP⟩, hS.F hu⟩) hS.2.2 hd C.2.2.2.2.2.2.1
theorem x_aret {x : Nat} {ty : FieldType} {Q : Nat → Mem → Prop} (hd : decode cc pc = .ok (.areturn, 1)) (hty : (∃ n, ty = .object n) ∨ ∃ t, ty = .array t) (h : Q x M) : xX own cc nL (some ty) d pc L [.ref x] M (xQr Q) := by
  intro G p l e s m a b t c H o ls C hP hS hl
  exact W.aret C.1 C.2.1 C.2.2.2.1 hty (Or.inr ⟨_, rfl⟩) (fun u hu hW => ⟨⟨(x, M), xad G x, rfl, h, rfl, by show va_P _ _ _ _; rw [hu]; exact hP⟩, hS.F hu⟩) hS.2.2 hd C.2.2.2.2.2.2.1
theorem x_nret {x : Int32} {ty : FieldType} {Q : Int32 → Mem → Prop} (hd : decode cc pc = .ok (.ireturn, 1)) (hn : narrow ty (.int x) = .int x) (h : Q x M) : xX own cc nL (some ty) d pc L [.int x] M (xQi Q) := by
  intro G p l e s m a b t c H o ls C hP hS hl
  exact W.zret C.1 C.2.1 C.2.2.2.1 hn (fun u hu hW => ⟨⟨x, M, rfl, h, by show va_P _ _ _ _; rw [hu]; exact hP⟩, hS.F hu⟩) hS.2.2 hd C.2.2.2.2.2.2.1
end XR
