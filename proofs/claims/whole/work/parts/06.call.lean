def xPc (G : xGt) (As : List Value) (M : Mem) : Array Value → State → Prop := va_Pc (As.map (xc G)) (fun U => va_P G.1 vwCl (xw G M) U.heap ∧ va_K G.1 vwCl (xT G) U ∧ xN U ∧ xStr G U)
/-- a method's contract over the abstract memory, for one start -/
def xM (y : MethodName) (cc : ByteArray) (nL : Nat) (rt : Option FieldType) (d : Nat) (As : List Value) (M : Mem) (Rt : xGt → Array Value → State → Outcome → State → Prop) : Prop :=
  ∀ (G : xGt) (l : Launch), xD G → Met l y (.code y cc nL rt :: xTs) (xR d) (xPc G As M) (Rt G) 0 0 (xA G)
theorem xN_same {s U : State} (h : s.vm = U.vm) (hN : xN s) : xN U := fun a i y k hm => va_Nw.same rfl h (hN a i y k hm)
theorem xN_go {s U : State} (hW : s.WarmedH U.vm) (hN : xN s) : xN U := fun a i y k hm => va_Nw.warmM hW (hN a i y k hm)
theorem xStr_go {G : xGt} {s U : State} {H : Heap} {o : List Loc} (h : xStr G s) (hS : va_S (xA G) s.heap H o) (hU : U.heap = H) (hW : s.WarmedH U.vm) : xStr G U := by
  obtain ⟨h1, h2, r1, r2, r3, r4, r5⟩ := h
  refine ⟨?_, ?_, r1.warm hW, r2.warm hW, r3.warm hW, r4.warm hW, ?_⟩
  · rw [hU]
    exact vk_S.moved hW.alike (h1.kept hS.2.1)
  · rw [hU]
    exact va_Z.moved hW.alike (h2.kept hS.2.1)
  · rw [hU]
    rcases r5 with r5 | r5
    · exact Or.inl (va_Z.moved hW.alike (r5.kept hS.2.1))
    · exact Or.inr (va_Z.moved hW.alike (r5.kept hS.2.1))
theorem xStr_same {G : xGt} {s U : State} (hv : U.vm = s.vm) (hh : U.heap = s.heap) (h : xStr G s) : xStr G U := by
  obtain ⟨h1, h2, r1, r2, r3, r4, r5⟩ := h
  have hA : s.vm.Alike U.vm := by rw [hv]; exact Vm.Alike.refl _
  refine ⟨?_, ?_, r1.same hv, r2.same hv, r3.same hv, r4.same hv, ?_⟩
  · rw [hh]
    exact vk_S.moved hA h1
  · rw [hh]
    exact va_Z.moved hA h2
  · rw [hh]
    rcases r5 with r5 | r5
    · exact Or.inl (va_Z.moved hA r5)
    · exact Or.inr (va_Z.moved hA r5)
theorem xPc_blind (G : xGt) (As : List Value) (M : Mem) : FrameBlind (xPc G As M) := by
  intro a U g mk h
  obtain ⟨h0, hP, hK, hN, hSt⟩ := h
  exact ⟨h0, hP, va_K.moved (u := U) (U := U.calling g mk a) (Vm.Alike.refl U.vm) hK, xN_same rfl hN, xStr_same rfl rfl hSt⟩
theorem xPc_go {own : String} {cc : ByteArray} {nL : Nat} {rt : Option FieldType} {G : xGt} {p : Program} {s : State} {m : MethodId} {a : Array Value} {t : Method} {c : Code} (C : xC own cc nL rt G p s m a t c) {M : Mem} {H : Heap} {o : List Loc} (hP : va_P G.1 vwCl (xw G M) H) (hS : va_S (xA G) s.heap H o) (As : List Value) : ∀ U : State, U.heap = H → s.WarmedH U.vm → xPc G As M (As.map (xc G)).toArray U := by
  intro U hU hW
  exact ⟨rfl, by rw [hU]; exact hP, va_K.moved hW.alike C.2.2.2.2.2.2.2.1, xN_go hW C.2.2.2.2.2.2.2.2.2.1, xStr_go C.2.2.2.2.2.2.2.2.2.2 hS hU hW⟩
theorem lv_args_map (G : xGt) : ∀ (i : Nat) (As : List Value), lv_args i (As.map (xc G)) = (lv_args i As).map (xl G)
  | _, [] => rfl
  | i, v :: vs => by
    show (i, xc G v) :: lv_args (if (xc G v).category = 2 then i + 2 else i + 1) (vs.map (xc G)) = (i, xc G v) :: (lv_args (if v.category = 2 then i + 2 else i + 1) vs).map (xl G)
    rw [xc_cat, lv_args_map G _ vs]
theorem lg_sl_len (G : xGt) : ∀ As : List Value, (lg_sl (As.map (xc G))).length = (lg_sl As).length
  | [] => rfl
  | v :: vs => by
    have ih := lg_sl_len G vs
    unfold lg_sl at ih ⊢
    rw [List.map_cons, List.flatMap_cons, List.flatMap_cons, List.length_append, List.length_append, ih, xc_cat]
    by_cases h : v.category = 2 <;> simp [h]
theorem xM_of {y : MethodName} {cc : ByteArray} {nL : Nat} {rt : Option FieldType} {d : Nat} {As : List Value} {M : Mem} {Rt : xGt → Array Value → State → Outcome → State → Prop} (hy : plainName y.cls = true) (hlen : (lg_sl As).length ≤ nL) (k : xX y.cls cc nL rt d 0 (lv_args 0 As) [] M Rt) : xM y cc nL rt d As M Rt := by
  intro G l hD
  refine Met.ofW (cc := cc) (maxL := nL) (ret := rt) hy rfl ?_
  intro p e s m args below meth c s₁ B hml hv
  obtain ⟨rfl, hP, hK, hN, hSt⟩ := hv
  have hts := atoms_spec (ws := .code y cc nL rt :: xTs) B.pre
  have hown : s.vm.findClass y.cls = some m.cls := findClass_of_methodNamed B.named
  rw [lg_entry_eq]
  have hl := lv_entry (As.map (xc G)) (n := nL) (by rw [lg_sl_len]; exact hlen)
  rw [lv_args_map] at hl
  exact k G p l e s m _ below meth c s.heap [] _ ⟨B.exec, B.bytes, hml, B.returns, hown, fun w h => hts w (List.mem_cons_of_mem _ h), B.notSynchronized, hK, hD, hN, hSt⟩ hP va_S.rf hl
theorem xG_ws {x y : MethodName} {cx cy : ByteArray} {nx ny : Nat} {rx ry : Option FieldType} (w5 : Cond.code y cy ny ry ∈ xTs) : GoodIn xTs (Cond.code y cy ny ry :: xTs) := by
  intro w hw
  rcases List.mem_cons.mp hw with rfl | h
  · exact ⟨w5, xTs_good w5⟩
  · exact ⟨h, xTs_good h⟩
theorem xRoom {d d' maxL : Nat} (hr : d' < d) (hm : maxL ≤ 29) : (xR d').frames + 1 ≤ (xR d).frames ∧ 8 + (maxL + 11) + (xR d').locals ≤ (xR d).locals := by
  refine ⟨hr, ?_⟩
  show 8 + (maxL + 11) + 48 * d' ≤ 48 * d
  omega
theorem xcat (G : xGt) (st : List Value) : ((st.map (xc G)).map fun v => v.category).sum = (st.map fun v => v.category).sum := by
  rw [List.map_map]
  congr 1
  apply List.map_congr_left
  intro v _
  exact xc_cat G v
section XC
variable {own : String} {cc : ByteArray} {nL : Nat} {rt : Option FieldType} {d pc : Nat} {L : List (Nat × Value)} {st : List Value} {M : Mem} {Rt : xGt → Array Value → State → Outcome → State → Prop}
theorem x_callV_i {ix n maxL d2 v ci N : Nat} {y : MethodName} {bytes : ByteArray} {As : List Value} {Q : Int32 → Mem → Prop} {ty : FieldType} {C0 : String} {T : u_T} (hd : decode cc pc = .ok (.invokevirtual ix, 3)) (q : Nat) (hq : pc + 3 = q) (hk : SHk v = ci) (hci : ci < 13) (hc : vwCl[ci]? = some (C0, T, N)) (hC : y.cls = C0) (w1 : Cond.methodLink own ix y ∈ xTs) (w2 : Cond.instanceMethod y ∈ xTs) (w3 : Cond.selects C0 y y ∈ xTs) (w4 : Cond.initialized C0 ∈ xTs) (w5 : Cond.code y bytes maxL (some ty) ∈ xTs) (hdsc : y.cls ≠ "java/lang/invoke/MethodHandle" ∧ y.cls ≠ "java/lang/invoke/VarHandle" ∧ (parseMethodDescriptor y.desc).map (fun d => d.parameters.length) = some n) (hlen : As.length = n) (hr : d2 < d) (hm : maxL ≤ 29) (hst : (st.map fun v => v.category).sum ≤ 8) (Sk : List Value) (hSk : Sk = As.reverse ++ .ref v :: st) (hM : xM y bytes maxL (some ty) d2 (.ref v :: As) M (xQi Q)) (k : ∀ (r : Int32) (N : Mem), Q r N → xX own cc nL rt d q L (.int r :: st) N Rt) : xX own cc nL rt d pc L Sk M Rt := by
  subst hq
  subst hSk
  intro G p l e s m a b t c H o ls C hP hS hl
  have hstk : (As.reverse ++ .ref v :: st).map (xc G) = (As.map (xc G)).reverse ++ .ref (xad G v) :: st.map (xc G) := by simp [List.map_append, List.map_reverse, xc]
  rw [hstk]
  have e0 := xw_get G M (xlt hk (by omega))
  rw [xe_o hk hci] at e0
  obtain ⟨cellB, hcB, hoB, hclB⟩ := va_recv C.2.2.2.2.2.2.2.1 hP hc e0
  refine va_calli (va_runV (As := As.map (xc G)) (rest := st.map (xc G)) (C := C0) (b := xad G v) ⟨C.1, C.2.1, C.2.2.1, C.2.2.2.2.1, C.2.2.2.2.2.1⟩ (hM G l C.2.2.2.2.2.2.2.2.1) ⟨callB_of n C.2.2.2.2.2.1 (xG_ws (x := y) (cx := cc) (nx := 0) (rx := none) w5) rfl rfl rfl (by rw [hC]; exact C.2.2.2.2.2.1 _ w4) (C.2.2.2.2.2.1 _ w1) hdsc (xRoom hr hm), C.2.2.2.2.2.1 _ w2, C.2.2.2.2.2.1 _ w3⟩ ⟨xPc_blind G _ M, ⟨cellB, hcB, hoB, hclB⟩, xPc_go C hP hS (.ref v :: As)⟩ rfl (by rw [List.length_map]; exact hlen) hl.1 rfl (lv_room (by rw [xcat]; exact hst)) hd ⟨Nat.zero_le _, Nat.zero_le _⟩) hS (fun _ _ h => h) (fun _ h => h) (fun r u t2 H1 o1 ht hvm hpo hB hz hk1 hS1 => ?_)
  exact k r u hpo G p l e s m a b t c H1 o1 ls C (by rw [← ht]; exact hB) hS1 hl
theorem x_callV_b {ix n maxL d2 v ci N : Nat} {y : MethodName} {bytes : ByteArray} {As : List Value} {Q : Bool → Mem → Prop} {C0 : String} {T : u_T} (hd : decode cc pc = .ok (.invokevirtual ix, 3)) (q : Nat) (hq : pc + 3 = q) (hk : SHk v = ci) (hci : ci < 13) (hc : vwCl[ci]? = some (C0, T, N)) (hC : y.cls = C0) (w1 : Cond.methodLink own ix y ∈ xTs) (w2 : Cond.instanceMethod y ∈ xTs) (w3 : Cond.selects C0 y y ∈ xTs) (w4 : Cond.initialized C0 ∈ xTs) (w5 : Cond.code y bytes maxL (some .boolean) ∈ xTs) (hdsc : y.cls ≠ "java/lang/invoke/MethodHandle" ∧ y.cls ≠ "java/lang/invoke/VarHandle" ∧ (parseMethodDescriptor y.desc).map (fun d => d.parameters.length) = some n) (hlen : As.length = n) (hr : d2 < d) (hm : maxL ≤ 29) (hst : (st.map fun v => v.category).sum ≤ 8) (Sk : List Value) (hSk : Sk = As.reverse ++ .ref v :: st) (hM : xM y bytes maxL (some .boolean) d2 (.ref v :: As) M (xQb Q)) (k : ∀ (r : Bool) (N : Mem), Q r N → xX own cc nL rt d q L (.int (bI r) :: st) N Rt) : xX own cc nL rt d pc L Sk M Rt := by
  subst hq
  subst hSk
  intro G p l e s m a b t c H o ls C hP hS hl
  have hstk : (As.reverse ++ .ref v :: st).map (xc G) = (As.map (xc G)).reverse ++ .ref (xad G v) :: st.map (xc G) := by simp [List.map_append, List.map_reverse, xc]
  rw [hstk]
  have e0 := xw_get G M (xlt hk (by omega))
  rw [xe_o hk hci] at e0
  obtain ⟨cellB, hcB, hoB, hclB⟩ := va_recv C.2.2.2.2.2.2.2.1 hP hc e0
  refine va_calli (va_runV (As := As.map (xc G)) (rest := st.map (xc G)) (C := C0) (b := xad G v) ⟨C.1, C.2.1, C.2.2.1, C.2.2.2.2.1, C.2.2.2.2.2.1⟩ (hM G l C.2.2.2.2.2.2.2.2.1) ⟨callB_of n C.2.2.2.2.2.1 (xG_ws (x := y) (cx := cc) (nx := 0) (rx := none) w5) rfl rfl rfl (by rw [hC]; exact C.2.2.2.2.2.1 _ w4) (C.2.2.2.2.2.1 _ w1) hdsc (xRoom hr hm), C.2.2.2.2.2.1 _ w2, C.2.2.2.2.2.1 _ w3⟩ ⟨xPc_blind G _ M, ⟨cellB, hcB, hoB, hclB⟩, xPc_go C hP hS (.ref v :: As)⟩ rfl (by rw [List.length_map]; exact hlen) hl.1 rfl (lv_room (by rw [xcat]; exact hst)) hd ⟨Nat.zero_le _, Nat.zero_le _⟩) hS (fun _ _ h => h) (fun _ h => h) (fun r u t2 H1 o1 ht hvm hpo hB hz hk1 hS1 => ?_)
  obtain ⟨z, rfl, hz2⟩ := hpo
  exact k z u hz2 G p l e s m a b t c H1 o1 ls C (by rw [← ht]; exact hB) hS1 hl
theorem x_callV_v {ix n maxL d2 v ci N : Nat} {y : MethodName} {bytes : ByteArray} {As : List Value} {Q : Mem → Prop} {C0 : String} {T : u_T} (hd : decode cc pc = .ok (.invokevirtual ix, 3)) (q : Nat) (hq : pc + 3 = q) (hk : SHk v = ci) (hci : ci < 13) (hc : vwCl[ci]? = some (C0, T, N)) (hC : y.cls = C0) (w1 : Cond.methodLink own ix y ∈ xTs) (w2 : Cond.instanceMethod y ∈ xTs) (w3 : Cond.selects C0 y y ∈ xTs) (w4 : Cond.initialized C0 ∈ xTs) (w5 : Cond.code y bytes maxL none ∈ xTs) (hdsc : y.cls ≠ "java/lang/invoke/MethodHandle" ∧ y.cls ≠ "java/lang/invoke/VarHandle" ∧ (parseMethodDescriptor y.desc).map (fun d => d.parameters.length) = some n) (hlen : As.length = n) (hr : d2 < d) (hm : maxL ≤ 29) (hst : (st.map fun v => v.category).sum ≤ 8) (Sk : List Value) (hSk : Sk = As.reverse ++ .ref v :: st) (hM : xM y bytes maxL none d2 (.ref v :: As) M (xQv Q)) (k : ∀ (N : Mem), Q N → xX own cc nL rt d q L st N Rt) : xX own cc nL rt d pc L Sk M Rt := by
  subst hq
  subst hSk
  intro G p l e s m a b t c H o ls C hP hS hl
  have hstk : (As.reverse ++ .ref v :: st).map (xc G) = (As.map (xc G)).reverse ++ .ref (xad G v) :: st.map (xc G) := by simp [List.map_append, List.map_reverse, xc]
  rw [hstk]
  have e0 := xw_get G M (xlt hk (by omega))
  rw [xe_o hk hci] at e0
  obtain ⟨cellB, hcB, hoB, hclB⟩ := va_recv C.2.2.2.2.2.2.2.1 hP hc e0
  refine va_callv (va_runV (As := As.map (xc G)) (rest := st.map (xc G)) (C := C0) (b := xad G v) ⟨C.1, C.2.1, C.2.2.1, C.2.2.2.2.1, C.2.2.2.2.2.1⟩ (hM G l C.2.2.2.2.2.2.2.2.1) ⟨callB_of n C.2.2.2.2.2.1 (xG_ws (x := y) (cx := cc) (nx := 0) (rx := none) w5) rfl rfl rfl (by rw [hC]; exact C.2.2.2.2.2.1 _ w4) (C.2.2.2.2.2.1 _ w1) hdsc (xRoom hr hm), C.2.2.2.2.2.1 _ w2, C.2.2.2.2.2.1 _ w3⟩ ⟨xPc_blind G _ M, ⟨cellB, hcB, hoB, hclB⟩, xPc_go C hP hS (.ref v :: As)⟩ rfl (by rw [List.length_map]; exact hlen) hl.1 rfl (lv_room (by rw [xcat]; exact hst)) hd ⟨Nat.zero_le _, Nat.zero_le _⟩) hS (fun _ _ h => h) (fun _ h => h) (fun u t2 H1 o1 ht hvm hpo hB hz hk1 hS1 => ?_)
  exact k u hpo G p l e s m a b t c H1 o1 ls C (by rw [← ht]; exact hB) hS1 hl
theorem x_callS_i {ix n maxL d2 : Nat} {y : MethodName} {bytes : ByteArray} {As : List Value} {Q : Int32 → Mem → Prop} {ty : FieldType} (hd : decode cc pc = .ok (.invokestatic ix, 3)) (q : Nat) (hq : pc + 3 = q) (w1 : Cond.methodLink own ix y ∈ xTs) (w2 : Cond.static y ∈ xTs) (w4 : Cond.initialized y.cls ∈ xTs) (w5 : Cond.code y bytes maxL (some ty) ∈ xTs) (hdsc : y.cls ≠ "java/lang/invoke/MethodHandle" ∧ y.cls ≠ "java/lang/invoke/VarHandle" ∧ (parseMethodDescriptor y.desc).map (fun d => d.parameters.length) = some n) (hlen : As.length = n) (hr : d2 < d) (hm : maxL ≤ 29) (hst : (st.map fun v => v.category).sum ≤ 8) (Sk : List Value) (hSk : Sk = As.reverse ++ st) (hM : xM y bytes maxL (some ty) d2 As M (xQi Q)) (k : ∀ (r : Int32) (N : Mem), Q r N → xX own cc nL rt d q L (.int r :: st) N Rt) : xX own cc nL rt d pc L Sk M Rt := by
  subst hq
  subst hSk
  intro G p l e s m a b t c H o ls C hP hS hl
  have hstk : (As.reverse ++ st).map (xc G) = (As.map (xc G)).reverse ++ st.map (xc G) := by simp [List.map_append, List.map_reverse, xc]
  rw [hstk]
  refine va_calli (va_runS (As := As.map (xc G)) (rest := st.map (xc G)) ⟨C.1, C.2.1, C.2.2.1, C.2.2.2.2.1, C.2.2.2.2.2.1⟩ (hM G l C.2.2.2.2.2.2.2.2.1) ⟨callB_of n C.2.2.2.2.2.1 (xG_ws (x := y) (cx := cc) (nx := 0) (rx := none) w5) rfl rfl rfl (C.2.2.2.2.2.1 _ w4) (C.2.2.2.2.2.1 _ w1) hdsc (xRoom hr hm), C.2.2.2.2.2.1 _ w2⟩ ⟨xPc_blind G _ M, xPc_go C hP hS As⟩ rfl (by rw [List.length_map]; exact hlen) hl.1 rfl (lv_room (by rw [xcat]; exact hst)) hd ⟨Nat.zero_le _, Nat.zero_le _⟩) hS (fun _ _ h => h) (fun _ h => h) (fun r u t2 H1 o1 ht hvm hpo hB hz hk1 hS1 => ?_)
  exact k r u hpo G p l e s m a b t c H1 o1 ls C (by rw [← ht]; exact hB) hS1 hl
theorem x_callS_b {ix n maxL d2 : Nat} {y : MethodName} {bytes : ByteArray} {As : List Value} {Q : Bool → Mem → Prop} (hd : decode cc pc = .ok (.invokestatic ix, 3)) (q : Nat) (hq : pc + 3 = q) (w1 : Cond.methodLink own ix y ∈ xTs) (w2 : Cond.static y ∈ xTs) (w4 : Cond.initialized y.cls ∈ xTs) (w5 : Cond.code y bytes maxL (some .boolean) ∈ xTs) (hdsc : y.cls ≠ "java/lang/invoke/MethodHandle" ∧ y.cls ≠ "java/lang/invoke/VarHandle" ∧ (parseMethodDescriptor y.desc).map (fun d => d.parameters.length) = some n) (hlen : As.length = n) (hr : d2 < d) (hm : maxL ≤ 29) (hst : (st.map fun v => v.category).sum ≤ 8) (Sk : List Value) (hSk : Sk = As.reverse ++ st) (hM : xM y bytes maxL (some .boolean) d2 As M (xQb Q)) (k : ∀ (r : Bool) (N : Mem), Q r N → xX own cc nL rt d q L (.int (bI r) :: st) N Rt) : xX own cc nL rt d pc L Sk M Rt := by
  subst hq
  subst hSk
  intro G p l e s m a b t c H o ls C hP hS hl
  have hstk : (As.reverse ++ st).map (xc G) = (As.map (xc G)).reverse ++ st.map (xc G) := by simp [List.map_append, List.map_reverse, xc]
  rw [hstk]
  refine va_calli (va_runS (As := As.map (xc G)) (rest := st.map (xc G)) ⟨C.1, C.2.1, C.2.2.1, C.2.2.2.2.1, C.2.2.2.2.2.1⟩ (hM G l C.2.2.2.2.2.2.2.2.1) ⟨callB_of n C.2.2.2.2.2.1 (xG_ws (x := y) (cx := cc) (nx := 0) (rx := none) w5) rfl rfl rfl (C.2.2.2.2.2.1 _ w4) (C.2.2.2.2.2.1 _ w1) hdsc (xRoom hr hm), C.2.2.2.2.2.1 _ w2⟩ ⟨xPc_blind G _ M, xPc_go C hP hS As⟩ rfl (by rw [List.length_map]; exact hlen) hl.1 rfl (lv_room (by rw [xcat]; exact hst)) hd ⟨Nat.zero_le _, Nat.zero_le _⟩) hS (fun _ _ h => h) (fun _ h => h) (fun r u t2 H1 o1 ht hvm hpo hB hz hk1 hS1 => ?_)
  obtain ⟨z, rfl, hz2⟩ := hpo
  exact k z u hz2 G p l e s m a b t c H1 o1 ls C (by rw [← ht]; exact hB) hS1 hl
theorem x_callS_v {ix n maxL d2 : Nat} {y : MethodName} {bytes : ByteArray} {As : List Value} {Q : Mem → Prop} (hd : decode cc pc = .ok (.invokestatic ix, 3)) (q : Nat) (hq : pc + 3 = q) (w1 : Cond.methodLink own ix y ∈ xTs) (w2 : Cond.static y ∈ xTs) (w4 : Cond.initialized y.cls ∈ xTs) (w5 : Cond.code y bytes maxL none ∈ xTs) (hdsc : y.cls ≠ "java/lang/invoke/MethodHandle" ∧ y.cls ≠ "java/lang/invoke/VarHandle" ∧ (parseMethodDescriptor y.desc).map (fun d => d.parameters.length) = some n) (hlen : As.length = n) (hr : d2 < d) (hm : maxL ≤ 29) (hst : (st.map fun v => v.category).sum ≤ 8) (Sk : List Value) (hSk : Sk = As.reverse ++ st) (hM : xM y bytes maxL none d2 As M (xQv Q)) (k : ∀ (N : Mem), Q N → xX own cc nL rt d q L st N Rt) : xX own cc nL rt d pc L Sk M Rt := by
  subst hq
  subst hSk
  intro G p l e s m a b t c H o ls C hP hS hl
  have hstk : (As.reverse ++ st).map (xc G) = (As.map (xc G)).reverse ++ st.map (xc G) := by simp [List.map_append, List.map_reverse, xc]
  rw [hstk]
  refine va_callv (va_runS (As := As.map (xc G)) (rest := st.map (xc G)) ⟨C.1, C.2.1, C.2.2.1, C.2.2.2.2.1, C.2.2.2.2.2.1⟩ (hM G l C.2.2.2.2.2.2.2.2.1) ⟨callB_of n C.2.2.2.2.2.1 (xG_ws (x := y) (cx := cc) (nx := 0) (rx := none) w5) rfl rfl rfl (C.2.2.2.2.2.1 _ w4) (C.2.2.2.2.2.1 _ w1) hdsc (xRoom hr hm), C.2.2.2.2.2.1 _ w2⟩ ⟨xPc_blind G _ M, xPc_go C hP hS As⟩ rfl (by rw [List.length_map]; exact hlen) hl.1 rfl (lv_room (by rw [xcat]; exact hst)) hd ⟨Nat.zero_le _, Nat.zero_le _⟩) hS (fun _ _ h => h) (fun _ h => h) (fun u t2 H1 o1 ht hvm hpo hB hz hk1 hS1 => ?_)
  exact k u hpo G p l e s m a b t c H1 o1 ls C (by rw [← ht]; exact hB) hS1 hl
theorem x_callS_l {ix n maxL d2 : Nat} {y : MethodName} {bytes : ByteArray} {As : List Value} {Q : Int64 → Mem → Prop} (hd : decode cc pc = .ok (.invokestatic ix, 3)) (q : Nat) (hq : pc + 3 = q) (w1 : Cond.methodLink own ix y ∈ xTs) (w2 : Cond.static y ∈ xTs) (w4 : Cond.initialized y.cls ∈ xTs) (w5 : Cond.code y bytes maxL (some .long) ∈ xTs) (hdsc : y.cls ≠ "java/lang/invoke/MethodHandle" ∧ y.cls ≠ "java/lang/invoke/VarHandle" ∧ (parseMethodDescriptor y.desc).map (fun d => d.parameters.length) = some n) (hlen : As.length = n) (hr : d2 < d) (hm : maxL ≤ 29) (hst : (st.map fun v => v.category).sum ≤ 8) (Sk : List Value) (hSk : Sk = As.reverse ++ st) (hM : xM y bytes maxL (some .long) d2 As M (xQl Q)) (k : ∀ (r : Int64) (N : Mem), Q r N → xX own cc nL rt d q L (.long r :: st) N Rt) : xX own cc nL rt d pc L Sk M Rt := by
  subst hq
  subst hSk
  intro G p l e s m a b t c H o ls C hP hS hl
  have hstk : (As.reverse ++ st).map (xc G) = (As.map (xc G)).reverse ++ st.map (xc G) := by simp [List.map_append, List.map_reverse, xc]
  rw [hstk]
  refine va_calll (va_runS (As := As.map (xc G)) (rest := st.map (xc G)) ⟨C.1, C.2.1, C.2.2.1, C.2.2.2.2.1, C.2.2.2.2.2.1⟩ (hM G l C.2.2.2.2.2.2.2.2.1) ⟨callB_of n C.2.2.2.2.2.1 (xG_ws (x := y) (cx := cc) (nx := 0) (rx := none) w5) rfl rfl rfl (C.2.2.2.2.2.1 _ w4) (C.2.2.2.2.2.1 _ w1) hdsc (xRoom hr hm), C.2.2.2.2.2.1 _ w2⟩ ⟨xPc_blind G _ M, xPc_go C hP hS As⟩ rfl (by rw [List.length_map]; exact hlen) hl.1 rfl (lv_room (by rw [xcat]; exact hst)) hd ⟨Nat.zero_le _, Nat.zero_le _⟩) hS (fun _ _ h => h) (fun _ h => h) (fun r u t2 H1 o1 ht hvm hpo hB hz hk1 hS1 => ?_)
  exact k r u hpo G p l e s m a b t c H1 o1 ls C (by rw [← ht]; exact hB) hS1 hl
theorem x_callS_r {ix n maxL d2 : Nat} {y : MethodName} {bytes : ByteArray} {As : List Value} {Q : Nat → Mem → Prop} {ty : FieldType} (hd : decode cc pc = .ok (.invokestatic ix, 3)) (q : Nat) (hq : pc + 3 = q) (w1 : Cond.methodLink own ix y ∈ xTs) (w2 : Cond.static y ∈ xTs) (w4 : Cond.initialized y.cls ∈ xTs) (w5 : Cond.code y bytes maxL (some ty) ∈ xTs) (hdsc : y.cls ≠ "java/lang/invoke/MethodHandle" ∧ y.cls ≠ "java/lang/invoke/VarHandle" ∧ (parseMethodDescriptor y.desc).map (fun d => d.parameters.length) = some n) (hlen : As.length = n) (hr : d2 < d) (hm : maxL ≤ 29) (hst : (st.map fun v => v.category).sum ≤ 8) (Sk : List Value) (hSk : Sk = As.reverse ++ st) (hM : xM y bytes maxL (some ty) d2 As M (xQr Q)) (k : ∀ (r : Nat) (N : Mem), Q r N → xX own cc nL rt d q L (.ref r :: st) N Rt) : xX own cc nL rt d pc L Sk M Rt := by
  subst hq
  subst hSk
  intro G p l e s m a b t c H o ls C hP hS hl
  have hstk : (As.reverse ++ st).map (xc G) = (As.map (xc G)).reverse ++ st.map (xc G) := by simp [List.map_append, List.map_reverse, xc]
  rw [hstk]
  refine va_callr (va_runS (As := As.map (xc G)) (rest := st.map (xc G)) ⟨C.1, C.2.1, C.2.2.1, C.2.2.2.2.1, C.2.2.2.2.2.1⟩ (hM G l C.2.2.2.2.2.2.2.2.1) ⟨callB_of n C.2.2.2.2.2.1 (xG_ws (x := y) (cx := cc) (nx := 0) (rx := none) w5) rfl rfl rfl (C.2.2.2.2.2.1 _ w4) (C.2.2.2.2.2.1 _ w1) hdsc (xRoom hr hm), C.2.2.2.2.2.1 _ w2⟩ ⟨xPc_blind G _ M, xPc_go C hP hS As⟩ rfl (by rw [List.length_map]; exact hlen) hl.1 rfl (lv_room (by rw [xcat]; exact hst)) hd ⟨Nat.zero_le _, Nat.zero_le _⟩) hS (fun _ _ h => h) (fun _ h => h) (fun u ra t2 H1 o1 ht hvm hpo hB hz hk1 hS1 => ?_)
  obtain ⟨rfl, hB⟩ := hB
  exact k u.1 u.2 hpo G p l e s m a b t c H1 o1 ls C (by rw [← ht]; exact hB) hS1 hl
theorem x_callN_i {ix n maxL d2 : Nat} {y : MethodName} {bytes : ByteArray} {As : List Value} {Q : Int32 → Mem → Prop} {ty : FieldType} {host : String} (hd : decode cc pc = .ok (.invokestatic ix, 3)) (q : Nat) (hq : pc + 3 = q) (w1 : Cond.methodLinkNest own ix y host ∈ tables_1) (w2 : Cond.static y ∈ xTs) (w4 : Cond.initialized y.cls ∈ xTs) (w5 : Cond.code y bytes maxL (some ty) ∈ xTs) (hdsc : y.cls ≠ "java/lang/invoke/MethodHandle" ∧ y.cls ≠ "java/lang/invoke/VarHandle" ∧ (parseMethodDescriptor y.desc).map (fun d => d.parameters.length) = some n) (hlen : As.length = n) (hr : d2 < d) (hm : maxL ≤ 29) (hst : (st.map fun v => v.category).sum ≤ 8) (Sk : List Value) (hSk : Sk = As.reverse ++ st) (hM : xM y bytes maxL (some ty) d2 As M (xQi Q)) (k : ∀ (r : Int32) (N : Mem), Q r N → xX own cc nL rt d q L (.int r :: st) N Rt) : xX own cc nL rt d pc L Sk M Rt := by
  subst hq
  subst hSk
  intro G p l e s m a b t c H o ls C hP hS hl
  have hstk : (As.reverse ++ st).map (xc G) = (As.map (xc G)).reverse ++ st.map (xc G) := by simp [List.map_append, List.map_reverse, xc]
  rw [hstk]
  refine va_calli (va_runSN (As := As.map (xc G)) (rest := st.map (xc G)) ⟨C.1, C.2.1, C.2.2.1, C.2.2.2.2.1, C.2.2.2.2.2.1⟩ (hM G l C.2.2.2.2.2.2.2.2.1) ⟨va_cnB n C.2.2.2.2.2.1 (xG_ws (x := y) (cx := cc) (nx := 0) (rx := none) w5) rfl rfl rfl (C.2.2.2.2.2.2.2.2.2.1 _ _ _ _ w1) (C.2.2.2.2.2.1 _ w4) hdsc (xRoom hr hm), C.2.2.2.2.2.1 _ w2, trivial⟩ ⟨xPc_blind G _ M, xPc_go C hP hS As⟩ rfl (by rw [List.length_map]; exact hlen) hl.1 rfl (lv_room (by rw [xcat]; exact hst)) hd ⟨Nat.zero_le _, Nat.zero_le _⟩) hS (fun _ _ h => h) (fun _ h => h) (fun r u t2 H1 o1 ht hvm hpo hB hz hk1 hS1 => ?_)
  exact k r u hpo G p l e s m a b t c H1 o1 ls C (by rw [← ht]; exact hB) hS1 hl
theorem x_callN_b {ix n maxL d2 : Nat} {y : MethodName} {bytes : ByteArray} {As : List Value} {Q : Bool → Mem → Prop} {host : String} (hd : decode cc pc = .ok (.invokestatic ix, 3)) (q : Nat) (hq : pc + 3 = q) (w1 : Cond.methodLinkNest own ix y host ∈ tables_1) (w2 : Cond.static y ∈ xTs) (w4 : Cond.initialized y.cls ∈ xTs) (w5 : Cond.code y bytes maxL (some .boolean) ∈ xTs) (hdsc : y.cls ≠ "java/lang/invoke/MethodHandle" ∧ y.cls ≠ "java/lang/invoke/VarHandle" ∧ (parseMethodDescriptor y.desc).map (fun d => d.parameters.length) = some n) (hlen : As.length = n) (hr : d2 < d) (hm : maxL ≤ 29) (hst : (st.map fun v => v.category).sum ≤ 8) (Sk : List Value) (hSk : Sk = As.reverse ++ st) (hM : xM y bytes maxL (some .boolean) d2 As M (xQb Q)) (k : ∀ (r : Bool) (N : Mem), Q r N → xX own cc nL rt d q L (.int (bI r) :: st) N Rt) : xX own cc nL rt d pc L Sk M Rt := by
  subst hq
  subst hSk
  intro G p l e s m a b t c H o ls C hP hS hl
  have hstk : (As.reverse ++ st).map (xc G) = (As.map (xc G)).reverse ++ st.map (xc G) := by simp [List.map_append, List.map_reverse, xc]
  rw [hstk]
  refine va_calli (va_runSN (As := As.map (xc G)) (rest := st.map (xc G)) ⟨C.1, C.2.1, C.2.2.1, C.2.2.2.2.1, C.2.2.2.2.2.1⟩ (hM G l C.2.2.2.2.2.2.2.2.1) ⟨va_cnB n C.2.2.2.2.2.1 (xG_ws (x := y) (cx := cc) (nx := 0) (rx := none) w5) rfl rfl rfl (C.2.2.2.2.2.2.2.2.2.1 _ _ _ _ w1) (C.2.2.2.2.2.1 _ w4) hdsc (xRoom hr hm), C.2.2.2.2.2.1 _ w2, trivial⟩ ⟨xPc_blind G _ M, xPc_go C hP hS As⟩ rfl (by rw [List.length_map]; exact hlen) hl.1 rfl (lv_room (by rw [xcat]; exact hst)) hd ⟨Nat.zero_le _, Nat.zero_le _⟩) hS (fun _ _ h => h) (fun _ h => h) (fun r u t2 H1 o1 ht hvm hpo hB hz hk1 hS1 => ?_)
  obtain ⟨z, rfl, hz2⟩ := hpo
  exact k z u hz2 G p l e s m a b t c H1 o1 ls C (by rw [← ht]; exact hB) hS1 hl
theorem x_callN_v {ix n maxL d2 : Nat} {y : MethodName} {bytes : ByteArray} {As : List Value} {Q : Mem → Prop} {host : String} (hd : decode cc pc = .ok (.invokestatic ix, 3)) (q : Nat) (hq : pc + 3 = q) (w1 : Cond.methodLinkNest own ix y host ∈ tables_1) (w2 : Cond.static y ∈ xTs) (w4 : Cond.initialized y.cls ∈ xTs) (w5 : Cond.code y bytes maxL none ∈ xTs) (hdsc : y.cls ≠ "java/lang/invoke/MethodHandle" ∧ y.cls ≠ "java/lang/invoke/VarHandle" ∧ (parseMethodDescriptor y.desc).map (fun d => d.parameters.length) = some n) (hlen : As.length = n) (hr : d2 < d) (hm : maxL ≤ 29) (hst : (st.map fun v => v.category).sum ≤ 8) (Sk : List Value) (hSk : Sk = As.reverse ++ st) (hM : xM y bytes maxL none d2 As M (xQv Q)) (k : ∀ (N : Mem), Q N → xX own cc nL rt d q L st N Rt) : xX own cc nL rt d pc L Sk M Rt := by
  subst hq
  subst hSk
  intro G p l e s m a b t c H o ls C hP hS hl
  have hstk : (As.reverse ++ st).map (xc G) = (As.map (xc G)).reverse ++ st.map (xc G) := by simp [List.map_append, List.map_reverse, xc]
  rw [hstk]
  refine va_callv (va_runSN (As := As.map (xc G)) (rest := st.map (xc G)) ⟨C.1, C.2.1, C.2.2.1, C.2.2.2.2.1, C.2.2.2.2.2.1⟩ (hM G l C.2.2.2.2.2.2.2.2.1) ⟨va_cnB n C.2.2.2.2.2.1 (xG_ws (x := y) (cx := cc) (nx := 0) (rx := none) w5) rfl rfl rfl (C.2.2.2.2.2.2.2.2.2.1 _ _ _ _ w1) (C.2.2.2.2.2.1 _ w4) hdsc (xRoom hr hm), C.2.2.2.2.2.1 _ w2, trivial⟩ ⟨xPc_blind G _ M, xPc_go C hP hS As⟩ rfl (by rw [List.length_map]; exact hlen) hl.1 rfl (lv_room (by rw [xcat]; exact hst)) hd ⟨Nat.zero_le _, Nat.zero_le _⟩) hS (fun _ _ h => h) (fun _ h => h) (fun u t2 H1 o1 ht hvm hpo hB hz hk1 hS1 => ?_)
  exact k u hpo G p l e s m a b t c H1 o1 ls C (by rw [← ht]; exact hB) hS1 hl
theorem x_copy {ix v w N1 N2 : Nat} {sp dp n : Int32} (hd : decode cc pc = .ok (.invokestatic ix, 3)) (q : Nat) (hq : pc + 3 = q) (w1 : Cond.methodLink own ix arraycopyName ∈ xTs) (w2 : Cond.native arraycopyName ∈ xTs) (w3 : Cond.static arraycopyName ∈ xTs) (w4 : Cond.initialized "java/lang/System" ∈ xTs) (hk1 : SHk v = 13 ∧ SHn v = N1) (hk2 : SHk w = 13 ∧ SHn w = N2)
    (h1 : ¬ sp < 0) (h2 : ¬ dp < 0) (h3 : ¬ n < 0) (h4 : sp.toNatClampNeg + n.toNatClampNeg ≤ N1) (h5 : dp.toNatClampNeg + n.toNatClampNeg ≤ N2) (hr : 0 < d) (hst : (st.map fun v => v.category).sum ≤ 8) (k : xX own cc nL rt d q L st (xuC M w (va_cpy (M v) (M w) sp.toNatClampNeg dp.toNatClampNeg n.toNatClampNeg)) Rt) : xX own cc nL rt d pc L (.int n :: .int dp :: .ref w :: .int sp :: .ref v :: st) M Rt := by
  subst hq
  intro G p l e s m a b t c H o ls C hP hS hl
  have hv := xlt hk1.1 (by decide)
  have hw := xlt hk2.1 (by decide)
  have e1 := xw_get G M hv
  have e2 := xw_get G M hw
  rw [xe_i hk1.1, hk1.2] at e1
  rw [xe_i hk2.1, hk2.2] at e2
  refine va_copyi C.1 C.2.1 (by rw [C.2.2.1]; exact hl.1.symm) C.2.2.2.2.1 (C.2.2.2.2.2.1 _ w1) (C.2.2.2.2.2.1 _ w2) (C.2.2.2.2.2.1 _ w3) (C.2.2.2.2.2.1 _ w4) C.2.2.2.2.2.2.2.1 hP (xw_D C.2.2.2.2.2.2.2.2.1 M) hS v w 0 0 e1 e2 rfl rfl rfl h1 h2 h3 h4 h5 (fun _ _ => rfl) (by show 1 ≤ d; omega) ?_ hd (fun H1 o1 hP1 _ hS1 => k G p l e s m a b t c H1 o1 ls C ?_ hS1 hl)
  · show ((st.map (xc G)).map fun v => v.category).sum + (nativeFrameWords "java/lang/System" "arraycopy" 5 + 11) ≤ 48 * d
    rw [xcat]
    have : nativeFrameWords "java/lang/System" "arraycopy" 5 = 7 := by decide
    omega
  · have e3 := xw_set G M hw (va_cpy (M v) (M w) sp.toNatClampNeg dp.toNatClampNeg n.toNatClampNeg)
    rw [xe_i hk2.1, hk2.2] at e3
    rw [e3] at hP1
    exact hP1
theorem x_callK_i {ix n maxL d2 k : Nat} {y : MethodName} {bytes : ByteArray} {As : List Value} {Q : Int32 → Mem → Prop} {ty : FieldType} (hk : k < 4) (hd : decode cc pc = .ok (.invokevirtual ix, 3)) (q : Nat) (hq : pc + 3 = q) (hC : y.cls = "java/lang/String") (w1 : Cond.methodLink own ix y ∈ xTs) (w2 : Cond.instanceMethod y ∈ xTs) (w3 : Cond.selects "java/lang/String" y y ∈ xTs) (w4 : Cond.initialized "java/lang/String" ∈ xTs) (w5 : Cond.code y bytes maxL (some ty) ∈ xTs) (hdsc : y.cls ≠ "java/lang/invoke/MethodHandle" ∧ y.cls ≠ "java/lang/invoke/VarHandle" ∧ (parseMethodDescriptor y.desc).map (fun d => d.parameters.length) = some n) (hlen : As.length = n) (hr : d2 < d) (hm : maxL ≤ 29) (hst : (st.map fun v => v.category).sum ≤ 8) (Sk : List Value) (hSk : Sk = As.reverse ++ .ref (1000 + k) :: st) (hM : xM y bytes maxL (some ty) d2 (.ref (1000 + k) :: As) M (xQi Q)) (kk : ∀ (r : Int32) (N : Mem), Q r N → xX own cc nL rt d q L (.int r :: st) N Rt) : xX own cc nL rt d pc L Sk M Rt := by
  subst hq
  subst hSk
  intro G p l e s m a b t c H o ls C hP hS hl
  have hstk : (As.reverse ++ .ref (1000 + k) :: st).map (xc G) = (As.map (xc G)).reverse ++ .ref (xad G (1000 + k)) :: st.map (xc G) := by simp [List.map_append, List.map_reverse, xc]
  rw [hstk]
  obtain ⟨cellB, hcB, hoB, hclB⟩ := vk_recv C.2.2.2.2.2.2.2.2.2.2.1 hk hS
  refine va_calli (va_runV (As := As.map (xc G)) (rest := st.map (xc G)) (C := "java/lang/String") (b := xad G (1000 + k)) ⟨C.1, C.2.1, C.2.2.1, C.2.2.2.2.1, C.2.2.2.2.2.1⟩ (hM G l C.2.2.2.2.2.2.2.2.1) ⟨callB_of n C.2.2.2.2.2.1 (xG_ws (x := y) (cx := cc) (nx := 0) (rx := none) w5) rfl rfl rfl (by rw [hC]; exact C.2.2.2.2.2.1 _ w4) (C.2.2.2.2.2.1 _ w1) hdsc (xRoom hr hm), C.2.2.2.2.2.1 _ w2, C.2.2.2.2.2.1 _ w3⟩ ⟨xPc_blind G _ M, ⟨cellB, hcB, hoB, hclB⟩, xPc_go C hP hS (.ref (1000 + k) :: As)⟩ rfl (by rw [List.length_map]; exact hlen) hl.1 rfl (lv_room (by rw [xcat]; exact hst)) hd ⟨Nat.zero_le _, Nat.zero_le _⟩) hS (fun _ _ h => h) (fun _ h => h) (fun r u t2 H1 o1 ht hvm hpo hB hz hk1 hS1 => ?_)
  exact kk r u hpo G p l e s m a b t c H1 o1 ls C (by rw [← ht]; exact hB) hS1 hl
theorem x_strval {ix k : Nat} (hk : k < 4) (hd : decode cc pc = .ok (.getfield ix, 3)) (hw : Cond.fieldLink own ix "java/lang/String" "value" "[B" ∈ xTs) (q : Nat) (hq : pc + 3 = q) (k9 : xX own cc nL rt d q L (.ref (2000 + k) :: st) M Rt) : xX own cc nL rt d pc L (.ref (1000 + k) :: st) M Rt := by
  subst hq
  intro G p l e s m a b t c H o ls C hP hS hl
  exact vk_getf C.1 C.2.1 (C.2.2.2.2.2.2.2.2.2.2.1.1 k hk).2.2.1 hS C.2.2.2.2.1 (C.2.2.2.2.2.1 _ hw) (fun _ h => h) hd (k9 G p l e s m a b t c H o ls C hP hS hl)
theorem x_strcod {ix k : Nat} (hk : k < 4) (hd : decode cc pc = .ok (.getfield ix, 3)) (hw : Cond.fieldLink own ix "java/lang/String" "coder" "B" ∈ xTs) (q : Nat) (hq : pc + 3 = q) (k9 : xX own cc nL rt d q L (.int 0 :: st) M Rt) : xX own cc nL rt d pc L (.ref (1000 + k) :: st) M Rt := by
  subst hq
  intro G p l e s m a b t c H o ls C hP hS hl
  exact vk_getf C.1 C.2.1 (C.2.2.2.2.2.2.2.2.2.2.1.1 k hk).2.1 hS C.2.2.2.2.1 (C.2.2.2.2.2.1 _ hw) (fun _ h => h) hd (k9 G p l e s m a b t c H o ls C hP hS hl)
theorem x_strln {k : Nat} (hk : k < 4) (hd : decode cc pc = .ok (.arraylength, 1)) (q : Nat) (hq : pc + 1 = q) (k9 : xX own cc nL rt d q L (.int (Int32.ofNat (xSL.getD k 0)) :: st) M Rt) : xX own cc nL rt d pc L (.ref (2000 + k) :: st) M Rt := by
  subst hq
  intro G p l e s m a b t c H o ls C hP hS hl
  exact va_tlen C.1 C.2.1 (C.2.2.2.2.2.2.2.2.2.2.1.1 k hk).2.2.2 hS rfl hd (k9 G p l e s m a b t c H o ls C hP hS hl)
theorem x_strby {k : Nat} {i : Int32} (hk : k < 4) (hin : vp_in i (xSL.getD k 0)) (hd : decode cc pc = .ok (.baload, 1)) (q : Nat) (hq : pc + 1 = q) (k9 : xX own cc nL rt d q L (.int ((xSB.getD k []).getD i.toNatClampNeg 0) :: st) M Rt) : xX own cc nL rt d pc L (.int i :: .ref (2000 + k) :: st) M Rt := by
  subst hq
  intro G p l e s m a b t c H o ls C hP hS hl
  exact va_tb C.1 C.2.1 (C.2.2.2.2.2.2.2.2.2.2.1.1 k hk).2.2.2 hS hin rfl hd (k9 G p l e s m a b t c H o ls C hP hS hl)
theorem x_strcs {ix : Nat} (hd : decode cc pc = .ok (.getstatic ix, 3)) (hw : Cond.fieldLink own ix "java/lang/String" "COMPACT_STRINGS" "Z" ∈ xTs) (q : Nat) (hq : pc + 3 = q) (k9 : xX own cc nL rt d q L (.int 1 :: st) M Rt) : xX own cc nL rt d pc L st M Rt := by
  subst hq
  intro G p l e s m a b t c H o ls C hP hS hl
  exact va_gets C.1 C.2.1 C.2.2.2.2.2.2.2.2.2.2.2.1 hS C.2.2.2.2.1 (C.2.2.2.2.2.1 _ hw) (fun _ h => h) hd (k9 G p l e s m a b t c H o ls C hP hS hl)
theorem x_fmt {ix : Nat} (hd : decode cc pc = .ok (.getstatic ix, 3)) (hw : Cond.fieldLink own ix "jdk/internal/util/Preconditions" "SIOOBE_FORMATTER" "Ljava/util/function/BiFunction;" ∈ xTs) (q : Nat) (hq : pc + 3 = q) (k9 : ∀ v : Value, v.category = 1 → xX own cc nL rt d q L (v :: st) M Rt) : xX own cc nL rt d pc L st M Rt := by
  subst hq
  intro G p l e s m a b t c H o ls C hP hS hl
  rcases C.2.2.2.2.2.2.2.2.2.2.2.2.2.2.2.2 with h | h
  · exact va_gets C.1 C.2.1 h hS C.2.2.2.2.1 (C.2.2.2.2.2.1 _ hw) (fun _ h => h) hd (k9 .null rfl G p l e s m a b t c H o ls C hP hS hl)
  · exact va_gets C.1 C.2.1 h hS C.2.2.2.2.1 (C.2.2.2.2.2.1 _ hw) (fun _ h => h) hd (k9 (.ref 3000) rfl G p l e s m a b t c H o ls C hP hS hl)
theorem x_ldcs0 (hd : decode cc pc = .ok (.ldc 105, 2)) (q : Nat) (hq : pc + 2 = q) (k9 : xX RX5 cc nL rt d q L (.ref 1000 :: st) M Rt) : xX RX5 cc nL rt d pc L st M Rt := by
  subst hq
  intro G p l e s m a b t c H o ls C hP hS hl
  exact va_ldcS C.1 C.2.1 C.2.2.2.2.1 C.2.2.2.2.2.2.2.2.2.2.2.2.1 hd (k9 G p l e s m a b t c H o ls C hP hS hl)
theorem x_ldcs1 (hd : decode cc pc = .ok (.ldc 107, 2)) (q : Nat) (hq : pc + 2 = q) (k9 : xX RX5 cc nL rt d q L (.ref 1001 :: st) M Rt) : xX RX5 cc nL rt d pc L st M Rt := by
  subst hq
  intro G p l e s m a b t c H o ls C hP hS hl
  exact va_ldcS C.1 C.2.1 C.2.2.2.2.1 C.2.2.2.2.2.2.2.2.2.2.2.2.2.1 hd (k9 G p l e s m a b t c H o ls C hP hS hl)
theorem x_ldcs2 (hd : decode cc pc = .ok (.ldc 109, 2)) (q : Nat) (hq : pc + 2 = q) (k9 : xX RX5 cc nL rt d q L (.ref 1002 :: st) M Rt) : xX RX5 cc nL rt d pc L st M Rt := by
  subst hq
  intro G p l e s m a b t c H o ls C hP hS hl
  exact va_ldcS C.1 C.2.1 C.2.2.2.2.1 C.2.2.2.2.2.2.2.2.2.2.2.2.2.2.1 hd (k9 G p l e s m a b t c H o ls C hP hS hl)
theorem x_ldcs3 (hd : decode cc pc = .ok (.ldc 111, 2)) (q : Nat) (hq : pc + 2 = q) (k9 : xX RX5 cc nL rt d q L (.ref 1003 :: st) M Rt) : xX RX5 cc nL rt d pc L st M Rt := by
  subst hq
  intro G p l e s m a b t c H o ls C hP hS hl
  exact va_ldcS C.1 C.2.1 C.2.2.2.2.1 C.2.2.2.2.2.2.2.2.2.2.2.2.2.2.2.1 hd (k9 G p l e s m a b t c H o ls C hP hS hl)
end XC
def xnp : List (MethodName × Nat) → Nat → Option (MethodName × Nat)
  | [], _ => none
  | a :: _, 0 => some a
  | _ :: l, n + 1 => xnp l n
theorem xnp_mem : ∀ {l : List (MethodName × Nat)} (n : Nat) {w : MethodName × Nat}, xnp l n = some w → w ∈ l
  | [], _, _, h => by cases h
  | a :: l, 0, w, h => by cases h; exact List.mem_cons_self
  | a :: l, n + 1, w, h => List.mem_cons_of_mem _ (xnp_mem n h)
theorem xpv {y : MethodName} {n : Nat} (h : (y, n) ∈ lw_privs) : Cond.selects y.cls y y ∈ xTs := xTs_of (List.mem_append_left _ (List.mem_map.mpr ⟨(y, n), h, rfl⟩)) rfl
theorem xp_1 {q : MethodName × Nat} (h : q ∈ lw_privs_1) : q ∈ lw_privs := by unfold lw_privs; exact List.mem_append_left _ h
theorem ks1_0 : Cond.selects "PillarSaints$World" ⟨"PillarSaints$World", "nextBelow", "(I)I"⟩ ⟨"PillarSaints$World", "nextBelow", "(I)I"⟩ ∈ xTs := xpv (xp_1 (xnp_mem 0 rfl : ((⟨"PillarSaints$World", "nextBelow", "(I)I"⟩ : MethodName), 19) ∈ lw_privs_1))
theorem ks1_1 : Cond.selects "PillarSaints$World" ⟨"PillarSaints$World", "leaveGround", "(I)V"⟩ ⟨"PillarSaints$World", "leaveGround", "(I)V"⟩ ∈ xTs := xpv (xp_1 (xnp_mem 1 rfl : ((⟨"PillarSaints$World", "leaveGround", "(I)V"⟩ : MethodName), 19) ∈ lw_privs_1))
theorem ks1_2 : Cond.selects "PillarSaints$World" ⟨"PillarSaints$World", "joinGround", "(I)V"⟩ ⟨"PillarSaints$World", "joinGround", "(I)V"⟩ ∈ xTs := xpv (xp_1 (xnp_mem 2 rfl : ((⟨"PillarSaints$World", "joinGround", "(I)V"⟩ : MethodName), 19) ∈ lw_privs_1))
theorem ks1_3 : Cond.selects "PillarSaints$Past" ⟨"PillarSaints$Past", "forgetOldest", "()V"⟩ ⟨"PillarSaints$Past", "forgetOldest", "()V"⟩ ∈ xTs := xpv (xp_1 (xnp_mem 3 rfl : ((⟨"PillarSaints$Past", "forgetOldest", "()V"⟩ : MethodName), 2) ∈ lw_privs_1))
theorem ks1_4 : Cond.selects "PillarSaints$Plan" ⟨"PillarSaints$Plan", "carryOutLine", "(ILPillarSaints$World;)V"⟩ ⟨"PillarSaints$Plan", "carryOutLine", "(ILPillarSaints$World;)V"⟩ ∈ xTs := xpv (xp_1 (xnp_mem 4 rfl : ((⟨"PillarSaints$Plan", "carryOutLine", "(ILPillarSaints$World;)V"⟩ : MethodName), 5) ∈ lw_privs_1))
theorem ks1_5 : Cond.selects "PillarSaints$Desert" ⟨"PillarSaints$Desert", "lowerBasket", "(LPillarSaints$World;)V"⟩ ⟨"PillarSaints$Desert", "lowerBasket", "(LPillarSaints$World;)V"⟩ ∈ xTs := xpv (xp_1 (xnp_mem 5 rfl : ((⟨"PillarSaints$Desert", "lowerBasket", "(LPillarSaints$World;)V"⟩ : MethodName), 6) ∈ lw_privs_1))
theorem ks1_6 : Cond.selects "PillarSaints$Law" ⟨"PillarSaints$Law", "run", "(IILPillarSaints$World;I)I"⟩ ⟨"PillarSaints$Law", "run", "(IILPillarSaints$World;I)I"⟩ ∈ xTs := xpv (xp_1 (xnp_mem 6 rfl : ((⟨"PillarSaints$Law", "run", "(IILPillarSaints$World;I)I"⟩ : MethodName), 8) ∈ lw_privs_1))
theorem ks1_7 : Cond.selects "PillarSaints$Desert" ⟨"PillarSaints$Desert", "lowerAdvice", "(LPillarSaints$World;)V"⟩ ⟨"PillarSaints$Desert", "lowerAdvice", "(LPillarSaints$World;)V"⟩ ∈ xTs := xpv (xp_1 (xnp_mem 7 rfl : ((⟨"PillarSaints$Desert", "lowerAdvice", "(LPillarSaints$World;)V"⟩ : MethodName), 6) ∈ lw_privs_1))
theorem ks1_8 : Cond.selects "PillarSaints$Desert" ⟨"PillarSaints$Desert", "leanAll", "(LPillarSaints$World;)V"⟩ ⟨"PillarSaints$Desert", "leanAll", "(LPillarSaints$World;)V"⟩ ∈ xTs := xpv (xp_1 (xnp_mem 8 rfl : ((⟨"PillarSaints$Desert", "leanAll", "(LPillarSaints$World;)V"⟩ : MethodName), 6) ∈ lw_privs_1))
theorem ks1_9 : Cond.selects "PillarSaints$Desert" ⟨"PillarSaints$Desert", "letDie", "(LPillarSaints$World;Z)I"⟩ ⟨"PillarSaints$Desert", "letDie", "(LPillarSaints$World;Z)I"⟩ ∈ xTs := xpv (xp_1 (xnp_mem 9 rfl : ((⟨"PillarSaints$Desert", "letDie", "(LPillarSaints$World;Z)I"⟩ : MethodName), 6) ∈ lw_privs_1))
theorem ks1_10 : Cond.selects "PillarSaints$World" ⟨"PillarSaints$World", "aheadOnGround", "(I)I"⟩ ⟨"PillarSaints$World", "aheadOnGround", "(I)I"⟩ ∈ xTs := xpv (xp_1 (xnp_mem 10 rfl : ((⟨"PillarSaints$World", "aheadOnGround", "(I)I"⟩ : MethodName), 19) ∈ lw_privs_1))
theorem ks1_11 : Cond.selects "PillarSaints" ⟨"PillarSaints", "putNumber", "(I)V"⟩ ⟨"PillarSaints", "putNumber", "(I)V"⟩ ∈ xTs := xpv (xp_1 (xnp_mem 11 rfl : ((⟨"PillarSaints", "putNumber", "(I)V"⟩ : MethodName), 9) ∈ lw_privs_1))
theorem ks1_12 : Cond.selects "PillarSaints$Tokens" ⟨"PillarSaints$Tokens", "add", "(III)V"⟩ ⟨"PillarSaints$Tokens", "add", "(III)V"⟩ ∈ xTs := xpv (xp_1 (xnp_mem 12 rfl : ((⟨"PillarSaints$Tokens", "add", "(III)V"⟩ : MethodName), 4) ∈ lw_privs_1))
theorem ks1_13 : Cond.selects "PillarSaints$Reader" ⟨"PillarSaints$Reader", "kind", "()I"⟩ ⟨"PillarSaints$Reader", "kind", "()I"⟩ ∈ xTs := xpv (xp_1 (xnp_mem 13 rfl : ((⟨"PillarSaints$Reader", "kind", "()I"⟩ : MethodName), 12) ∈ lw_privs_1))
theorem ks1_14 : Cond.selects "PillarSaints$Reader" ⟨"PillarSaints$Reader", "lawLine", "()Z"⟩ ⟨"PillarSaints$Reader", "lawLine", "()Z"⟩ ∈ xTs := xpv (xp_1 (xnp_mem 14 rfl : ((⟨"PillarSaints$Reader", "lawLine", "()Z"⟩ : MethodName), 12) ∈ lw_privs_1))
theorem ks1_15 : Cond.selects "PillarSaints$Reader" ⟨"PillarSaints$Reader", "isWord", "(I)Z"⟩ ⟨"PillarSaints$Reader", "isWord", "(I)Z"⟩ ∈ xTs := xpv (xp_1 (xnp_mem 15 rfl : ((⟨"PillarSaints$Reader", "isWord", "(I)Z"⟩ : MethodName), 12) ∈ lw_privs_1))
theorem xp_2 {q : MethodName × Nat} (h : q ∈ lw_privs_2) : q ∈ lw_privs := by unfold lw_privs; exact List.mem_append_right _ (List.mem_append_left _ h)
theorem ks2_0 : Cond.selects "PillarSaints$Reader" ⟨"PillarSaints$Reader", "begin", "(I)Z"⟩ ⟨"PillarSaints$Reader", "begin", "(I)Z"⟩ ∈ xTs := xpv (xp_2 (xnp_mem 0 rfl : ((⟨"PillarSaints$Reader", "begin", "(I)Z"⟩ : MethodName), 12) ∈ lw_privs_2))
theorem ks2_1 : Cond.selects "PillarSaints$Reader" ⟨"PillarSaints$Reader", "refuse", "(I)Z"⟩ ⟨"PillarSaints$Reader", "refuse", "(I)Z"⟩ ∈ xTs := xpv (xp_2 (xnp_mem 1 rfl : ((⟨"PillarSaints$Reader", "refuse", "(I)Z"⟩ : MethodName), 12) ∈ lw_privs_2))
theorem ks2_2 : Cond.selects "PillarSaints$Reader" ⟨"PillarSaints$Reader", "sum", "()Z"⟩ ⟨"PillarSaints$Reader", "sum", "()Z"⟩ ∈ xTs := xpv (xp_2 (xnp_mem 2 rfl : ((⟨"PillarSaints$Reader", "sum", "()Z"⟩ : MethodName), 12) ∈ lw_privs_2))
theorem ks2_3 : Cond.selects "PillarSaints$Reader" ⟨"PillarSaints$Reader", "unit", "()Z"⟩ ⟨"PillarSaints$Reader", "unit", "()Z"⟩ ∈ xTs := xpv (xp_2 (xnp_mem 3 rfl : ((⟨"PillarSaints$Reader", "unit", "()Z"⟩ : MethodName), 12) ∈ lw_privs_2))
theorem ks2_4 : Cond.selects "PillarSaints$Reader" ⟨"PillarSaints$Reader", "numberHere", "()I"⟩ ⟨"PillarSaints$Reader", "numberHere", "()I"⟩ ∈ xTs := xpv (xp_2 (xnp_mem 4 rfl : ((⟨"PillarSaints$Reader", "numberHere", "()I"⟩ : MethodName), 12) ∈ lw_privs_2))
theorem ks2_5 : Cond.selects "PillarSaints$Reader" ⟨"PillarSaints$Reader", "number", "(II)Z"⟩ ⟨"PillarSaints$Reader", "number", "(II)Z"⟩ ∈ xTs := xpv (xp_2 (xnp_mem 5 rfl : ((⟨"PillarSaints$Reader", "number", "(II)Z"⟩ : MethodName), 12) ∈ lw_privs_2))
theorem ks2_6 : Cond.selects "PillarSaints$Reader" ⟨"PillarSaints$Reader", "condition", "(I)Z"⟩ ⟨"PillarSaints$Reader", "condition", "(I)Z"⟩ ∈ xTs := xpv (xp_2 (xnp_mem 6 rfl : ((⟨"PillarSaints$Reader", "condition", "(I)Z"⟩ : MethodName), 12) ∈ lw_privs_2))
theorem ks2_7 : Cond.selects "PillarSaints$Reader" ⟨"PillarSaints$Reader", "comparison", "(I)Z"⟩ ⟨"PillarSaints$Reader", "comparison", "(I)Z"⟩ ∈ xTs := xpv (xp_2 (xnp_mem 7 rfl : ((⟨"PillarSaints$Reader", "comparison", "(I)Z"⟩ : MethodName), 12) ∈ lw_privs_2))
theorem ks2_8 : Cond.selects "PillarSaints$Reader" ⟨"PillarSaints$Reader", "take", "(I)Z"⟩ ⟨"PillarSaints$Reader", "take", "(I)Z"⟩ ∈ xTs := xpv (xp_2 (xnp_mem 8 rfl : ((⟨"PillarSaints$Reader", "take", "(I)Z"⟩ : MethodName), 12) ∈ lw_privs_2))
theorem ks2_9 : Cond.selects "PillarSaints$Reader" ⟨"PillarSaints$Reader", "skyLine", "()Z"⟩ ⟨"PillarSaints$Reader", "skyLine", "()Z"⟩ ∈ xTs := xpv (xp_2 (xnp_mem 9 rfl : ((⟨"PillarSaints$Reader", "skyLine", "()Z"⟩ : MethodName), 12) ∈ lw_privs_2))
theorem ks2_10 : Cond.selects "PillarSaints$Reader" ⟨"PillarSaints$Reader", "planLine", "()Z"⟩ ⟨"PillarSaints$Reader", "planLine", "()Z"⟩ ∈ xTs := xpv (xp_2 (xnp_mem 10 rfl : ((⟨"PillarSaints$Reader", "planLine", "()Z"⟩ : MethodName), 12) ∈ lw_privs_2))
theorem ks2_11 : Cond.selects "PillarSaints$Reader" ⟨"PillarSaints$Reader", "tenetLine", "()Z"⟩ ⟨"PillarSaints$Reader", "tenetLine", "()Z"⟩ ∈ xTs := xpv (xp_2 (xnp_mem 11 rfl : ((⟨"PillarSaints$Reader", "tenetLine", "()Z"⟩ : MethodName), 12) ∈ lw_privs_2))
theorem ks2_12 : Cond.selects "PillarSaints$Tenets" ⟨"PillarSaints$Tenets", "leadingTo", "(I)I"⟩ ⟨"PillarSaints$Tenets", "leadingTo", "(I)I"⟩ ∈ xTs := xpv (xp_2 (xnp_mem 12 rfl : ((⟨"PillarSaints$Tenets", "leadingTo", "(I)I"⟩ : MethodName), 3) ∈ lw_privs_2))
theorem ks2_13 : Cond.selects "PillarSaints$Tenets" ⟨"PillarSaints$Tenets", "neededOf", "(II)I"⟩ ⟨"PillarSaints$Tenets", "neededOf", "(II)I"⟩ ∈ xTs := xpv (xp_2 (xnp_mem 13 rfl : ((⟨"PillarSaints$Tenets", "neededOf", "(II)I"⟩ : MethodName), 3) ∈ lw_privs_2))
theorem ks2_14 : Cond.selects "PillarSaints$Yard" ⟨"PillarSaints$Yard", "arrange", "()V"⟩ ⟨"PillarSaints$Yard", "arrange", "()V"⟩ ∈ xTs := xpv (xp_2 (xnp_mem 14 rfl : ((⟨"PillarSaints$Yard", "arrange", "()V"⟩ : MethodName), 4) ∈ lw_privs_2))
theorem ks2_15 : Cond.selects "PillarSaints$Yard" ⟨"PillarSaints$Yard", "isBefore", "(II)Z"⟩ ⟨"PillarSaints$Yard", "isBefore", "(II)Z"⟩ ∈ xTs := xpv (xp_2 (xnp_mem 15 rfl : ((⟨"PillarSaints$Yard", "isBefore", "(II)Z"⟩ : MethodName), 4) ∈ lw_privs_2))
theorem xp_3 {q : MethodName × Nat} (h : q ∈ lw_privs_3) : q ∈ lw_privs := by unfold lw_privs; exact List.mem_append_right _ (List.mem_append_right _ (List.mem_append_left _ h))
theorem ks3_0 : Cond.selects "PillarSaints$Lap" ⟨"PillarSaints$Lap", "spread", "(LPillarSaints$World;II)V"⟩ ⟨"PillarSaints$Lap", "spread", "(LPillarSaints$World;II)V"⟩ ∈ xTs := xpv (xp_3 (xnp_mem 0 rfl : ((⟨"PillarSaints$Lap", "spread", "(LPillarSaints$World;II)V"⟩ : MethodName), 2) ∈ lw_privs_3))
theorem ks3_1 : Cond.selects "PillarSaintsModel" ⟨"PillarSaintsModel", "isIn", "(III)Z"⟩ ⟨"PillarSaintsModel", "isIn", "(III)Z"⟩ ∈ xTs := xpv (xp_3 (xnp_mem 1 rfl : ((⟨"PillarSaintsModel", "isIn", "(III)Z"⟩ : MethodName), 50) ∈ lw_privs_3))
theorem ks3_2 : Cond.selects "PillarSaintsModel" ⟨"PillarSaintsModel", "allClimb", "()V"⟩ ⟨"PillarSaintsModel", "allClimb", "()V"⟩ ∈ xTs := xpv (xp_3 (xnp_mem 2 rfl : ((⟨"PillarSaintsModel", "allClimb", "()V"⟩ : MethodName), 50) ∈ lw_privs_3))
theorem ks3_3 : Cond.selects "PillarSaintsModel" ⟨"PillarSaintsModel", "sitterOf", "(I)I"⟩ ⟨"PillarSaintsModel", "sitterOf", "(I)I"⟩ ∈ xTs := xpv (xp_3 (xnp_mem 3 rfl : ((⟨"PillarSaintsModel", "sitterOf", "(I)I"⟩ : MethodName), 50) ∈ lw_privs_3))
theorem ks3_4 : Cond.selects "PillarSaintsModel" ⟨"PillarSaintsModel", "nextBelow", "(I)I"⟩ ⟨"PillarSaintsModel", "nextBelow", "(I)I"⟩ ∈ xTs := xpv (xp_3 (xnp_mem 4 rfl : ((⟨"PillarSaintsModel", "nextBelow", "(I)I"⟩ : MethodName), 50) ∈ lw_privs_3))
theorem ks3_5 : Cond.selects "PillarSaintsModel" ⟨"PillarSaintsModel", "leavesGround", "(I)V"⟩ ⟨"PillarSaintsModel", "leavesGround", "(I)V"⟩ ∈ xTs := xpv (xp_3 (xnp_mem 5 rfl : ((⟨"PillarSaintsModel", "leavesGround", "(I)V"⟩ : MethodName), 50) ∈ lw_privs_3))
theorem ks3_6 : Cond.selects "PillarSaintsModel" ⟨"PillarSaintsModel", "notes", "(III)V"⟩ ⟨"PillarSaintsModel", "notes", "(III)V"⟩ ∈ xTs := xpv (xp_3 (xnp_mem 6 rfl : ((⟨"PillarSaintsModel", "notes", "(III)V"⟩ : MethodName), 50) ∈ lw_privs_3))
theorem ks3_7 : Cond.selects "PillarSaintsModel" ⟨"PillarSaintsModel", "comesBehind", "(I)V"⟩ ⟨"PillarSaintsModel", "comesBehind", "(I)V"⟩ ∈ xTs := xpv (xp_3 (xnp_mem 7 rfl : ((⟨"PillarSaintsModel", "comesBehind", "(I)V"⟩ : MethodName), 50) ∈ lw_privs_3))
theorem ks3_8 : Cond.selects "PillarSaintsModel" ⟨"PillarSaintsModel", "canSet", "(III)Z"⟩ ⟨"PillarSaintsModel", "canSet", "(III)Z"⟩ ∈ xTs := xpv (xp_3 (xnp_mem 8 rfl : ((⟨"PillarSaintsModel", "canSet", "(III)Z"⟩ : MethodName), 50) ∈ lw_privs_3))
theorem ks3_9 : Cond.selects "PillarSaintsModel" ⟨"PillarSaintsModel", "isSaint", "(I)Z"⟩ ⟨"PillarSaintsModel", "isSaint", "(I)Z"⟩ ∈ xTs := xpv (xp_3 (xnp_mem 9 rfl : ((⟨"PillarSaintsModel", "isSaint", "(I)Z"⟩ : MethodName), 50) ∈ lw_privs_3))
theorem ks3_10 : Cond.selects "PillarSaintsModel" ⟨"PillarSaintsModel", "types", "(I)V"⟩ ⟨"PillarSaintsModel", "types", "(I)V"⟩ ∈ xTs := xpv (xp_3 (xnp_mem 10 rfl : ((⟨"PillarSaintsModel", "types", "(I)V"⟩ : MethodName), 50) ∈ lw_privs_3))
theorem ks3_11 : Cond.selects "PillarSaintsModel" ⟨"PillarSaintsModel", "readsText", "(I)I"⟩ ⟨"PillarSaintsModel", "readsText", "(I)I"⟩ ∈ xTs := xpv (xp_3 (xnp_mem 11 rfl : ((⟨"PillarSaintsModel", "readsText", "(I)I"⟩ : MethodName), 50) ∈ lw_privs_3))
theorem ks3_12 : Cond.selects "PillarSaintsModel" ⟨"PillarSaintsModel", "reads", "()V"⟩ ⟨"PillarSaintsModel", "reads", "()V"⟩ ∈ xTs := xpv (xp_3 (xnp_mem 12 rfl : ((⟨"PillarSaintsModel", "reads", "()V"⟩ : MethodName), 50) ∈ lw_privs_3))
theorem ks3_13 : Cond.selects "PillarSaintsModel" ⟨"PillarSaintsModel", "raw", "(I)I"⟩ ⟨"PillarSaintsModel", "raw", "(I)I"⟩ ∈ xTs := xpv (xp_3 (xnp_mem 13 rfl : ((⟨"PillarSaintsModel", "raw", "(I)I"⟩ : MethodName), 50) ∈ lw_privs_3))
theorem ks3_14 : Cond.selects "PillarSaintsModel" ⟨"PillarSaintsModel", "isLetter", "(I)Z"⟩ ⟨"PillarSaintsModel", "isLetter", "(I)Z"⟩ ∈ xTs := xpv (xp_3 (xnp_mem 14 rfl : ((⟨"PillarSaintsModel", "isLetter", "(I)Z"⟩ : MethodName), 50) ∈ lw_privs_3))
theorem ks3_15 : Cond.selects "PillarSaintsModel" ⟨"PillarSaintsModel", "wordAt", "(II)I"⟩ ⟨"PillarSaintsModel", "wordAt", "(II)I"⟩ ∈ xTs := xpv (xp_3 (xnp_mem 15 rfl : ((⟨"PillarSaintsModel", "wordAt", "(II)I"⟩ : MethodName), 50) ∈ lw_privs_3))
theorem xp_4 {q : MethodName × Nat} (h : q ∈ lw_privs_4) : q ∈ lw_privs := by unfold lw_privs; exact List.mem_append_right _ (List.mem_append_right _ (List.mem_append_right _ (List.mem_append_left _ h)))
theorem ks4_0 : Cond.selects "PillarSaintsModel" ⟨"PillarSaintsModel", "isDigit", "(I)Z"⟩ ⟨"PillarSaintsModel", "isDigit", "(I)Z"⟩ ∈ xTs := xpv (xp_4 (xnp_mem 0 rfl : ((⟨"PillarSaintsModel", "isDigit", "(I)Z"⟩ : MethodName), 50) ∈ lw_privs_4))
theorem ks4_1 : Cond.selects "PillarSaintsModel" ⟨"PillarSaintsModel", "isMarkSign", "(I)Z"⟩ ⟨"PillarSaintsModel", "isMarkSign", "(I)Z"⟩ ∈ xTs := xpv (xp_4 (xnp_mem 1 rfl : ((⟨"PillarSaintsModel", "isMarkSign", "(I)Z"⟩ : MethodName), 50) ∈ lw_privs_4))
theorem ks4_2 : Cond.selects "PillarSaintsModel" ⟨"PillarSaintsModel", "readSky", "()I"⟩ ⟨"PillarSaintsModel", "readSky", "()I"⟩ ∈ xTs := xpv (xp_4 (xnp_mem 2 rfl : ((⟨"PillarSaintsModel", "readSky", "()I"⟩ : MethodName), 50) ∈ lw_privs_4))
theorem ks4_3 : Cond.selects "PillarSaintsModel" ⟨"PillarSaintsModel", "isWord", "(I)Z"⟩ ⟨"PillarSaintsModel", "isWord", "(I)Z"⟩ ∈ xTs := xpv (xp_4 (xnp_mem 3 rfl : ((⟨"PillarSaintsModel", "isWord", "(I)Z"⟩ : MethodName), 50) ∈ lw_privs_4))
theorem ks4_4 : Cond.selects "PillarSaintsModel" ⟨"PillarSaintsModel", "errs", "(I)I"⟩ ⟨"PillarSaintsModel", "errs", "(I)I"⟩ ∈ xTs := xpv (xp_4 (xnp_mem 4 rfl : ((⟨"PillarSaintsModel", "errs", "(I)I"⟩ : MethodName), 50) ∈ lw_privs_4))
theorem ks4_5 : Cond.selects "PillarSaintsModel" ⟨"PillarSaintsModel", "readTold", "(III)I"⟩ ⟨"PillarSaintsModel", "readTold", "(III)I"⟩ ∈ xTs := xpv (xp_4 (xnp_mem 5 rfl : ((⟨"PillarSaintsModel", "readTold", "(III)I"⟩ : MethodName), 50) ∈ lw_privs_4))
theorem ks4_6 : Cond.selects "PillarSaintsModel" ⟨"PillarSaintsModel", "readNumber", "(II)I"⟩ ⟨"PillarSaintsModel", "readNumber", "(II)I"⟩ ∈ xTs := xpv (xp_4 (xnp_mem 6 rfl : ((⟨"PillarSaintsModel", "readNumber", "(II)I"⟩ : MethodName), 50) ∈ lw_privs_4))
theorem ks4_7 : Cond.selects "PillarSaintsModel" ⟨"PillarSaintsModel", "readMark", "(I)I"⟩ ⟨"PillarSaintsModel", "readMark", "(I)I"⟩ ∈ xTs := xpv (xp_4 (xnp_mem 7 rfl : ((⟨"PillarSaintsModel", "readMark", "(I)I"⟩ : MethodName), 50) ∈ lw_privs_4))
theorem ks4_8 : Cond.selects "PillarSaintsModel" ⟨"PillarSaintsModel", "isSign", "(I)Z"⟩ ⟨"PillarSaintsModel", "isSign", "(I)Z"⟩ ∈ xTs := xpv (xp_4 (xnp_mem 8 rfl : ((⟨"PillarSaintsModel", "isSign", "(I)Z"⟩ : MethodName), 50) ∈ lw_privs_4))
theorem ks4_9 : Cond.selects "PillarSaintsModel" ⟨"PillarSaintsModel", "readPlan", "()I"⟩ ⟨"PillarSaintsModel", "readPlan", "()I"⟩ ∈ xTs := xpv (xp_4 (xnp_mem 9 rfl : ((⟨"PillarSaintsModel", "readPlan", "()I"⟩ : MethodName), 50) ∈ lw_privs_4))
theorem ks4_10 : Cond.selects "PillarSaintsModel" ⟨"PillarSaintsModel", "readDeed", "(I)I"⟩ ⟨"PillarSaintsModel", "readDeed", "(I)I"⟩ ∈ xTs := xpv (xp_4 (xnp_mem 10 rfl : ((⟨"PillarSaintsModel", "readDeed", "(I)I"⟩ : MethodName), 50) ∈ lw_privs_4))
theorem ks4_11 : Cond.selects "PillarSaintsModel" ⟨"PillarSaintsModel", "mostFor", "(I)I"⟩ ⟨"PillarSaintsModel", "mostFor", "(I)I"⟩ ∈ xTs := xpv (xp_4 (xnp_mem 11 rfl : ((⟨"PillarSaintsModel", "mostFor", "(I)I"⟩ : MethodName), 50) ∈ lw_privs_4))
theorem ks4_12 : Cond.selects "PillarSaintsModel" ⟨"PillarSaintsModel", "readTenets", "()I"⟩ ⟨"PillarSaintsModel", "readTenets", "()I"⟩ ∈ xTs := xpv (xp_4 (xnp_mem 12 rfl : ((⟨"PillarSaintsModel", "readTenets", "()I"⟩ : MethodName), 50) ∈ lw_privs_4))
theorem ks4_13 : Cond.selects "PillarSaintsModel" ⟨"PillarSaintsModel", "readTenet", "(I)I"⟩ ⟨"PillarSaintsModel", "readTenet", "(I)I"⟩ ∈ xTs := xpv (xp_4 (xnp_mem 13 rfl : ((⟨"PillarSaintsModel", "readTenet", "(I)I"⟩ : MethodName), 50) ∈ lw_privs_4))
theorem ks4_14 : Cond.selects "PillarSaintsModel" ⟨"PillarSaintsModel", "readLaw", "()I"⟩ ⟨"PillarSaintsModel", "readLaw", "()I"⟩ ∈ xTs := xpv (xp_4 (xnp_mem 14 rfl : ((⟨"PillarSaintsModel", "readLaw", "()I"⟩ : MethodName), 50) ∈ lw_privs_4))
theorem ks4_15 : Cond.selects "PillarSaintsModel" ⟨"PillarSaintsModel", "isLineWord", "()Z"⟩ ⟨"PillarSaintsModel", "isLineWord", "()Z"⟩ ∈ xTs := xpv (xp_4 (xnp_mem 15 rfl : ((⟨"PillarSaintsModel", "isLineWord", "()Z"⟩ : MethodName), 50) ∈ lw_privs_4))
theorem xp_5 {q : MethodName × Nat} (h : q ∈ lw_privs_5) : q ∈ lw_privs := by unfold lw_privs; exact List.mem_append_right _ (List.mem_append_right _ (List.mem_append_right _ (List.mem_append_right _ (List.mem_append_left _ h))))
theorem ks5_0 : Cond.selects "PillarSaintsModel" ⟨"PillarSaintsModel", "readSum", "()I"⟩ ⟨"PillarSaintsModel", "readSum", "()I"⟩ ∈ xTs := xpv (xp_5 (xnp_mem 0 rfl : ((⟨"PillarSaintsModel", "readSum", "()I"⟩ : MethodName), 50) ∈ lw_privs_5))
theorem ks5_1 : Cond.selects "PillarSaintsModel" ⟨"PillarSaintsModel", "readProduct", "()I"⟩ ⟨"PillarSaintsModel", "readProduct", "()I"⟩ ∈ xTs := xpv (xp_5 (xnp_mem 1 rfl : ((⟨"PillarSaintsModel", "readProduct", "()I"⟩ : MethodName), 50) ∈ lw_privs_5))
theorem ks5_2 : Cond.selects "PillarSaintsModel" ⟨"PillarSaintsModel", "readUnit", "()I"⟩ ⟨"PillarSaintsModel", "readUnit", "()I"⟩ ∈ xTs := xpv (xp_5 (xnp_mem 2 rfl : ((⟨"PillarSaintsModel", "readUnit", "()I"⟩ : MethodName), 50) ∈ lw_privs_5))
theorem ks5_3 : Cond.selects "PillarSaintsModel" ⟨"PillarSaintsModel", "canAsk", "(I)Z"⟩ ⟨"PillarSaintsModel", "canAsk", "(I)Z"⟩ ∈ xTs := xpv (xp_5 (xnp_mem 3 rfl : ((⟨"PillarSaintsModel", "canAsk", "(I)Z"⟩ : MethodName), 50) ∈ lw_privs_5))
theorem ks5_4 : Cond.selects "PillarSaintsModel" ⟨"PillarSaintsModel", "emits", "(II)V"⟩ ⟨"PillarSaintsModel", "emits", "(II)V"⟩ ∈ xTs := xpv (xp_5 (xnp_mem 4 rfl : ((⟨"PillarSaintsModel", "emits", "(II)V"⟩ : MethodName), 50) ∈ lw_privs_5))
theorem ks5_5 : Cond.selects "PillarSaintsModel" ⟨"PillarSaintsModel", "readAny", "()I"⟩ ⟨"PillarSaintsModel", "readAny", "()I"⟩ ∈ xTs := xpv (xp_5 (xnp_mem 5 rfl : ((⟨"PillarSaintsModel", "readAny", "()I"⟩ : MethodName), 50) ∈ lw_privs_5))
theorem ks5_6 : Cond.selects "PillarSaintsModel" ⟨"PillarSaintsModel", "waits", "(I)V"⟩ ⟨"PillarSaintsModel", "waits", "(I)V"⟩ ∈ xTs := xpv (xp_5 (xnp_mem 6 rfl : ((⟨"PillarSaintsModel", "waits", "(I)V"⟩ : MethodName), 50) ∈ lw_privs_5))
theorem ks5_7 : Cond.selects "PillarSaintsModel" ⟨"PillarSaintsModel", "readCompared", "()I"⟩ ⟨"PillarSaintsModel", "readCompared", "()I"⟩ ∈ xTs := xpv (xp_5 (xnp_mem 7 rfl : ((⟨"PillarSaintsModel", "readCompared", "()I"⟩ : MethodName), 50) ∈ lw_privs_5))
theorem ks5_8 : Cond.selects "PillarSaintsModel" ⟨"PillarSaintsModel", "settles", "(I)V"⟩ ⟨"PillarSaintsModel", "settles", "(I)V"⟩ ∈ xTs := xpv (xp_5 (xnp_mem 8 rfl : ((⟨"PillarSaintsModel", "settles", "(I)V"⟩ : MethodName), 50) ∈ lw_privs_5))
theorem ks5_9 : Cond.selects "PillarSaintsModel" ⟨"PillarSaintsModel", "takesLaw", "(I)V"⟩ ⟨"PillarSaintsModel", "takesLaw", "(I)V"⟩ ∈ xTs := xpv (xp_5 (xnp_mem 9 rfl : ((⟨"PillarSaintsModel", "takesLaw", "(I)V"⟩ : MethodName), 50) ∈ lw_privs_5))
theorem ks5_10 : Cond.selects "PillarSaintsModel" ⟨"PillarSaintsModel", "takesOther", "(II)V"⟩ ⟨"PillarSaintsModel", "takesOther", "(II)V"⟩ ∈ xTs := xpv (xp_5 (xnp_mem 10 rfl : ((⟨"PillarSaintsModel", "takesOther", "(II)V"⟩ : MethodName), 50) ∈ lw_privs_5))
theorem ks5_11 : Cond.selects "PillarSaintsModel" ⟨"PillarSaintsModel", "canAct", "(III)Z"⟩ ⟨"PillarSaintsModel", "canAct", "(III)Z"⟩ ∈ xTs := xpv (xp_5 (xnp_mem 11 rfl : ((⟨"PillarSaintsModel", "canAct", "(III)Z"⟩ : MethodName), 50) ∈ lw_privs_5))
theorem ks5_12 : Cond.selects "PillarSaintsModel" ⟨"PillarSaintsModel", "highest", "()I"⟩ ⟨"PillarSaintsModel", "highest", "()I"⟩ ∈ xTs := xpv (xp_5 (xnp_mem 12 rfl : ((⟨"PillarSaintsModel", "highest", "()I"⟩ : MethodName), 50) ∈ lw_privs_5))
theorem ks5_13 : Cond.selects "PillarSaintsModel" ⟨"PillarSaintsModel", "pillarOf", "(I)I"⟩ ⟨"PillarSaintsModel", "pillarOf", "(I)I"⟩ ∈ xTs := xpv (xp_5 (xnp_mem 13 rfl : ((⟨"PillarSaintsModel", "pillarOf", "(I)I"⟩ : MethodName), 50) ∈ lw_privs_5))
theorem ks5_14 : Cond.selects "PillarSaintsModel" ⟨"PillarSaintsModel", "isPillar", "(I)Z"⟩ ⟨"PillarSaintsModel", "isPillar", "(I)Z"⟩ ∈ xTs := xpv (xp_5 (xnp_mem 14 rfl : ((⟨"PillarSaintsModel", "isPillar", "(I)Z"⟩ : MethodName), 50) ∈ lw_privs_5))
theorem ks5_15 : Cond.selects "PillarSaintsModel" ⟨"PillarSaintsModel", "keepsAhead", "()V"⟩ ⟨"PillarSaintsModel", "keepsAhead", "()V"⟩ ∈ xTs := xpv (xp_5 (xnp_mem 15 rfl : ((⟨"PillarSaintsModel", "keepsAhead", "()V"⟩ : MethodName), 50) ∈ lw_privs_5))
theorem xp_6 {q : MethodName × Nat} (h : q ∈ lw_privs_6) : q ∈ lw_privs := by unfold lw_privs; exact List.mem_append_right _ (List.mem_append_right _ (List.mem_append_right _ (List.mem_append_right _ (List.mem_append_right _ (List.mem_append_left _ h)))))
theorem ks6_0 : Cond.selects "PillarSaintsModel" ⟨"PillarSaintsModel", "acts", "(III)V"⟩ ⟨"PillarSaintsModel", "acts", "(III)V"⟩ ∈ xTs := xpv (xp_6 (xnp_mem 0 rfl : ((⟨"PillarSaintsModel", "acts", "(III)V"⟩ : MethodName), 50) ∈ lw_privs_6))
theorem ks6_1 : Cond.selects "PillarSaintsModel" ⟨"PillarSaintsModel", "lesser", "(II)I"⟩ ⟨"PillarSaintsModel", "lesser", "(II)I"⟩ ∈ xTs := xpv (xp_6 (xnp_mem 1 rfl : ((⟨"PillarSaintsModel", "lesser", "(II)I"⟩ : MethodName), 50) ∈ lw_privs_6))
theorem ks6_2 : Cond.selects "PillarSaintsModel" ⟨"PillarSaintsModel", "isDown", "(I)V"⟩ ⟨"PillarSaintsModel", "isDown", "(I)V"⟩ ∈ xTs := xpv (xp_6 (xnp_mem 2 rfl : ((⟨"PillarSaintsModel", "isDown", "(I)V"⟩ : MethodName), 50) ∈ lw_privs_6))
theorem ks6_3 : Cond.selects "PillarSaintsModel" ⟨"PillarSaintsModel", "goesBy", "()I"⟩ ⟨"PillarSaintsModel", "goesBy", "()I"⟩ ∈ xTs := xpv (xp_6 (xnp_mem 3 rfl : ((⟨"PillarSaintsModel", "goesBy", "()I"⟩ : MethodName), 50) ∈ lw_privs_6))
theorem ks6_4 : Cond.selects "PillarSaintsModel" ⟨"PillarSaintsModel", "does", "(I)V"⟩ ⟨"PillarSaintsModel", "does", "(I)V"⟩ ∈ xTs := xpv (xp_6 (xnp_mem 4 rfl : ((⟨"PillarSaintsModel", "does", "(I)V"⟩ : MethodName), 50) ∈ lw_privs_6))
theorem ks6_5 : Cond.selects "PillarSaintsModel" ⟨"PillarSaintsModel", "skyOf", "(I)I"⟩ ⟨"PillarSaintsModel", "skyOf", "(I)I"⟩ ∈ xTs := xpv (xp_6 (xnp_mem 5 rfl : ((⟨"PillarSaintsModel", "skyOf", "(I)I"⟩ : MethodName), 50) ∈ lw_privs_6))
theorem ks6_6 : Cond.selects "PillarSaintsModel" ⟨"PillarSaintsModel", "basketGoes", "()V"⟩ ⟨"PillarSaintsModel", "basketGoes", "()V"⟩ ∈ xTs := xpv (xp_6 (xnp_mem 6 rfl : ((⟨"PillarSaintsModel", "basketGoes", "()V"⟩ : MethodName), 50) ∈ lw_privs_6))
theorem ks6_7 : Cond.selects "PillarSaintsModel" ⟨"PillarSaintsModel", "eats", "(I)V"⟩ ⟨"PillarSaintsModel", "eats", "(I)V"⟩ ∈ xTs := xpv (xp_6 (xnp_mem 7 rfl : ((⟨"PillarSaintsModel", "eats", "(I)V"⟩ : MethodName), 50) ∈ lw_privs_6))
theorem ks6_8 : Cond.selects "PillarSaintsModel" ⟨"PillarSaintsModel", "eatsOf", "(I)I"⟩ ⟨"PillarSaintsModel", "eatsOf", "(I)I"⟩ ∈ xTs := xpv (xp_6 (xnp_mem 8 rfl : ((⟨"PillarSaintsModel", "eatsOf", "(I)I"⟩ : MethodName), 50) ∈ lw_privs_6))
theorem ks6_9 : Cond.selects "PillarSaintsModel" ⟨"PillarSaintsModel", "asks", "(I)V"⟩ ⟨"PillarSaintsModel", "asks", "(I)V"⟩ ∈ xTs := xpv (xp_6 (xnp_mem 9 rfl : ((⟨"PillarSaintsModel", "asks", "(I)V"⟩ : MethodName), 50) ∈ lw_privs_6))
theorem ks6_10 : Cond.selects "PillarSaintsModel" ⟨"PillarSaintsModel", "aboveOf", "(I)I"⟩ ⟨"PillarSaintsModel", "aboveOf", "(I)I"⟩ ∈ xTs := xpv (xp_6 (xnp_mem 10 rfl : ((⟨"PillarSaintsModel", "aboveOf", "(I)I"⟩ : MethodName), 50) ∈ lw_privs_6))
theorem ks6_11 : Cond.selects "PillarSaintsModel" ⟨"PillarSaintsModel", "nextAbove", "(I)I"⟩ ⟨"PillarSaintsModel", "nextAbove", "(I)I"⟩ ∈ xTs := xpv (xp_6 (xnp_mem 11 rfl : ((⟨"PillarSaintsModel", "nextAbove", "(I)I"⟩ : MethodName), 50) ∈ lw_privs_6))
theorem ks6_12 : Cond.selects "PillarSaintsModel" ⟨"PillarSaintsModel", "lawTells", "(IIII)I"⟩ ⟨"PillarSaintsModel", "lawTells", "(IIII)I"⟩ ∈ xTs := xpv (xp_6 (xnp_mem 12 rfl : ((⟨"PillarSaintsModel", "lawTells", "(IIII)I"⟩ : MethodName), 50) ∈ lw_privs_6))
theorem ks6_13 : Cond.selects "PillarSaintsModel" ⟨"PillarSaintsModel", "lineOf", "(I)I"⟩ ⟨"PillarSaintsModel", "lineOf", "(I)I"⟩ ∈ xTs := xpv (xp_6 (xnp_mem 13 rfl : ((⟨"PillarSaintsModel", "lineOf", "(I)I"⟩ : MethodName), 50) ∈ lw_privs_6))
theorem ks6_14 : Cond.selects "PillarSaintsModel" ⟨"PillarSaintsModel", "runs", "(III)I"⟩ ⟨"PillarSaintsModel", "runs", "(III)I"⟩ ∈ xTs := xpv (xp_6 (xnp_mem 14 rfl : ((⟨"PillarSaintsModel", "runs", "(III)I"⟩ : MethodName), 50) ∈ lw_privs_6))
theorem ks6_15 : Cond.selects "PillarSaintsModel" ⟨"PillarSaintsModel", "twoOf", "(III)I"⟩ ⟨"PillarSaintsModel", "twoOf", "(III)I"⟩ ∈ xTs := xpv (xp_6 (xnp_mem 15 rfl : ((⟨"PillarSaintsModel", "twoOf", "(III)I"⟩ : MethodName), 50) ∈ lw_privs_6))
theorem xp_7 {q : MethodName × Nat} (h : q ∈ lw_privs_7) : q ∈ lw_privs := by unfold lw_privs; exact List.mem_append_right _ (List.mem_append_right _ (List.mem_append_right _ (List.mem_append_right _ (List.mem_append_right _ (List.mem_append_right _ (List.mem_append_left _ h))))))
theorem ks7_0 : Cond.selects "PillarSaintsModel" ⟨"PillarSaintsModel", "held", "(III)I"⟩ ⟨"PillarSaintsModel", "held", "(III)I"⟩ ∈ xTs := xpv (xp_7 (xnp_mem 0 rfl : ((⟨"PillarSaintsModel", "held", "(III)I"⟩ : MethodName), 50) ∈ lw_privs_7))
theorem ks7_1 : Cond.selects "PillarSaintsModel" ⟨"PillarSaintsModel", "greater", "(II)I"⟩ ⟨"PillarSaintsModel", "greater", "(II)I"⟩ ∈ xTs := xpv (xp_7 (xnp_mem 1 rfl : ((⟨"PillarSaintsModel", "greater", "(II)I"⟩ : MethodName), 50) ∈ lw_privs_7))
theorem ks7_2 : Cond.selects "PillarSaintsModel" ⟨"PillarSaintsModel", "adviceGoes", "()V"⟩ ⟨"PillarSaintsModel", "adviceGoes", "()V"⟩ ∈ xTs := xpv (xp_7 (xnp_mem 2 rfl : ((⟨"PillarSaintsModel", "adviceGoes", "()V"⟩ : MethodName), 50) ∈ lw_privs_7))
theorem ks7_3 : Cond.selects "PillarSaintsModel" ⟨"PillarSaintsModel", "heardAs", "(II)I"⟩ ⟨"PillarSaintsModel", "heardAs", "(II)I"⟩ ∈ xTs := xpv (xp_7 (xnp_mem 3 rfl : ((⟨"PillarSaintsModel", "heardAs", "(II)I"⟩ : MethodName), 50) ∈ lw_privs_7))
theorem ks7_4 : Cond.selects "PillarSaintsModel" ⟨"PillarSaintsModel", "leansOf", "(I)I"⟩ ⟨"PillarSaintsModel", "leansOf", "(I)I"⟩ ∈ xTs := xpv (xp_7 (xnp_mem 4 rfl : ((⟨"PillarSaintsModel", "leansOf", "(I)I"⟩ : MethodName), 50) ∈ lw_privs_7))
theorem ks7_5 : Cond.selects "PillarSaintsModel" ⟨"PillarSaintsModel", "partOf", "(II)I"⟩ ⟨"PillarSaintsModel", "partOf", "(II)I"⟩ ∈ xTs := xpv (xp_7 (xnp_mem 5 rfl : ((⟨"PillarSaintsModel", "partOf", "(II)I"⟩ : MethodName), 50) ∈ lw_privs_7))
theorem ks7_6 : Cond.selects "PillarSaintsModel" ⟨"PillarSaintsModel", "isEnding", "(I)Z"⟩ ⟨"PillarSaintsModel", "isEnding", "(I)Z"⟩ ∈ xTs := xpv (xp_7 (xnp_mem 6 rfl : ((⟨"PillarSaintsModel", "isEnding", "(I)Z"⟩ : MethodName), 50) ∈ lw_privs_7))
theorem ks7_7 : Cond.selects "PillarSaintsModel" ⟨"PillarSaintsModel", "diesOf", "(I)I"⟩ ⟨"PillarSaintsModel", "diesOf", "(I)I"⟩ ∈ xTs := xpv (xp_7 (xnp_mem 7 rfl : ((⟨"PillarSaintsModel", "diesOf", "(I)I"⟩ : MethodName), 50) ∈ lw_privs_7))
theorem ks7_8 : Cond.selects "PillarSaintsModel" ⟨"PillarSaintsModel", "draw", "(I)I"⟩ ⟨"PillarSaintsModel", "draw", "(I)I"⟩ ∈ xTs := xpv (xp_7 (xnp_mem 8 rfl : ((⟨"PillarSaintsModel", "draw", "(I)I"⟩ : MethodName), 50) ∈ lw_privs_7))
theorem ks7_9 : Cond.selects "PillarSaintsModel" ⟨"PillarSaintsModel", "dies", "(I)V"⟩ ⟨"PillarSaintsModel", "dies", "(I)V"⟩ ∈ xTs := xpv (xp_7 (xnp_mem 9 rfl : ((⟨"PillarSaintsModel", "dies", "(I)V"⟩ : MethodName), 50) ∈ lw_privs_7))
theorem ks7_10 : Cond.selects "PillarSaintsModel" ⟨"PillarSaintsModel", "placeOf", "(I)I"⟩ ⟨"PillarSaintsModel", "placeOf", "(I)I"⟩ ∈ xTs := xpv (xp_7 (xnp_mem 10 rfl : ((⟨"PillarSaintsModel", "placeOf", "(I)I"⟩ : MethodName), 50) ∈ lw_privs_7))
theorem ks7_11 : Cond.selects "PillarSaintsModel" ⟨"PillarSaintsModel", "thinks", "()V"⟩ ⟨"PillarSaintsModel", "thinks", "()V"⟩ ∈ xTs := xpv (xp_7 (xnp_mem 11 rfl : ((⟨"PillarSaintsModel", "thinks", "()V"⟩ : MethodName), 50) ∈ lw_privs_7))
theorem ks7_12 : Cond.selects "PillarSaintsModel" ⟨"PillarSaintsModel", "deadSet", "()I"⟩ ⟨"PillarSaintsModel", "deadSet", "()I"⟩ ∈ xTs := xpv (xp_7 (xnp_mem 12 rfl : ((⟨"PillarSaintsModel", "deadSet", "()I"⟩ : MethodName), 50) ∈ lw_privs_7))
theorem ks7_13 : Cond.selects "PillarSaintsModel" ⟨"PillarSaintsModel", "onesOf", "(I)I"⟩ ⟨"PillarSaintsModel", "onesOf", "(I)I"⟩ ∈ xTs := xpv (xp_7 (xnp_mem 13 rfl : ((⟨"PillarSaintsModel", "onesOf", "(I)I"⟩ : MethodName), 50) ∈ lw_privs_7))
theorem ks7_14 : Cond.selects "PillarSaintsModel" ⟨"PillarSaintsModel", "endsThought", "()V"⟩ ⟨"PillarSaintsModel", "endsThought", "()V"⟩ ∈ xTs := xpv (xp_7 (xnp_mem 14 rfl : ((⟨"PillarSaintsModel", "endsThought", "()V"⟩ : MethodName), 50) ∈ lw_privs_7))
theorem ks7_15 : Cond.selects "PillarSaintsModel" ⟨"PillarSaintsModel", "sittingMany", "()I"⟩ ⟨"PillarSaintsModel", "sittingMany", "()I"⟩ ∈ xTs := xpv (xp_7 (xnp_mem 15 rfl : ((⟨"PillarSaintsModel", "sittingMany", "()I"⟩ : MethodName), 50) ∈ lw_privs_7))
theorem xp_8 {q : MethodName × Nat} (h : q ∈ lw_privs_8) : q ∈ lw_privs := by unfold lw_privs; exact List.mem_append_right _ (List.mem_append_right _ (List.mem_append_right _ (List.mem_append_right _ (List.mem_append_right _ (List.mem_append_right _ (List.mem_append_right _ (List.mem_append_left _ h)))))))
theorem ks8_0 : Cond.selects "PillarSaintsModel" ⟨"PillarSaintsModel", "spreadOf", "(II)I"⟩ ⟨"PillarSaintsModel", "spreadOf", "(II)I"⟩ ∈ xTs := xpv (xp_8 (xnp_mem 0 rfl : ((⟨"PillarSaintsModel", "spreadOf", "(II)I"⟩ : MethodName), 50) ∈ lw_privs_8))
theorem ks8_1 : Cond.selects "PillarSaintsModel" ⟨"PillarSaintsModel", "waysTo", "(I)I"⟩ ⟨"PillarSaintsModel", "waysTo", "(I)I"⟩ ∈ xTs := xpv (xp_8 (xnp_mem 1 rfl : ((⟨"PillarSaintsModel", "waysTo", "(I)I"⟩ : MethodName), 50) ∈ lw_privs_8))
theorem ks8_2 : Cond.selects "PillarSaintsModel" ⟨"PillarSaintsModel", "far", "(II)I"⟩ ⟨"PillarSaintsModel", "far", "(II)I"⟩ ∈ xTs := xpv (xp_8 (xnp_mem 2 rfl : ((⟨"PillarSaintsModel", "far", "(II)I"⟩ : MethodName), 50) ∈ lw_privs_8))
theorem ks8_3 : Cond.selects "PillarSaintsModel" ⟨"PillarSaintsModel", "followsBut", "(II)I"⟩ ⟨"PillarSaintsModel", "followsBut", "(II)I"⟩ ∈ xTs := xpv (xp_8 (xnp_mem 3 rfl : ((⟨"PillarSaintsModel", "followsBut", "(II)I"⟩ : MethodName), 50) ∈ lw_privs_8))
theorem ks8_4 : Cond.selects "PillarSaintsModel" ⟨"PillarSaintsModel", "idle", "()I"⟩ ⟨"PillarSaintsModel", "idle", "()I"⟩ ∈ xTs := xpv (xp_8 (xnp_mem 4 rfl : ((⟨"PillarSaintsModel", "idle", "()I"⟩ : MethodName), 50) ∈ lw_privs_8))
theorem ks8_5 : Cond.selects "PillarSaintsModel" ⟨"PillarSaintsModel", "has", "(II)Z"⟩ ⟨"PillarSaintsModel", "has", "(II)Z"⟩ ∈ xTs := xpv (xp_8 (xnp_mem 5 rfl : ((⟨"PillarSaintsModel", "has", "(II)Z"⟩ : MethodName), 50) ∈ lw_privs_8))
theorem ks8_6 : Cond.selects "PillarSaintsModel" ⟨"PillarSaintsModel", "seenFrom", "(Z)I"⟩ ⟨"PillarSaintsModel", "seenFrom", "(Z)I"⟩ ∈ xTs := xpv (xp_8 (xnp_mem 6 rfl : ((⟨"PillarSaintsModel", "seenFrom", "(Z)I"⟩ : MethodName), 50) ∈ lw_privs_8))
theorem ks8_7 : Cond.selects "PillarSaintsModel" ⟨"PillarSaintsModel", "isStork", "(I)Z"⟩ ⟨"PillarSaintsModel", "isStork", "(I)Z"⟩ ∈ xTs := xpv (xp_8 (xnp_mem 7 rfl : ((⟨"PillarSaintsModel", "isStork", "(I)Z"⟩ : MethodName), 50) ∈ lw_privs_8))
theorem ks8_8 : Cond.selects "PillarSaintsModel" ⟨"PillarSaintsModel", "hearsOne", "(II)Z"⟩ ⟨"PillarSaintsModel", "hearsOne", "(II)Z"⟩ ∈ xTs := xpv (xp_8 (xnp_mem 8 rfl : ((⟨"PillarSaintsModel", "hearsOne", "(II)Z"⟩ : MethodName), 50) ∈ lw_privs_8))
theorem ks8_9 : Cond.selects "PillarSaintsModel" ⟨"PillarSaintsModel", "isAhead", "(II)Z"⟩ ⟨"PillarSaintsModel", "isAhead", "(II)Z"⟩ ∈ xTs := xpv (xp_8 (xnp_mem 9 rfl : ((⟨"PillarSaintsModel", "isAhead", "(II)Z"⟩ : MethodName), 50) ∈ lw_privs_8))
theorem ks8_10 : Cond.selects "PillarSaintsModel" ⟨"PillarSaintsModel", "weighed", "(III)I"⟩ ⟨"PillarSaintsModel", "weighed", "(III)I"⟩ ∈ xTs := xpv (xp_8 (xnp_mem 10 rfl : ((⟨"PillarSaintsModel", "weighed", "(III)I"⟩ : MethodName), 50) ∈ lw_privs_8))
theorem ks8_11 : Cond.selects "PillarSaintsModel" ⟨"PillarSaintsModel", "shareOf", "(II)I"⟩ ⟨"PillarSaintsModel", "shareOf", "(II)I"⟩ ∈ xTs := xpv (xp_8 (xnp_mem 11 rfl : ((⟨"PillarSaintsModel", "shareOf", "(II)I"⟩ : MethodName), 50) ∈ lw_privs_8))
theorem ks8_12 : Cond.selects "PillarSaintsModel" ⟨"PillarSaintsModel", "canStep", "(III)Z"⟩ ⟨"PillarSaintsModel", "canStep", "(III)Z"⟩ ∈ xTs := xpv (xp_8 (xnp_mem 12 rfl : ((⟨"PillarSaintsModel", "canStep", "(III)Z"⟩ : MethodName), 50) ∈ lw_privs_8))
theorem ks8_13 : Cond.selects "PillarSaintsModel" ⟨"PillarSaintsModel", "added", "(II)I"⟩ ⟨"PillarSaintsModel", "added", "(II)I"⟩ ∈ xTs := xpv (xp_8 (xnp_mem 13 rfl : ((⟨"PillarSaintsModel", "added", "(II)I"⟩ : MethodName), 50) ∈ lw_privs_8))
theorem ks8_14 : Cond.selects "PillarSaintsModel" ⟨"PillarSaintsModel", "heapOf", "(I)I"⟩ ⟨"PillarSaintsModel", "heapOf", "(I)I"⟩ ∈ xTs := xpv (xp_8 (xnp_mem 14 rfl : ((⟨"PillarSaintsModel", "heapOf", "(I)I"⟩ : MethodName), 50) ∈ lw_privs_8))
theorem ks8_15 : Cond.selects "PillarSaintsModel" ⟨"PillarSaintsModel", "keeps", "(I)I"⟩ ⟨"PillarSaintsModel", "keeps", "(I)I"⟩ ∈ xTs := xpv (xp_8 (xnp_mem 15 rfl : ((⟨"PillarSaintsModel", "keeps", "(I)I"⟩ : MethodName), 50) ∈ lw_privs_8))
theorem xp_9 {q : MethodName × Nat} (h : q ∈ lw_privs_9) : q ∈ lw_privs := by unfold lw_privs; exact List.mem_append_right _ (List.mem_append_right _ (List.mem_append_right _ (List.mem_append_right _ (List.mem_append_right _ (List.mem_append_right _ (List.mem_append_right _ (List.mem_append_right _ (h))))))))
theorem ks9_0 : Cond.selects "PillarSaintsModel" ⟨"PillarSaintsModel", "keepsTold", "()V"⟩ ⟨"PillarSaintsModel", "keepsTold", "()V"⟩ ∈ xTs := xpv (xp_9 (xnp_mem 0 rfl : ((⟨"PillarSaintsModel", "keepsTold", "()V"⟩ : MethodName), 50) ∈ lw_privs_9))
theorem ks9_1 : Cond.selects "PillarSaintsModel" ⟨"PillarSaintsModel", "keepsLaw", "()V"⟩ ⟨"PillarSaintsModel", "keepsLaw", "()V"⟩ ∈ xTs := xpv (xp_9 (xnp_mem 1 rfl : ((⟨"PillarSaintsModel", "keepsLaw", "()V"⟩ : MethodName), 50) ∈ lw_privs_9))
theorem kn1_32 : Cond.methodLinkNest "PillarSaints" 11 ⟨"PillarSaints$Desert", "<init>", "()V"⟩ "PillarSaints" ∈ tables_1 := by unfold tables_1; exact List.mem_append_left _ (xnth_mem 32 rfl)
theorem kn1_139 : Cond.methodLinkNest "PillarSaints$Desert" 22 ⟨"PillarSaints$Law", "<init>", "()V"⟩ "PillarSaints" ∈ tables_1 := by unfold tables_1; exact List.mem_append_left _ (xnth_mem 139 rfl)
theorem kn1_171 : Cond.methodLinkNest "PillarSaints$Desert" 29 ⟨"PillarSaints$Sky", "<init>", "()V"⟩ "PillarSaints" ∈ tables_1 := by unfold tables_1; exact List.mem_append_left _ (xnth_mem 171 rfl)
theorem kn1_189 : Cond.methodLinkNest "PillarSaints$Desert" 36 ⟨"PillarSaints$Plan", "<init>", "()V"⟩ "PillarSaints" ∈ tables_1 := by unfold tables_1; exact List.mem_append_left _ (xnth_mem 189 rfl)
theorem kn1_213 : Cond.methodLinkNest "PillarSaints$Desert" 43 ⟨"PillarSaints$Tenets", "<init>", "()V"⟩ "PillarSaints" ∈ tables_1 := by unfold tables_1; exact List.mem_append_left _ (xnth_mem 213 rfl)
theorem kn1_231 : Cond.methodLinkNest "PillarSaints$Desert" 50 ⟨"PillarSaints$Yard", "<init>", "()V"⟩ "PillarSaints" ∈ tables_1 := by unfold tables_1; exact List.mem_append_left _ (xnth_mem 231 rfl)
theorem kn2_55 : Cond.methodLinkNest "PillarSaints" 37 ⟨"PillarSaints$Reader", "<init>", "()V"⟩ "PillarSaints" ∈ tables_1 := by unfold tables_1; exact List.mem_append_right _ (List.mem_append_left _ (xnth_mem 55 rfl))
theorem kn2_60 : Cond.methodLinkNest "PillarSaints$Reader" 11 ⟨"PillarSaints$Law", "<init>", "()V"⟩ "PillarSaints" ∈ tables_1 := by unfold tables_1; exact List.mem_append_right _ (List.mem_append_left _ (xnth_mem 60 rfl))
theorem kn2_62 : Cond.methodLinkNest "PillarSaints$Reader" 20 ⟨"PillarSaints$Sky", "<init>", "()V"⟩ "PillarSaints" ∈ tables_1 := by unfold tables_1; exact List.mem_append_right _ (List.mem_append_left _ (xnth_mem 62 rfl))
theorem kn2_64 : Cond.methodLinkNest "PillarSaints$Reader" 27 ⟨"PillarSaints$Plan", "<init>", "()V"⟩ "PillarSaints" ∈ tables_1 := by unfold tables_1; exact List.mem_append_right _ (List.mem_append_left _ (xnth_mem 64 rfl))
theorem kn2_66 : Cond.methodLinkNest "PillarSaints$Reader" 34 ⟨"PillarSaints$Tenets", "<init>", "()V"⟩ "PillarSaints" ∈ tables_1 := by unfold tables_1; exact List.mem_append_right _ (List.mem_append_left _ (xnth_mem 66 rfl))
theorem kn2_69 : Cond.methodLinkNest "PillarSaints$Reader" 41 ⟨"PillarSaints$Tokens", "<init>", "()V"⟩ "PillarSaints" ∈ tables_1 := by unfold tables_1; exact List.mem_append_right _ (List.mem_append_left _ (xnth_mem 69 rfl))
theorem kn2_135 : Cond.methodLinkNest "PillarSaints" 44 ⟨"PillarSaints$Lap", "<init>", "()V"⟩ "PillarSaints" ∈ tables_1 := by unfold tables_1; exact List.mem_append_right _ (List.mem_append_left _ (xnth_mem 135 rfl))
theorem kn2_232 : Cond.methodLinkNest "PillarSaints$World" 99 ⟨"PillarSaints", "within", "(III)Z"⟩ "PillarSaints" ∈ tables_1 := by unfold tables_1; exact List.mem_append_right _ (List.mem_append_left _ (xnth_mem 232 rfl))
theorem kn3_113 : Cond.methodLinkNest "PillarSaints$Law" 61 ⟨"PillarSaints", "held", "(III)I"⟩ "PillarSaints" ∈ tables_1 := by unfold tables_1; exact List.mem_append_right _ (List.mem_append_right _ (List.mem_append_left _ (xnth_mem 113 rfl)))
theorem kn3_141 : Cond.methodLinkNest "PillarSaints$Desert" 151 ⟨"PillarSaints", "held", "(III)I"⟩ "PillarSaints" ∈ tables_1 := by unfold tables_1; exact List.mem_append_right _ (List.mem_append_right _ (List.mem_append_left _ (xnth_mem 141 rfl)))
set_option maxRecDepth 20000 in
theorem kf0 : ∀ w ∈ u_ws RX0 TX0 6, w ∈ xTs := by
  show ∀ w ∈ [u_lay RX0 TX0 0, u_lay RX0 TX0 1, u_lay RX0 TX0 2, u_lay RX0 TX0 3, u_lay RX0 TX0 4, u_lay RX0 TX0 5], w ∈ xTs
  exact List.forall_mem_cons.mpr ⟨kw2_21, List.forall_mem_cons.mpr ⟨kw2_23, List.forall_mem_cons.mpr ⟨kw2_25, List.forall_mem_cons.mpr ⟨kw2_27, List.forall_mem_cons.mpr ⟨kw2_29, List.forall_mem_cons.mpr ⟨kw2_31, fun _ h => absurd h List.not_mem_nil⟩⟩⟩⟩⟩⟩
set_option maxRecDepth 20000 in
theorem kf1 : ∀ w ∈ u_ws RX1 TX1 2, w ∈ xTs := by
  show ∀ w ∈ [u_lay RX1 TX1 0, u_lay RX1 TX1 1], w ∈ xTs
  exact List.forall_mem_cons.mpr ⟨kw2_143, List.forall_mem_cons.mpr ⟨kw2_145, fun _ h => absurd h List.not_mem_nil⟩⟩
set_option maxRecDepth 20000 in
theorem kf2 : ∀ w ∈ u_ws RX2 TX2 8, w ∈ xTs := by
  show ∀ w ∈ [u_lay RX2 TX2 0, u_lay RX2 TX2 1, u_lay RX2 TX2 2, u_lay RX2 TX2 3, u_lay RX2 TX2 4, u_lay RX2 TX2 5, u_lay RX2 TX2 6, u_lay RX2 TX2 7], w ∈ xTs
  exact List.forall_mem_cons.mpr ⟨kw1_152, List.forall_mem_cons.mpr ⟨kw1_154, List.forall_mem_cons.mpr ⟨kw1_156, List.forall_mem_cons.mpr ⟨kw1_158, List.forall_mem_cons.mpr ⟨kw1_160, List.forall_mem_cons.mpr ⟨kw1_162, List.forall_mem_cons.mpr ⟨kw1_164, List.forall_mem_cons.mpr ⟨kw1_166, fun _ h => absurd h List.not_mem_nil⟩⟩⟩⟩⟩⟩⟩⟩
set_option maxRecDepth 20000 in
theorem kf3 : ∀ w ∈ u_ws RX3 TX3 2, w ∈ xTs := by
  show ∀ w ∈ [u_lay RX3 TX3 0, u_lay RX3 TX3 1], w ∈ xTs
  exact List.forall_mem_cons.mpr ⟨kw2_48, List.forall_mem_cons.mpr ⟨kw2_50, fun _ h => absurd h List.not_mem_nil⟩⟩
set_option maxRecDepth 20000 in
theorem kf4 : ∀ w ∈ u_ws RX4 TX4 5, w ∈ xTs := by
  show ∀ w ∈ [u_lay RX4 TX4 0, u_lay RX4 TX4 1, u_lay RX4 TX4 2, u_lay RX4 TX4 3, u_lay RX4 TX4 4], w ∈ xTs
  exact List.forall_mem_cons.mpr ⟨kw1_200, List.forall_mem_cons.mpr ⟨kw1_202, List.forall_mem_cons.mpr ⟨kw1_204, List.forall_mem_cons.mpr ⟨kw1_206, List.forall_mem_cons.mpr ⟨kw1_208, fun _ h => absurd h List.not_mem_nil⟩⟩⟩⟩⟩
set_option maxRecDepth 20000 in
theorem kf5 : ∀ w ∈ u_ws RX5 TX5 12, w ∈ xTs := by
  show ∀ w ∈ [u_lay RX5 TX5 0, u_lay RX5 TX5 1, u_lay RX5 TX5 2, u_lay RX5 TX5 3, u_lay RX5 TX5 4, u_lay RX5 TX5 5, u_lay RX5 TX5 6, u_lay RX5 TX5 7, u_lay RX5 TX5 8, u_lay RX5 TX5 9, u_lay RX5 TX5 10, u_lay RX5 TX5 11], w ∈ xTs
  exact List.forall_mem_cons.mpr ⟨kw2_108, List.forall_mem_cons.mpr ⟨kw2_110, List.forall_mem_cons.mpr ⟨kw2_112, List.forall_mem_cons.mpr ⟨kw2_114, List.forall_mem_cons.mpr ⟨kw2_116, List.forall_mem_cons.mpr ⟨kw2_118, List.forall_mem_cons.mpr ⟨kw2_120, List.forall_mem_cons.mpr ⟨kw2_122, List.forall_mem_cons.mpr ⟨kw2_124, List.forall_mem_cons.mpr ⟨kw2_126, List.forall_mem_cons.mpr ⟨kw2_128, List.forall_mem_cons.mpr ⟨kw2_130, fun _ h => absurd h List.not_mem_nil⟩⟩⟩⟩⟩⟩⟩⟩⟩⟩⟩⟩
set_option maxRecDepth 20000 in
theorem kf6 : ∀ w ∈ u_ws RX6 TX6 3, w ∈ xTs := by
  show ∀ w ∈ [u_lay RX6 TX6 0, u_lay RX6 TX6 1, u_lay RX6 TX6 2], w ∈ xTs
  exact List.forall_mem_cons.mpr ⟨kw1_180, List.forall_mem_cons.mpr ⟨kw1_182, List.forall_mem_cons.mpr ⟨kw1_184, fun _ h => absurd h List.not_mem_nil⟩⟩⟩
set_option maxRecDepth 20000 in
theorem kf7 : ∀ w ∈ u_ws RX7 TX7 3, w ∈ xTs := by
  show ∀ w ∈ [u_lay RX7 TX7 0, u_lay RX7 TX7 1, u_lay RX7 TX7 2], w ∈ xTs
  exact List.forall_mem_cons.mpr ⟨kw1_222, List.forall_mem_cons.mpr ⟨kw1_224, List.forall_mem_cons.mpr ⟨kw1_226, fun _ h => absurd h List.not_mem_nil⟩⟩⟩
set_option maxRecDepth 20000 in
theorem kf8 : ∀ w ∈ u_ws RX8 TX8 4, w ∈ xTs := by
  show ∀ w ∈ [u_lay RX8 TX8 0, u_lay RX8 TX8 1, u_lay RX8 TX8 2, u_lay RX8 TX8 3], w ∈ xTs
  exact List.forall_mem_cons.mpr ⟨kw2_81, List.forall_mem_cons.mpr ⟨kw2_83, List.forall_mem_cons.mpr ⟨kw2_85, List.forall_mem_cons.mpr ⟨kw2_87, fun _ h => absurd h List.not_mem_nil⟩⟩⟩⟩
set_option maxRecDepth 20000 in
theorem kf9 : ∀ w ∈ u_ws RX9 TX9 19, w ∈ xTs := by
  show ∀ w ∈ [u_lay RX9 TX9 0, u_lay RX9 TX9 1, u_lay RX9 TX9 2, u_lay RX9 TX9 3, u_lay RX9 TX9 4, u_lay RX9 TX9 5, u_lay RX9 TX9 6, u_lay RX9 TX9 7, u_lay RX9 TX9 8, u_lay RX9 TX9 9, u_lay RX9 TX9 10, u_lay RX9 TX9 11, u_lay RX9 TX9 12, u_lay RX9 TX9 13, u_lay RX9 TX9 14, u_lay RX9 TX9 15, u_lay RX9 TX9 16, u_lay RX9 TX9 17, u_lay RX9 TX9 18], w ∈ xTs
  exact List.forall_mem_cons.mpr ⟨kw1_97, List.forall_mem_cons.mpr ⟨kw1_99, List.forall_mem_cons.mpr ⟨kw1_101, List.forall_mem_cons.mpr ⟨kw1_103, List.forall_mem_cons.mpr ⟨kw1_105, List.forall_mem_cons.mpr ⟨kw1_107, List.forall_mem_cons.mpr ⟨kw1_109, List.forall_mem_cons.mpr ⟨kw1_111, List.forall_mem_cons.mpr ⟨kw1_113, List.forall_mem_cons.mpr ⟨kw1_115, List.forall_mem_cons.mpr ⟨kw1_117, List.forall_mem_cons.mpr ⟨kw1_119, List.forall_mem_cons.mpr ⟨kw1_121, List.forall_mem_cons.mpr ⟨kw1_123, List.forall_mem_cons.mpr ⟨kw1_125, List.forall_mem_cons.mpr ⟨kw1_127, List.forall_mem_cons.mpr ⟨kw1_129, List.forall_mem_cons.mpr ⟨kw1_131, List.forall_mem_cons.mpr ⟨kw1_133, fun _ h => absurd h List.not_mem_nil⟩⟩⟩⟩⟩⟩⟩⟩⟩⟩⟩⟩⟩⟩⟩⟩⟩⟩⟩
set_option maxRecDepth 20000 in
theorem kf10 : ∀ w ∈ u_ws RX10 TX10 4, w ∈ xTs := by
  show ∀ w ∈ [u_lay RX10 TX10 0, u_lay RX10 TX10 1, u_lay RX10 TX10 2, u_lay RX10 TX10 3], w ∈ xTs
  exact List.forall_mem_cons.mpr ⟨kw2_0, List.forall_mem_cons.mpr ⟨kw2_2, List.forall_mem_cons.mpr ⟨kw2_4, List.forall_mem_cons.mpr ⟨kw2_6, fun _ h => absurd h List.not_mem_nil⟩⟩⟩⟩
set_option maxRecDepth 20000 in
theorem kf11 : ∀ w ∈ u_ws RX11 TX11 9, w ∈ xTs := by
  show ∀ w ∈ [u_lay RX11 TX11 0, u_lay RX11 TX11 1, u_lay RX11 TX11 2, u_lay RX11 TX11 3, u_lay RX11 TX11 4, u_lay RX11 TX11 5, u_lay RX11 TX11 6, u_lay RX11 TX11 7, u_lay RX11 TX11 8], w ∈ xTs
  exact List.forall_mem_cons.mpr ⟨kw2_157, List.forall_mem_cons.mpr ⟨kw2_159, List.forall_mem_cons.mpr ⟨kw2_161, List.forall_mem_cons.mpr ⟨kw2_163, List.forall_mem_cons.mpr ⟨kw2_165, List.forall_mem_cons.mpr ⟨kw2_167, List.forall_mem_cons.mpr ⟨kw2_169, List.forall_mem_cons.mpr ⟨kw2_171, List.forall_mem_cons.mpr ⟨kw2_173, fun _ h => absurd h List.not_mem_nil⟩⟩⟩⟩⟩⟩⟩⟩⟩
set_option maxRecDepth 20000 in
theorem kf12 : ∀ w ∈ u_ws RX12 TX12 50, w ∈ xTs := by
  show ∀ w ∈ [u_lay RX12 TX12 0, u_lay RX12 TX12 1, u_lay RX12 TX12 2, u_lay RX12 TX12 3, u_lay RX12 TX12 4, u_lay RX12 TX12 5, u_lay RX12 TX12 6, u_lay RX12 TX12 7, u_lay RX12 TX12 8, u_lay RX12 TX12 9, u_lay RX12 TX12 10, u_lay RX12 TX12 11, u_lay RX12 TX12 12, u_lay RX12 TX12 13, u_lay RX12 TX12 14, u_lay RX12 TX12 15, u_lay RX12 TX12 16, u_lay RX12 TX12 17, u_lay RX12 TX12 18, u_lay RX12 TX12 19, u_lay RX12 TX12 20, u_lay RX12 TX12 21, u_lay RX12 TX12 22, u_lay RX12 TX12 23, u_lay RX12 TX12 24, u_lay RX12 TX12 25, u_lay RX12 TX12 26, u_lay RX12 TX12 27, u_lay RX12 TX12 28, u_lay RX12 TX12 29, u_lay RX12 TX12 30, u_lay RX12 TX12 31, u_lay RX12 TX12 32, u_lay RX12 TX12 33, u_lay RX12 TX12 34, u_lay RX12 TX12 35, u_lay RX12 TX12 36, u_lay RX12 TX12 37, u_lay RX12 TX12 38, u_lay RX12 TX12 39, u_lay RX12 TX12 40, u_lay RX12 TX12 41, u_lay RX12 TX12 42, u_lay RX12 TX12 43, u_lay RX12 TX12 44, u_lay RX12 TX12 45, u_lay RX12 TX12 46, u_lay RX12 TX12 47, u_lay RX12 TX12 48, u_lay RX12 TX12 49], w ∈ xTs
  exact List.forall_mem_cons.mpr ⟨kw5_209, List.forall_mem_cons.mpr ⟨kw5_211, List.forall_mem_cons.mpr ⟨kw5_213, List.forall_mem_cons.mpr ⟨kw5_215, List.forall_mem_cons.mpr ⟨kw5_217, List.forall_mem_cons.mpr ⟨kw5_219, List.forall_mem_cons.mpr ⟨kw5_221, List.forall_mem_cons.mpr ⟨kw5_223, List.forall_mem_cons.mpr ⟨kw5_225, List.forall_mem_cons.mpr ⟨kw5_227, List.forall_mem_cons.mpr ⟨kw5_229, List.forall_mem_cons.mpr ⟨kw5_231, List.forall_mem_cons.mpr ⟨kw5_233, List.forall_mem_cons.mpr ⟨kw5_235, List.forall_mem_cons.mpr ⟨kw5_237, List.forall_mem_cons.mpr ⟨kw5_239, List.forall_mem_cons.mpr ⟨kw6_1, List.forall_mem_cons.mpr ⟨kw6_3, List.forall_mem_cons.mpr ⟨kw6_5, List.forall_mem_cons.mpr ⟨kw6_7, List.forall_mem_cons.mpr ⟨kw6_9, List.forall_mem_cons.mpr ⟨kw6_11, List.forall_mem_cons.mpr ⟨kw6_13, List.forall_mem_cons.mpr ⟨kw6_15, List.forall_mem_cons.mpr ⟨kw6_17, List.forall_mem_cons.mpr ⟨kw6_19, List.forall_mem_cons.mpr ⟨kw6_21, List.forall_mem_cons.mpr ⟨kw6_23, List.forall_mem_cons.mpr ⟨kw6_25, List.forall_mem_cons.mpr ⟨kw6_27, List.forall_mem_cons.mpr ⟨kw6_29, List.forall_mem_cons.mpr ⟨kw6_31, List.forall_mem_cons.mpr ⟨kw6_33, List.forall_mem_cons.mpr ⟨kw6_35, List.forall_mem_cons.mpr ⟨kw6_37, List.forall_mem_cons.mpr ⟨kw6_39, List.forall_mem_cons.mpr ⟨kw6_41, List.forall_mem_cons.mpr ⟨kw6_43, List.forall_mem_cons.mpr ⟨kw6_45, List.forall_mem_cons.mpr ⟨kw6_47, List.forall_mem_cons.mpr ⟨kw6_49, List.forall_mem_cons.mpr ⟨kw6_51, List.forall_mem_cons.mpr ⟨kw6_53, List.forall_mem_cons.mpr ⟨kw6_55, List.forall_mem_cons.mpr ⟨kw6_57, List.forall_mem_cons.mpr ⟨kw6_59, List.forall_mem_cons.mpr ⟨kw6_61, List.forall_mem_cons.mpr ⟨kw6_63, List.forall_mem_cons.mpr ⟨kw6_65, List.forall_mem_cons.mpr ⟨kw6_67, fun _ h => absurd h List.not_mem_nil⟩⟩⟩⟩⟩⟩⟩⟩⟩⟩⟩⟩⟩⟩⟩⟩⟩⟩⟩⟩⟩⟩⟩⟩⟩⟩⟩⟩⟩⟩⟩⟩⟩⟩⟩⟩⟩⟩⟩⟩⟩⟩⟩⟩⟩⟩⟩⟩⟩⟩
