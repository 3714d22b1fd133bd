def lC (b Ln : Nat) (xs : Nat → Int32) (G : xGt) (p : Program) (s : State) (m : MethodId) (t : Method) (c : Code) : Prop :=
  p.tables.exec = Jvm.exec ∧ c.code = code ∧ c.maxLocals = 4 ∧ t.sig.returnType = ret ∧ s.vm.findClass RL = some m.cls ∧ (∀ w ∈ xTs, w.before #[Value.ref b] s = true) ∧ t.locks = false ∧ va_K G.1 vwCl (xT G) s ∧ zG s.heap.size G ∧ xN s ∧ xStr G s ∧ va_X b Ln xs s s.heap ∧ b < s.heap.size ∧ xad G 4000 = b
def lX (b Ln : Nat) (xs : Nat → Int32) (pc : Nat) (L : List (Nat × Value)) (st : List Value) (M : Mem) : Prop :=
  ∀ (G : xGt) (p : Program) (l : Launch) (e : Env) (s : State) (m : MethodId) (bl : List Frame) (t : Method) (c : Code) (H : Heap) (o : List Loc) (ls : Array Slot),
    lC b Ln xs G p s m t c → va_P G.1 vwCl (xw G M) H → va_S (fun q => s.heap.size ≤ q) s.heap H o → lv_has ls 4 (L.map (xl G)) →
    W p l e room_1 s m #[Value.ref b] bl t c H o 192 13418 (lw_Z bl #[Value.ref b] s) (F0 m pc ls (st.map (xc G)))
theorem zG_D {S : Nat} {G : xGt} (h : zG S G) : xD G := fun i j hi hj e => by
  rw [h i hi, h j hj] at e
  omega
theorem zG_A {S : Nat} {G : xGt} (h : zG S G) {q : Nat} (hq : xA G q) : S ≤ q := by
  obtain ⟨c, hc, rfl⟩ := hq
  rw [h c hc]
  omega
section LR
variable {b Ln : Nat} {xs : Nat → Int32} {pc : Nat} {L : List (Nat × Value)} {st : List Value} {M : Mem}
theorem l_iadd {x y : Int32} (hd : decode code pc = .ok (.iadd, 1))  (q : Nat) (hq : pc + 1 = q) (k : lX b Ln xs q L (.int (x + y) :: st) M) : lX b Ln xs pc L (.int y :: .int x :: st) M := by
  subst hq
  intro G p l e s m bl t c H o ls C hP hS hl
  exact lv_iadd C.1 C.2.1 hd (k G p l e s m bl t c H o ls C hP hS hl)
theorem l_isub {x y : Int32} (hd : decode code pc = .ok (.isub, 1))  (q : Nat) (hq : pc + 1 = q) (k : lX b Ln xs q L (.int (x - y) :: st) M) : lX b Ln xs pc L (.int y :: .int x :: st) M := by
  subst hq
  intro G p l e s m bl t c H o ls C hP hS hl
  exact lv_isub C.1 C.2.1 hd (k G p l e s m bl t c H o ls C hP hS hl)
theorem l_iand {x y : Int32} (hd : decode code pc = .ok (.iand, 1))  (q : Nat) (hq : pc + 1 = q) (k : lX b Ln xs q L (.int (x &&& y) :: st) M) : lX b Ln xs pc L (.int y :: .int x :: st) M := by
  subst hq
  intro G p l e s m bl t c H o ls C hP hS hl
  exact lv_iand C.1 C.2.1 hd (k G p l e s m bl t c H o ls C hP hS hl)
theorem l_iconst {n : Int} {v : Int32} (hd : decode code pc = .ok (.iconst n, 1)) (hv : Int32.ofInt n = v) (q : Nat) (hq : pc + 1 = q) (k : lX b Ln xs q L (.int v :: st) M) : lX b Ln xs pc L st M := by
  subst hq
  intro G p l e s m bl t c H o ls C hP hS hl
  exact lv_iconst C.1 C.2.1 hd hv (k G p l e s m bl t c H o ls C hP hS hl)
theorem l_bipush {n : Int} {v : Int32} (hd : decode code pc = .ok (.bipush n, 2)) (hv : (Int8.ofInt n).toInt32 = v) (q : Nat) (hq : pc + 2 = q) (k : lX b Ln xs q L (.int v :: st) M) : lX b Ln xs pc L st M := by
  subst hq
  intro G p l e s m bl t c H o ls C hP hS hl
  exact lv_bipush C.1 C.2.1 hd hv (k G p l e s m bl t c H o ls C hP hS hl)
theorem l_iload_n {i : Fin 4} {x : Int32} (hd : decode code pc = .ok (.iload_n i, 1)) (hv : xat L i.val = some (.int x)) (q : Nat) (hq : pc + 1 = q) (k : lX b Ln xs q L (.int x :: st) M) : lX b Ln xs pc L st M := by
  subst hq
  intro G p l e s m bl t c H o ls C hP hS hl
  exact lv_iload_n C.1 C.2.1 hd rfl (xl_at hl hv) (k G p l e s m bl t c H o ls C hP hS hl)
theorem l_aload_n {i : Fin 4} {x : Nat} (hd : decode code pc = .ok (.aload_n i, 1)) (hv : xat L i.val = some (.ref x)) (q : Nat) (hq : pc + 1 = q) (k : lX b Ln xs q L (.ref x :: st) M) : lX b Ln xs pc L st M := by
  subst hq
  intro G p l e s m bl t c H o ls C hP hS hl
  exact lv_aload_n C.1 C.2.1 hd rfl (xl_at hl hv) (k G p l e s m bl t c H o ls C hP hS hl)
theorem l_istore_n {i : Fin 4} {x : Int32} (hd : decode code pc = .ok (.istore_n i, 1)) (hn : i.val < 4) (L2 : List (Nat × Value)) (hL : xset i.val (.int x) L = L2) (q : Nat) (hq : pc + 1 = q) (k : lX b Ln xs q L2 st M) : lX b Ln xs pc L (.int x :: st) M := by
  subst hq
  intro G p l e s m bl t c H o ls C hP hS hl
  subst hL
  exact lv_istore_n C.1 C.2.1 hd rfl hl hn rfl (fun ls2 hl2 => k G p l e s m bl t c H o ls2 C hP hS (xset_has (v := .int x) hl2))
theorem l_iinc {i : Nat} {n : Int} {x v : Int32} (hd : decode code pc = .ok (.iinc i n, 3)) (hx : xat L i = some (.int x)) (hv : x + Int32.ofInt n = v) (hn : i < 4) (L2 : List (Nat × Value)) (hL : xset i (.int v) L = L2) (q : Nat) (hq : pc + 3 = q) (k : lX b Ln xs q L2 st M) : lX b Ln xs pc L st M := by
  subst hq
  intro G p l e s m bl t c H o ls C hP hS hl
  subst hL
  obtain ⟨z, hz⟩ := List.getElem?_of_mem (List.mem_map.mpr ⟨(i, Value.int x), xat_mem hx, rfl⟩ : xl G (i, .int x) ∈ L.map (xl G))
  exact lv_iinc C.1 C.2.1 hd hl hz hv hn rfl (fun ls2 hl2 => k G p l e s m bl t c H o ls2 C hP hS (xset_has (v := .int v) hl2))
theorem l_sld {i : Int32} (hd : decode code pc = .ok (.iaload, 1)) (hin : vp_in i Ln) (q : Nat) (hq : pc + 1 = q) (k : lX b Ln xs q L (.int (xs i.toNatClampNeg) :: st) M) : lX b Ln xs pc L (.int i :: .ref 4000 :: st) M := by
  subst hq
  intro G p l e s m bl t c H o ls C hP hS hl
  have eb := C.2.2.2.2.2.2.2.2.2.2.2.2.2
  show W _ _ _ _ _ _ _ _ _ _ _ _ _ _ _ (F0 m pc ls (.int i :: .ref (xad G 4000) :: st.map (xc G)))
  rw [eb]
  exact va_sld C.1 C.2.1 C.2.2.2.2.2.2.2.2.2.2.2.1 C.2.2.2.2.2.2.2.2.2.2.2.2.1 (Nat.not_le.mpr C.2.2.2.2.2.2.2.2.2.2.2.2.1) hS hin hd (k G p l e s m bl t c H o ls C hP hS hl)
theorem l_slen  (hd : decode code pc = .ok (.arraylength, 1))  (q : Nat) (hq : pc + 1 = q) (k : lX b Ln xs q L (.int (nI Ln) :: st) M) : lX b Ln xs pc L (.ref 4000 :: st) M := by
  subst hq
  intro G p l e s m bl t c H o ls C hP hS hl
  have eb := C.2.2.2.2.2.2.2.2.2.2.2.2.2
  show W _ _ _ _ _ _ _ _ _ _ _ _ _ _ _ (F0 m pc ls (.ref (xad G 4000) :: st.map (xc G)))
  rw [eb]
  exact va_slen C.1 C.2.1 C.2.2.2.2.2.2.2.2.2.2.2.1 C.2.2.2.2.2.2.2.2.2.2.2.2.1 (Nat.not_le.mpr C.2.2.2.2.2.2.2.2.2.2.2.2.1) hS hd (k G p l e s m bl t c H o ls C hP hS hl)
theorem l_icmp_gt {x y : Int32} {off : Int} (hd : decode code pc = .ok (.if_icmp .gt off, 3)) (tg q : Nat) (ht : (pc : Int) + off = (tg : Int)) (hq : pc + 3 = q) (kt : y < x → lX b Ln xs tg L st M) (kf : ¬ y < x → lX b Ln xs q L st M) : lX b Ln xs pc L (.int y :: .int x :: st) M := by
  subst hq
  intro G p l e s m bl t c H o ls C hP hS hl
  exact lv_icmp_gt C.1 C.2.1 hd ht (fun h => kt h G p l e s m bl t c H o ls C hP hS hl) (fun h => kf h G p l e s m bl t c H o ls C hP hS hl)
theorem l_icmp_eq {x y : Int32} {off : Int} (hd : decode code pc = .ok (.if_icmp .eq off, 3)) (tg q : Nat) (ht : (pc : Int) + off = (tg : Int)) (hq : pc + 3 = q) (kt : x = y → lX b Ln xs tg L st M) (kf : ¬ x = y → lX b Ln xs q L st M) : lX b Ln xs pc L (.int y :: .int x :: st) M := by
  subst hq
  intro G p l e s m bl t c H o ls C hP hS hl
  exact lv_icmp_eq C.1 C.2.1 hd ht (fun h => kt h G p l e s m bl t c H o ls C hP hS hl) (fun h => kf h G p l e s m bl t c H o ls C hP hS hl)
theorem l_if_eq {x : Int32} {off : Int} (hd : decode code pc = .ok (.ifCond .eq off, 3)) (tg q : Nat) (ht : (pc : Int) + off = (tg : Int)) (hq : pc + 3 = q) (kt : x = 0 → lX b Ln xs tg L st M) (kf : ¬ x = 0 → lX b Ln xs q L st M) : lX b Ln xs pc L (.int x :: st) M := by
  subst hq
  intro G p l e s m bl t c H o ls C hP hS hl
  exact lv_if_eq C.1 C.2.1 hd ht (fun h => kt h G p l e s m bl t c H o ls C hP hS hl) (fun h => kf h G p l e s m bl t c H o ls C hP hS hl)
theorem l_goto {off : Int} (hd : decode code pc = .ok (.goto off, 3)) (tg : Nat) (ht : (pc : Int) + off = (tg : Int)) (k : lX b Ln xs tg L st M) : lX b Ln xs pc L st M := by
  intro G p l e s m bl t c H o ls C hP hS hl
  exact lv_goto C.1 C.2.1 hd ht (k G p l e s m bl t c H o ls C hP hS hl)
theorem l_tab_at {dflt lo hi : Int} {offs : Array Int} {len tg : Nat} {off : Int} {x v : Int32} (hd : decode code pc = .ok (.tableswitch dflt lo hi offs, len)) (hx : x = v) (h1 : ¬ v.toInt < lo) (h2 : ¬ hi < v.toInt) (ho : offs[(v.toInt - lo).toNat]? = some off) (ht : (pc : Int) + off = (tg : Int)) (k : lX b Ln xs tg L st M) : lX b Ln xs pc L (.int x :: st) M := by
  subst hx
  intro G p l e s m bl t c H o ls C hP hS hl
  exact lv_tableIn C.1 C.2.1 hd h1 h2 ho ht (k G p l e s m bl t c H o ls C hP hS hl)
theorem l_tab_out {dflt lo hi : Int} {offs : Array Int} {len tg : Nat} {x : Int32} (hd : decode code pc = .ok (.tableswitch dflt lo hi offs, len)) (h : x.toInt < lo ∨ hi < x.toInt) (ht : (pc : Int) + dflt = (tg : Int)) (k : lX b Ln xs tg L st M) : lX b Ln xs pc L (.int x :: st) M := by
  intro G p l e s m bl t c H o ls C hP hS hl
  exact lv_tableOut C.1 C.2.1 hd h ht (k G p l e s m bl t c H o ls C hP hS hl)
theorem l_ret (hd : decode code pc = .ok (.ireturn, 1)) : lX b Ln xs pc L [.int 1] M := by
  intro G p l e s m bl t c H o ls C hP hS hl
  refine W.widen (k := 600000) (n := 7302250) (by decide) (by decide) ?_
  refine va_forget hS.2.2 ?_
  exact lw_ret C.1 C.2.1 C.2.2.2.1 C.2.2.2.2.2.2.1 hd
theorem l_call_i {ix n maxL d2 v ci N : Nat} {y : MethodName} {bytes : ByteArray} {As : List Value} {Q : Int32 → Mem → Prop} {C0 : String} {T : u_T} (hd : decode code pc = .ok (.invokevirtual ix, 3)) (q : Nat) (hq : pc + 3 = q) (hk : SHk v = ci) (hci : ci < 13) (hc : vwCl[ci]? = some (C0, T, N)) (hC : y.cls = C0) (w1 : Cond.methodLink RL ix y ∈ xTs) (w2 : Cond.instanceMethod y ∈ xTs) (w3 : Cond.selects C0 y y ∈ xTs) (w4 : Cond.initialized C0 ∈ xTs) (w5 : Cond.code y bytes maxL (some .int) ∈ xTs) (hdsc : y.cls ≠ "java/lang/invoke/MethodHandle" ∧ y.cls ≠ "java/lang/invoke/VarHandle" ∧ (parseMethodDescriptor y.desc).map (fun d => d.parameters.length) = some n) (hlen : As.length = n) (hr : d2 < 1000) (hm : maxL ≤ 29) (hst : (st.map fun v => v.category).sum ≤ 8) (Sk : List Value) (hSk : Sk = As.reverse ++ .ref v :: st) (hM : xM y bytes maxL (some .int) d2 (.ref v :: As) M (xQi Q)) (k : ∀ (r : Int32) (N : Mem), Q r N → lX b Ln xs q L (.int r :: st) N) : lX b Ln xs pc L Sk M := by
  subst hq
  subst hSk
  intro G p l e s m bl t c H o ls C hP hS hl
  have hstk : (As.reverse ++ .ref v :: st).map (xc G) = (As.map (xc G)).reverse ++ .ref (xad G v) :: st.map (xc G) := by simp [List.map_append, List.map_reverse, xc]
  rw [hstk]
  have e0 := xw_get G M (xlt hk (by omega))
  rw [xe_o hk hci] at e0
  obtain ⟨cellB, hcB, hoB, hclB⟩ := va_recv C.2.2.2.2.2.2.2.1 hP hc e0
  have hG := C.2.2.2.2.2.2.2.2.1
  have hS2 : va_S (xA G) s.heap H [] := ⟨hS.1, fun q h1 h2 => hS.2.1 q h1 (by omega), fun _ h => by cases h⟩
  refine va_calli (va_runV (As := As.map (xc G)) (rest := st.map (xc G)) (C := C0) (b := xad G v) ⟨C.1, C.2.1, C.2.2.1, C.2.2.2.2.1, C.2.2.2.2.2.1⟩ (hM G l (zG_D hG)) ⟨callB_of n C.2.2.2.2.2.1 (xG_ws (x := y) (cx := code) (nx := 0) (rx := none) w5) rfl rfl rfl (by rw [hC]; exact C.2.2.2.2.2.1 _ w4) (C.2.2.2.2.2.1 _ w1) hdsc ⟨by show d2 + 1 ≤ 2048; omega, by show 8 + (maxL + 11) + 48 * d2 ≤ 84000; omega⟩, C.2.2.2.2.2.1 _ w2, C.2.2.2.2.2.1 _ w3⟩ ⟨xPc_blind G _ M, ⟨cellB, hcB, hoB, hclB⟩, fun U hU hW => ⟨rfl, by rw [hU]; exact hP, va_K.moved hW.alike C.2.2.2.2.2.2.2.1, xN_go hW C.2.2.2.2.2.2.2.2.2.1, xStr_go C.2.2.2.2.2.2.2.2.2.2.1 hS2 hU hW⟩⟩ rfl (by rw [List.length_map]; exact hlen) hl.1 rfl (lv_room (by rw [xcat]; exact hst)) hd ⟨by decide, by decide⟩) hS (fun q _ h => zG_A hG h) (fun q h => zG_A hG h) (fun r u t2 H1 o1 ht hvm hpo hB hz hk1 hS1 => ?_)
  exact k r u hpo G p l e s m bl t c H1 o1 ls C (by rw [← ht]; exact hB) hS1 hl
theorem l_call_b {ix n maxL d2 v ci N : Nat} {y : MethodName} {bytes : ByteArray} {As : List Value} {Q : Bool → Mem → Prop} {C0 : String} {T : u_T} (hd : decode code pc = .ok (.invokevirtual ix, 3)) (q : Nat) (hq : pc + 3 = q) (hk : SHk v = ci) (hci : ci < 13) (hc : vwCl[ci]? = some (C0, T, N)) (hC : y.cls = C0) (w1 : Cond.methodLink RL ix y ∈ xTs) (w2 : Cond.instanceMethod y ∈ xTs) (w3 : Cond.selects C0 y y ∈ xTs) (w4 : Cond.initialized C0 ∈ xTs) (w5 : Cond.code y bytes maxL (some .boolean) ∈ xTs) (hdsc : y.cls ≠ "java/lang/invoke/MethodHandle" ∧ y.cls ≠ "java/lang/invoke/VarHandle" ∧ (parseMethodDescriptor y.desc).map (fun d => d.parameters.length) = some n) (hlen : As.length = n) (hr : d2 < 1000) (hm : maxL ≤ 29) (hst : (st.map fun v => v.category).sum ≤ 8) (Sk : List Value) (hSk : Sk = As.reverse ++ .ref v :: st) (hM : xM y bytes maxL (some .boolean) d2 (.ref v :: As) M (xQb Q)) (k : ∀ (r : Bool) (N : Mem), Q r N → lX b Ln xs q L (.int (bI r) :: st) N) : lX b Ln xs pc L Sk M := by
  subst hq
  subst hSk
  intro G p l e s m bl t c H o ls C hP hS hl
  have hstk : (As.reverse ++ .ref v :: st).map (xc G) = (As.map (xc G)).reverse ++ .ref (xad G v) :: st.map (xc G) := by simp [List.map_append, List.map_reverse, xc]
  rw [hstk]
  have e0 := xw_get G M (xlt hk (by omega))
  rw [xe_o hk hci] at e0
  obtain ⟨cellB, hcB, hoB, hclB⟩ := va_recv C.2.2.2.2.2.2.2.1 hP hc e0
  have hG := C.2.2.2.2.2.2.2.2.1
  have hS2 : va_S (xA G) s.heap H [] := ⟨hS.1, fun q h1 h2 => hS.2.1 q h1 (by omega), fun _ h => by cases h⟩
  refine va_calli (va_runV (As := As.map (xc G)) (rest := st.map (xc G)) (C := C0) (b := xad G v) ⟨C.1, C.2.1, C.2.2.1, C.2.2.2.2.1, C.2.2.2.2.2.1⟩ (hM G l (zG_D hG)) ⟨callB_of n C.2.2.2.2.2.1 (xG_ws (x := y) (cx := code) (nx := 0) (rx := none) w5) rfl rfl rfl (by rw [hC]; exact C.2.2.2.2.2.1 _ w4) (C.2.2.2.2.2.1 _ w1) hdsc ⟨by show d2 + 1 ≤ 2048; omega, by show 8 + (maxL + 11) + 48 * d2 ≤ 84000; omega⟩, C.2.2.2.2.2.1 _ w2, C.2.2.2.2.2.1 _ w3⟩ ⟨xPc_blind G _ M, ⟨cellB, hcB, hoB, hclB⟩, fun U hU hW => ⟨rfl, by rw [hU]; exact hP, va_K.moved hW.alike C.2.2.2.2.2.2.2.1, xN_go hW C.2.2.2.2.2.2.2.2.2.1, xStr_go C.2.2.2.2.2.2.2.2.2.2.1 hS2 hU hW⟩⟩ rfl (by rw [List.length_map]; exact hlen) hl.1 rfl (lv_room (by rw [xcat]; exact hst)) hd ⟨by decide, by decide⟩) hS (fun q _ h => zG_A hG h) (fun q h => zG_A hG h) (fun r u t2 H1 o1 ht hvm hpo hB hz hk1 hS1 => ?_)
  obtain ⟨z, rfl, hz2⟩ := hpo
  exact k z u hz2 G p l e s m bl t c H1 o1 ls C (by rw [← ht]; exact hB) hS1 hl
end LR
def lq_state (Inv : Mem → Prop) : Prop := ∀ (M : Mem) (a1 : Int32), Inv M → FX11_state (fun (r : Int32) (M1 : Mem) => FX12_state (fun (r2 : Int32) (M2 : Mem) => r = r2 ∧ Inv M2) 166 a1 M1) 0 a1 M
theorem lc_state {Inv : Mem → Prop} (hq : lq_state Inv) {b Ln : Nat} {xs : Nat → Int32} {i : Int32} (hin : ∀ j : Int32, (j = 1 ∨ j = 2 ∨ j = 3 ∨ j = 4 ∨ j = 5) → vp_in (i + j) Ln) (kk : ∀ M, Inv M → lX b Ln xs 1138 [(0, .ref 4000), (1, .ref 0), (2, .ref 166), (3, .int i)] [] M) {M : Mem} (hI : Inv M) : lX b Ln xs 176 [(0, .ref 4000), (1, .ref 0), (2, .ref 166), (3, .int i)] [] M := by
  have h := hq M (xs (i + 1).toNatClampNeg) hI
  refine l_aload_n dL_law_176 rfl 177 rfl ?_
  refine l_aload_n dL_law_177 rfl 178 rfl ?_
  refine l_iload_n dL_law_178 rfl 179 rfl ?_
  refine l_iconst (v := 1) dL_law_179 (by decide) 180 rfl ?_
  refine l_iadd dL_law_180 181 rfl ?_
  refine l_sld dL_law_181 (hin 1 (by decide)) 182 rfl ?_
  refine l_call_i (n := 1) (As := [.int (xs (i + 1).toNatClampNeg)]) dL_law_182 185 rfl (v := 0) (ci := 11) (by decide) (by decide) rfl rfl kw2_177 kw2_178 kw2_179 kw1_1 kw2_180 (by decide +kernel) rfl (by decide) (by decide) (Nat.le_of_ble_eq_true rfl) _ rfl (cX11_state_ (by decide) h) (fun r1 N1 h => ?_)
  refine l_aload_n dL_law_185 rfl 186 rfl ?_
  refine l_aload_n dL_law_186 rfl 187 rfl ?_
  refine l_iload_n dL_law_187 rfl 188 rfl ?_
  refine l_iconst (v := 1) dL_law_188 (by decide) 189 rfl ?_
  refine l_iadd dL_law_189 190 rfl ?_
  refine l_sld dL_law_190 (hin 1 (by decide)) 191 rfl ?_
  refine l_call_i (n := 1) (As := [.int (xs (i + 1).toNatClampNeg)]) dL_law_191 194 rfl (v := 166) (ci := 12) (by decide) (by decide) rfl rfl kw6_74 kw6_75 kw6_76 kw1_14 kw6_77 (by decide +kernel) rfl (by decide) (by decide) (Nat.le_of_ble_eq_true rfl) _ rfl (cX12_state_ (by decide) h) (fun r2 N2 h => ?_)
  obtain ⟨rfl, hI⟩ := h
  refine l_icmp_eq dL_law_194 1138 197 rfl rfl (fun _ => ?_) (fun h => absurd rfl h)
  exact kk _ hI
def lq_pillar (Inv : Mem → Prop) : Prop := ∀ (M : Mem) (a1 : Int32), Inv M → FX11_pillar (fun (r : Int32) (M1 : Mem) => FX12_pillar (fun (r2 : Int32) (M2 : Mem) => r = r2 ∧ Inv M2) 166 a1 M1) 0 a1 M
theorem lc_pillar {Inv : Mem → Prop} (hq : lq_pillar Inv) {b Ln : Nat} {xs : Nat → Int32} {i : Int32} (hin : ∀ j : Int32, (j = 1 ∨ j = 2 ∨ j = 3 ∨ j = 4 ∨ j = 5) → vp_in (i + j) Ln) (kk : ∀ M, Inv M → lX b Ln xs 1138 [(0, .ref 4000), (1, .ref 0), (2, .ref 166), (3, .int i)] [] M) {M : Mem} (hI : Inv M) : lX b Ln xs 199 [(0, .ref 4000), (1, .ref 0), (2, .ref 166), (3, .int i)] [] M := by
  have h := hq M (xs (i + 1).toNatClampNeg) hI
  refine l_aload_n dL_law_199 rfl 200 rfl ?_
  refine l_aload_n dL_law_200 rfl 201 rfl ?_
  refine l_iload_n dL_law_201 rfl 202 rfl ?_
  refine l_iconst (v := 1) dL_law_202 (by decide) 203 rfl ?_
  refine l_iadd dL_law_203 204 rfl ?_
  refine l_sld dL_law_204 (hin 1 (by decide)) 205 rfl ?_
  refine l_call_i (n := 1) (As := [.int (xs (i + 1).toNatClampNeg)]) dL_law_205 208 rfl (v := 0) (ci := 11) (by decide) (by decide) rfl rfl kw2_185 kw2_186 kw2_187 kw1_1 kw2_188 (by decide +kernel) rfl (by decide) (by decide) (Nat.le_of_ble_eq_true rfl) _ rfl (cX11_pillar_ (by decide) h) (fun r1 N1 h => ?_)
  refine l_aload_n dL_law_208 rfl 209 rfl ?_
  refine l_aload_n dL_law_209 rfl 210 rfl ?_
  refine l_iload_n dL_law_210 rfl 211 rfl ?_
  refine l_iconst (v := 1) dL_law_211 (by decide) 212 rfl ?_
  refine l_iadd dL_law_212 213 rfl ?_
  refine l_sld dL_law_213 (hin 1 (by decide)) 214 rfl ?_
  refine l_call_i (n := 1) (As := [.int (xs (i + 1).toNatClampNeg)]) dL_law_214 217 rfl (v := 166) (ci := 12) (by decide) (by decide) rfl rfl kw6_78 kw6_79 kw6_80 kw1_14 kw6_81 (by decide +kernel) rfl (by decide) (by decide) (Nat.le_of_ble_eq_true rfl) _ rfl (cX12_pillar_ (by decide) h) (fun r2 N2 h => ?_)
  obtain ⟨rfl, hI⟩ := h
  refine l_icmp_eq dL_law_217 1138 220 rfl rfl (fun _ => ?_) (fun h => absurd rfl h)
  exact kk _ hI
def lq_saint (Inv : Mem → Prop) : Prop := ∀ (M : Mem) (a1 : Int32) (a2 : Int32) (a3 : Int32), Inv M → FX11_saint (fun (r : Int32) (M1 : Mem) => FX12_saint (fun (r2 : Int32) (M2 : Mem) => r = r2 ∧ Inv M2) 166 a1 a2 a3 M1) 0 a1 a2 a3 M
theorem lc_saint {Inv : Mem → Prop} (hq : lq_saint Inv) {b Ln : Nat} {xs : Nat → Int32} {i : Int32} (hin : ∀ j : Int32, (j = 1 ∨ j = 2 ∨ j = 3 ∨ j = 4 ∨ j = 5) → vp_in (i + j) Ln) (kk : ∀ M, Inv M → lX b Ln xs 1138 [(0, .ref 4000), (1, .ref 0), (2, .ref 166), (3, .int i)] [] M) {M : Mem} (hI : Inv M) : lX b Ln xs 222 [(0, .ref 4000), (1, .ref 0), (2, .ref 166), (3, .int i)] [] M := by
  have h := hq M (xs (i + 1).toNatClampNeg) (xs (i + 2).toNatClampNeg) (xs (i + 3).toNatClampNeg) hI
  refine l_aload_n dL_law_222 rfl 223 rfl ?_
  refine l_aload_n dL_law_223 rfl 224 rfl ?_
  refine l_iload_n dL_law_224 rfl 225 rfl ?_
  refine l_iconst (v := 1) dL_law_225 (by decide) 226 rfl ?_
  refine l_iadd dL_law_226 227 rfl ?_
  refine l_sld dL_law_227 (hin 1 (by decide)) 228 rfl ?_
  refine l_aload_n dL_law_228 rfl 229 rfl ?_
  refine l_iload_n dL_law_229 rfl 230 rfl ?_
  refine l_iconst (v := 2) dL_law_230 (by decide) 231 rfl ?_
  refine l_iadd dL_law_231 232 rfl ?_
  refine l_sld dL_law_232 (hin 2 (by decide)) 233 rfl ?_
  refine l_aload_n dL_law_233 rfl 234 rfl ?_
  refine l_iload_n dL_law_234 rfl 235 rfl ?_
  refine l_iconst (v := 3) dL_law_235 (by decide) 236 rfl ?_
  refine l_iadd dL_law_236 237 rfl ?_
  refine l_sld dL_law_237 (hin 3 (by decide)) 238 rfl ?_
  refine l_call_i (n := 3) (As := [.int (xs (i + 1).toNatClampNeg), .int (xs (i + 2).toNatClampNeg), .int (xs (i + 3).toNatClampNeg)]) dL_law_238 241 rfl (v := 0) (ci := 11) (by decide) (by decide) rfl rfl kw2_209 kw2_210 kw2_211 kw1_1 kw2_212 (by decide +kernel) rfl (by decide) (by decide) (Nat.le_of_ble_eq_true rfl) _ rfl (cX11_saint_ (by decide) h) (fun r1 N1 h => ?_)
  refine l_aload_n dL_law_241 rfl 242 rfl ?_
  refine l_aload_n dL_law_242 rfl 243 rfl ?_
  refine l_iload_n dL_law_243 rfl 244 rfl ?_
  refine l_iconst (v := 1) dL_law_244 (by decide) 245 rfl ?_
  refine l_iadd dL_law_245 246 rfl ?_
  refine l_sld dL_law_246 (hin 1 (by decide)) 247 rfl ?_
  refine l_aload_n dL_law_247 rfl 248 rfl ?_
  refine l_iload_n dL_law_248 rfl 249 rfl ?_
  refine l_iconst (v := 2) dL_law_249 (by decide) 250 rfl ?_
  refine l_iadd dL_law_250 251 rfl ?_
  refine l_sld dL_law_251 (hin 2 (by decide)) 252 rfl ?_
  refine l_aload_n dL_law_252 rfl 253 rfl ?_
  refine l_iload_n dL_law_253 rfl 254 rfl ?_
  refine l_iconst (v := 3) dL_law_254 (by decide) 255 rfl ?_
  refine l_iadd dL_law_255 256 rfl ?_
  refine l_sld dL_law_256 (hin 3 (by decide)) 257 rfl ?_
  refine l_call_i (n := 3) (As := [.int (xs (i + 1).toNatClampNeg), .int (xs (i + 2).toNatClampNeg), .int (xs (i + 3).toNatClampNeg)]) dL_law_257 260 rfl (v := 166) (ci := 12) (by decide) (by decide) rfl rfl kw6_106 kw6_107 kw6_108 kw1_14 kw6_109 (by decide +kernel) rfl (by decide) (by decide) (Nat.le_of_ble_eq_true rfl) _ rfl (cX12_saint_ (by decide) h) (fun r2 N2 h => ?_)
  obtain ⟨rfl, hI⟩ := h
  refine l_icmp_eq dL_law_260 1138 263 rfl rfl (fun _ => ?_) (fun h => absurd rfl h)
  exact kk _ hI
def lq_set (Inv : Mem → Prop) : Prop := ∀ (M : Mem) (a1 : Int32) (a2 : Int32) (a3 : Int32), Inv M → FX11_set (fun (r : Bool) (M1 : Mem) => FX12_set (fun (r2 : Bool) (M2 : Mem) => r = r2 ∧ Inv M2) 166 a1 a2 a3 M1) 0 a1 a2 a3 M
theorem lc_set {Inv : Mem → Prop} (hq : lq_set Inv) {b Ln : Nat} {xs : Nat → Int32} {i : Int32} (hin : ∀ j : Int32, (j = 1 ∨ j = 2 ∨ j = 3 ∨ j = 4 ∨ j = 5) → vp_in (i + j) Ln) (kk : ∀ M, Inv M → lX b Ln xs 1138 [(0, .ref 4000), (1, .ref 0), (2, .ref 166), (3, .int i)] [] M) {M : Mem} (hI : Inv M) : lX b Ln xs 265 [(0, .ref 4000), (1, .ref 0), (2, .ref 166), (3, .int i)] [] M := by
  have h := hq M (xs (i + 1).toNatClampNeg) (xs (i + 2).toNatClampNeg) (xs (i + 3).toNatClampNeg) hI
  refine l_aload_n dL_law_265 rfl 266 rfl ?_
  refine l_aload_n dL_law_266 rfl 267 rfl ?_
  refine l_iload_n dL_law_267 rfl 268 rfl ?_
  refine l_iconst (v := 1) dL_law_268 (by decide) 269 rfl ?_
  refine l_iadd dL_law_269 270 rfl ?_
  refine l_sld dL_law_270 (hin 1 (by decide)) 271 rfl ?_
  refine l_aload_n dL_law_271 rfl 272 rfl ?_
  refine l_iload_n dL_law_272 rfl 273 rfl ?_
  refine l_iconst (v := 2) dL_law_273 (by decide) 274 rfl ?_
  refine l_iadd dL_law_274 275 rfl ?_
  refine l_sld dL_law_275 (hin 2 (by decide)) 276 rfl ?_
  refine l_aload_n dL_law_276 rfl 277 rfl ?_
  refine l_iload_n dL_law_277 rfl 278 rfl ?_
  refine l_iconst (v := 3) dL_law_278 (by decide) 279 rfl ?_
  refine l_iadd dL_law_279 280 rfl ?_
  refine l_sld dL_law_280 (hin 3 (by decide)) 281 rfl ?_
  refine l_call_b (n := 3) (As := [.int (xs (i + 1).toNatClampNeg), .int (xs (i + 2).toNatClampNeg), .int (xs (i + 3).toNatClampNeg)]) dL_law_281 284 rfl (v := 0) (ci := 11) (by decide) (by decide) rfl rfl kw2_224 kw2_225 kw2_226 kw1_1 kw2_227 (by decide +kernel) rfl (by decide) (by decide) (Nat.le_of_ble_eq_true rfl) _ rfl (cX11_set_ (by decide) h) (fun r1 N1 h => ?_)
  refine l_aload_n dL_law_284 rfl 285 rfl ?_
  refine l_aload_n dL_law_285 rfl 286 rfl ?_
  refine l_iload_n dL_law_286 rfl 287 rfl ?_
  refine l_iconst (v := 1) dL_law_287 (by decide) 288 rfl ?_
  refine l_iadd dL_law_288 289 rfl ?_
  refine l_sld dL_law_289 (hin 1 (by decide)) 290 rfl ?_
  refine l_aload_n dL_law_290 rfl 291 rfl ?_
  refine l_iload_n dL_law_291 rfl 292 rfl ?_
  refine l_iconst (v := 2) dL_law_292 (by decide) 293 rfl ?_
  refine l_iadd dL_law_293 294 rfl ?_
  refine l_sld dL_law_294 (hin 2 (by decide)) 295 rfl ?_
  refine l_aload_n dL_law_295 rfl 296 rfl ?_
  refine l_iload_n dL_law_296 rfl 297 rfl ?_
  refine l_iconst (v := 3) dL_law_297 (by decide) 298 rfl ?_
  refine l_iadd dL_law_298 299 rfl ?_
  refine l_sld dL_law_299 (hin 3 (by decide)) 300 rfl ?_
  refine l_call_b (n := 3) (As := [.int (xs (i + 1).toNatClampNeg), .int (xs (i + 2).toNatClampNeg), .int (xs (i + 3).toNatClampNeg)]) dL_law_300 303 rfl (v := 166) (ci := 12) (by decide) (by decide) rfl rfl kw6_114 kw6_115 kw6_116 kw1_14 kw6_117 (by decide +kernel) rfl (by decide) (by decide) (Nat.le_of_ble_eq_true rfl) _ rfl (cX12_set_ (by decide) h) (fun r2 N2 h => ?_)
  obtain ⟨rfl, hI⟩ := h
  refine l_icmp_eq dL_law_303 1138 306 rfl rfl (fun _ => ?_) (fun h => absurd rfl h)
  exact kk _ hI
def lq_act (Inv : Mem → Prop) : Prop := ∀ (M : Mem) (a1 : Int32) (a2 : Int32) (a3 : Int32), Inv M → FX11_act (fun (r : Bool) (M1 : Mem) => FX12_act (fun (r2 : Bool) (M2 : Mem) => r = r2 ∧ Inv M2) 166 a1 a2 a3 M1) 0 a1 a2 a3 M
theorem lc_act {Inv : Mem → Prop} (hq : lq_act Inv) {b Ln : Nat} {xs : Nat → Int32} {i : Int32} (hin : ∀ j : Int32, (j = 1 ∨ j = 2 ∨ j = 3 ∨ j = 4 ∨ j = 5) → vp_in (i + j) Ln) (kk : ∀ M, Inv M → lX b Ln xs 1138 [(0, .ref 4000), (1, .ref 0), (2, .ref 166), (3, .int i)] [] M) {M : Mem} (hI : Inv M) : lX b Ln xs 308 [(0, .ref 4000), (1, .ref 0), (2, .ref 166), (3, .int i)] [] M := by
  have h := hq M (xs (i + 1).toNatClampNeg) (xs (i + 2).toNatClampNeg) (xs (i + 3).toNatClampNeg) hI
  refine l_aload_n dL_law_308 rfl 309 rfl ?_
  refine l_aload_n dL_law_309 rfl 310 rfl ?_
  refine l_iload_n dL_law_310 rfl 311 rfl ?_
  refine l_iconst (v := 1) dL_law_311 (by decide) 312 rfl ?_
  refine l_iadd dL_law_312 313 rfl ?_
  refine l_sld dL_law_313 (hin 1 (by decide)) 314 rfl ?_
  refine l_aload_n dL_law_314 rfl 315 rfl ?_
  refine l_iload_n dL_law_315 rfl 316 rfl ?_
  refine l_iconst (v := 2) dL_law_316 (by decide) 317 rfl ?_
  refine l_iadd dL_law_317 318 rfl ?_
  refine l_sld dL_law_318 (hin 2 (by decide)) 319 rfl ?_
  refine l_aload_n dL_law_319 rfl 320 rfl ?_
  refine l_iload_n dL_law_320 rfl 321 rfl ?_
  refine l_iconst (v := 3) dL_law_321 (by decide) 322 rfl ?_
  refine l_iadd dL_law_322 323 rfl ?_
  refine l_sld dL_law_323 (hin 3 (by decide)) 324 rfl ?_
  refine l_call_b (n := 3) (As := [.int (xs (i + 1).toNatClampNeg), .int (xs (i + 2).toNatClampNeg), .int (xs (i + 3).toNatClampNeg)]) dL_law_324 327 rfl (v := 0) (ci := 11) (by decide) (by decide) rfl rfl kw2_237 kw2_238 kw2_239 kw1_1 kw3_0 (by decide +kernel) rfl (by decide) (by decide) (Nat.le_of_ble_eq_true rfl) _ rfl (cX11_act_ (by decide) h) (fun r1 N1 h => ?_)
  refine l_aload_n dL_law_327 rfl 328 rfl ?_
  refine l_aload_n dL_law_328 rfl 329 rfl ?_
  refine l_iload_n dL_law_329 rfl 330 rfl ?_
  refine l_iconst (v := 1) dL_law_330 (by decide) 331 rfl ?_
  refine l_iadd dL_law_331 332 rfl ?_
  refine l_sld dL_law_332 (hin 1 (by decide)) 333 rfl ?_
  refine l_aload_n dL_law_333 rfl 334 rfl ?_
  refine l_iload_n dL_law_334 rfl 335 rfl ?_
  refine l_iconst (v := 2) dL_law_335 (by decide) 336 rfl ?_
  refine l_iadd dL_law_336 337 rfl ?_
  refine l_sld dL_law_337 (hin 2 (by decide)) 338 rfl ?_
  refine l_aload_n dL_law_338 rfl 339 rfl ?_
  refine l_iload_n dL_law_339 rfl 340 rfl ?_
  refine l_iconst (v := 3) dL_law_340 (by decide) 341 rfl ?_
  refine l_iadd dL_law_341 342 rfl ?_
  refine l_sld dL_law_342 (hin 3 (by decide)) 343 rfl ?_
  refine l_call_b (n := 3) (As := [.int (xs (i + 1).toNatClampNeg), .int (xs (i + 2).toNatClampNeg), .int (xs (i + 3).toNatClampNeg)]) dL_law_343 346 rfl (v := 166) (ci := 12) (by decide) (by decide) rfl rfl kw7_34 kw7_35 kw7_36 kw1_14 kw7_37 (by decide +kernel) rfl (by decide) (by decide) (Nat.le_of_ble_eq_true rfl) _ rfl (cX12_act_ (by decide) h) (fun r2 N2 h => ?_)
  obtain ⟨rfl, hI⟩ := h
  refine l_icmp_eq dL_law_346 1138 349 rfl rfl (fun _ => ?_) (fun h => absurd rfl h)
  exact kk _ hI
def lq_days (Inv : Mem → Prop) : Prop := ∀ (M : Mem) (a1 : Int32), Inv M → FX11_days (fun (r : Int32) (M1 : Mem) => FX12_days (fun (r2 : Int32) (M2 : Mem) => r = r2 ∧ Inv M2) 166 a1 M1) 0 a1 M
theorem lc_days {Inv : Mem → Prop} (hq : lq_days Inv) {b Ln : Nat} {xs : Nat → Int32} {i : Int32} (hin : ∀ j : Int32, (j = 1 ∨ j = 2 ∨ j = 3 ∨ j = 4 ∨ j = 5) → vp_in (i + j) Ln) (kk : ∀ M, Inv M → lX b Ln xs 1138 [(0, .ref 4000), (1, .ref 0), (2, .ref 166), (3, .int i)] [] M) {M : Mem} (hI : Inv M) : lX b Ln xs 351 [(0, .ref 4000), (1, .ref 0), (2, .ref 166), (3, .int i)] [] M := by
  have h := hq M (xs (i + 1).toNatClampNeg) hI
  refine l_aload_n dL_law_351 rfl 352 rfl ?_
  refine l_aload_n dL_law_352 rfl 353 rfl ?_
  refine l_iload_n dL_law_353 rfl 354 rfl ?_
  refine l_iconst (v := 1) dL_law_354 (by decide) 355 rfl ?_
  refine l_iadd dL_law_355 356 rfl ?_
  refine l_sld dL_law_356 (hin 1 (by decide)) 357 rfl ?_
  refine l_call_i (n := 1) (As := [.int (xs (i + 1).toNatClampNeg)]) dL_law_357 360 rfl (v := 0) (ci := 11) (by decide) (by decide) rfl rfl kw3_48 kw3_49 kw3_50 kw1_1 kw3_51 (by decide +kernel) rfl (by decide) (by decide) (Nat.le_of_ble_eq_true rfl) _ rfl (cX11_days_ (by decide) h) (fun r1 N1 h => ?_)
  refine l_aload_n dL_law_360 rfl 361 rfl ?_
  refine l_aload_n dL_law_361 rfl 362 rfl ?_
  refine l_iload_n dL_law_362 rfl 363 rfl ?_
  refine l_iconst (v := 1) dL_law_363 (by decide) 364 rfl ?_
  refine l_iadd dL_law_364 365 rfl ?_
  refine l_sld dL_law_365 (hin 1 (by decide)) 366 rfl ?_
  refine l_call_i (n := 1) (As := [.int (xs (i + 1).toNatClampNeg)]) dL_law_366 369 rfl (v := 166) (ci := 12) (by decide) (by decide) rfl rfl kw7_70 kw7_71 kw7_72 kw1_14 kw7_73 (by decide +kernel) rfl (by decide) (by decide) (Nat.le_of_ble_eq_true rfl) _ rfl (cX12_days_ (by decide) h) (fun r2 N2 h => ?_)
  obtain ⟨rfl, hI⟩ := h
  refine l_icmp_eq dL_law_369 1138 372 rfl rfl (fun _ => ?_) (fun h => absurd rfl h)
  exact kk _ hI
def lq_feed (Inv : Mem → Prop) : Prop := ∀ (M : Mem) (a1 : Int32) (a2 : Int32) (a3 : Int32) (a4 : Int32) (a5 : Int32), Inv M → FX11_feed (fun (r : Int32) (M1 : Mem) => FX12_feed (fun (r2 : Int32) (M2 : Mem) => r = r2 ∧ Inv M2) 166 a1 a2 a3 a4 a5 M1) 0 a1 a2 a3 a4 a5 M
theorem lc_feed {Inv : Mem → Prop} (hq : lq_feed Inv) {b Ln : Nat} {xs : Nat → Int32} {i : Int32} (hin : ∀ j : Int32, (j = 1 ∨ j = 2 ∨ j = 3 ∨ j = 4 ∨ j = 5) → vp_in (i + j) Ln) (kk : ∀ M, Inv M → lX b Ln xs 1138 [(0, .ref 4000), (1, .ref 0), (2, .ref 166), (3, .int i)] [] M) {M : Mem} (hI : Inv M) : lX b Ln xs 374 [(0, .ref 4000), (1, .ref 0), (2, .ref 166), (3, .int i)] [] M := by
  have h := hq M (xs (i + 1).toNatClampNeg) (xs (i + 2).toNatClampNeg) (xs (i + 3).toNatClampNeg) (xs (i + 4).toNatClampNeg) (xs (i + 5).toNatClampNeg) hI
  refine l_aload_n dL_law_374 rfl 375 rfl ?_
  refine l_aload_n dL_law_375 rfl 376 rfl ?_
  refine l_iload_n dL_law_376 rfl 377 rfl ?_
  refine l_iconst (v := 1) dL_law_377 (by decide) 378 rfl ?_
  refine l_iadd dL_law_378 379 rfl ?_
  refine l_sld dL_law_379 (hin 1 (by decide)) 380 rfl ?_
  refine l_aload_n dL_law_380 rfl 381 rfl ?_
  refine l_iload_n dL_law_381 rfl 382 rfl ?_
  refine l_iconst (v := 2) dL_law_382 (by decide) 383 rfl ?_
  refine l_iadd dL_law_383 384 rfl ?_
  refine l_sld dL_law_384 (hin 2 (by decide)) 385 rfl ?_
  refine l_aload_n dL_law_385 rfl 386 rfl ?_
  refine l_iload_n dL_law_386 rfl 387 rfl ?_
  refine l_iconst (v := 3) dL_law_387 (by decide) 388 rfl ?_
  refine l_iadd dL_law_388 389 rfl ?_
  refine l_sld dL_law_389 (hin 3 (by decide)) 390 rfl ?_
  refine l_aload_n dL_law_390 rfl 391 rfl ?_
  refine l_iload_n dL_law_391 rfl 392 rfl ?_
  refine l_iconst (v := 4) dL_law_392 (by decide) 393 rfl ?_
  refine l_iadd dL_law_393 394 rfl ?_
  refine l_sld dL_law_394 (hin 4 (by decide)) 395 rfl ?_
  refine l_aload_n dL_law_395 rfl 396 rfl ?_
  refine l_iload_n dL_law_396 rfl 397 rfl ?_
  refine l_iconst (v := 5) dL_law_397 (by decide) 398 rfl ?_
  refine l_iadd dL_law_398 399 rfl ?_
  refine l_sld dL_law_399 (hin 5 (by decide)) 400 rfl ?_
  refine l_call_i (n := 5) (As := [.int (xs (i + 1).toNatClampNeg), .int (xs (i + 2).toNatClampNeg), .int (xs (i + 3).toNatClampNeg), .int (xs (i + 4).toNatClampNeg), .int (xs (i + 5).toNatClampNeg)]) dL_law_400 403 rfl (v := 0) (ci := 11) (by decide) (by decide) rfl rfl kw3_169 kw3_170 kw3_171 kw1_1 kw3_172 (by decide +kernel) rfl (by decide) (by decide) (Nat.le_of_ble_eq_true rfl) _ rfl (cX11_feed_ (by decide) h) (fun r1 N1 h => ?_)
  refine l_aload_n dL_law_403 rfl 404 rfl ?_
  refine l_aload_n dL_law_404 rfl 405 rfl ?_
  refine l_iload_n dL_law_405 rfl 406 rfl ?_
  refine l_iconst (v := 1) dL_law_406 (by decide) 407 rfl ?_
  refine l_iadd dL_law_407 408 rfl ?_
  refine l_sld dL_law_408 (hin 1 (by decide)) 409 rfl ?_
  refine l_aload_n dL_law_409 rfl 410 rfl ?_
  refine l_iload_n dL_law_410 rfl 411 rfl ?_
  refine l_iconst (v := 2) dL_law_411 (by decide) 412 rfl ?_
  refine l_iadd dL_law_412 413 rfl ?_
  refine l_sld dL_law_413 (hin 2 (by decide)) 414 rfl ?_
  refine l_aload_n dL_law_414 rfl 415 rfl ?_
  refine l_iload_n dL_law_415 rfl 416 rfl ?_
  refine l_iconst (v := 3) dL_law_416 (by decide) 417 rfl ?_
  refine l_iadd dL_law_417 418 rfl ?_
  refine l_sld dL_law_418 (hin 3 (by decide)) 419 rfl ?_
  refine l_aload_n dL_law_419 rfl 420 rfl ?_
  refine l_iload_n dL_law_420 rfl 421 rfl ?_
  refine l_iconst (v := 4) dL_law_421 (by decide) 422 rfl ?_
  refine l_iadd dL_law_422 423 rfl ?_
  refine l_sld dL_law_423 (hin 4 (by decide)) 424 rfl ?_
  refine l_aload_n dL_law_424 rfl 425 rfl ?_
  refine l_iload_n dL_law_425 rfl 426 rfl ?_
  refine l_iconst (v := 5) dL_law_426 (by decide) 427 rfl ?_
  refine l_iadd dL_law_427 428 rfl ?_
  refine l_sld dL_law_428 (hin 5 (by decide)) 429 rfl ?_
  refine l_call_i (n := 5) (As := [.int (xs (i + 1).toNatClampNeg), .int (xs (i + 2).toNatClampNeg), .int (xs (i + 3).toNatClampNeg), .int (xs (i + 4).toNatClampNeg), .int (xs (i + 5).toNatClampNeg)]) dL_law_429 432 rfl (v := 166) (ci := 12) (by decide) (by decide) rfl rfl kw6_126 kw6_127 kw6_128 kw1_14 kw6_129 (by decide +kernel) rfl (by decide) (by decide) (Nat.le_of_ble_eq_true rfl) _ rfl (cX12_feed_ (by decide) h) (fun r2 N2 h => ?_)
  obtain ⟨rfl, hI⟩ := h
  refine l_icmp_eq dL_law_432 1138 435 rfl rfl (fun _ => ?_) (fun h => absurd rfl h)
  exact kk _ hI
def lq_end (Inv : Mem → Prop) : Prop := ∀ (M : Mem) (a1 : Int32), Inv M → FX11_end (fun (r : Bool) (M1 : Mem) => FX12_end (fun (r2 : Bool) (M2 : Mem) => r = r2 ∧ Inv M2) 166 a1 M1) 0 a1 M
theorem lc_end {Inv : Mem → Prop} (hq : lq_end Inv) {b Ln : Nat} {xs : Nat → Int32} {i : Int32} (hin : ∀ j : Int32, (j = 1 ∨ j = 2 ∨ j = 3 ∨ j = 4 ∨ j = 5) → vp_in (i + j) Ln) (kk : ∀ M, Inv M → lX b Ln xs 1138 [(0, .ref 4000), (1, .ref 0), (2, .ref 166), (3, .int i)] [] M) {M : Mem} (hI : Inv M) : lX b Ln xs 437 [(0, .ref 4000), (1, .ref 0), (2, .ref 166), (3, .int i)] [] M := by
  have h := hq M (xs (i + 1).toNatClampNeg) hI
  refine l_aload_n dL_law_437 rfl 438 rfl ?_
  refine l_aload_n dL_law_438 rfl 439 rfl ?_
  refine l_iload_n dL_law_439 rfl 440 rfl ?_
  refine l_iconst (v := 1) dL_law_440 (by decide) 441 rfl ?_
  refine l_iadd dL_law_441 442 rfl ?_
  refine l_sld dL_law_442 (hin 1 (by decide)) 443 rfl ?_
  refine l_call_b (n := 1) (As := [.int (xs (i + 1).toNatClampNeg)]) dL_law_443 446 rfl (v := 0) (ci := 11) (by decide) (by decide) rfl rfl kw3_177 kw3_178 kw3_179 kw1_1 kw3_180 (by decide +kernel) rfl (by decide) (by decide) (Nat.le_of_ble_eq_true rfl) _ rfl (cX11_end_ (by decide) h) (fun r1 N1 h => ?_)
  refine l_aload_n dL_law_446 rfl 447 rfl ?_
  refine l_aload_n dL_law_447 rfl 448 rfl ?_
  refine l_iload_n dL_law_448 rfl 449 rfl ?_
  refine l_iconst (v := 1) dL_law_449 (by decide) 450 rfl ?_
  refine l_iadd dL_law_450 451 rfl ?_
  refine l_sld dL_law_451 (hin 1 (by decide)) 452 rfl ?_
  refine l_call_b (n := 1) (As := [.int (xs (i + 1).toNatClampNeg)]) dL_law_452 455 rfl (v := 166) (ci := 12) (by decide) (by decide) rfl rfl kw6_134 kw6_135 kw6_136 kw1_14 kw6_137 (by decide +kernel) rfl (by decide) (by decide) (Nat.le_of_ble_eq_true rfl) _ rfl (cX12_end_ (by decide) h) (fun r2 N2 h => ?_)
  obtain ⟨rfl, hI⟩ := h
  refine l_icmp_eq dL_law_455 1138 458 rfl rfl (fun _ => ?_) (fun h => absurd rfl h)
  exact kk _ hI
def lq_text (Inv : Mem → Prop) : Prop := ∀ (M : Mem) (a1 : Int32), Inv M → FX11_text (fun (r : Int32) (M1 : Mem) => FX12_text (fun (r2 : Int32) (M2 : Mem) => r = r2 ∧ Inv M2) 166 a1 M1) 0 a1 M
theorem lc_text {Inv : Mem → Prop} (hq : lq_text Inv) {b Ln : Nat} {xs : Nat → Int32} {i : Int32} (hin : ∀ j : Int32, (j = 1 ∨ j = 2 ∨ j = 3 ∨ j = 4 ∨ j = 5) → vp_in (i + j) Ln) (kk : ∀ M, Inv M → lX b Ln xs 1138 [(0, .ref 4000), (1, .ref 0), (2, .ref 166), (3, .int i)] [] M) {M : Mem} (hI : Inv M) : lX b Ln xs 460 [(0, .ref 4000), (1, .ref 0), (2, .ref 166), (3, .int i)] [] M := by
  have h := hq M (xs (i + 1).toNatClampNeg) hI
  refine l_aload_n dL_law_460 rfl 461 rfl ?_
  refine l_aload_n dL_law_461 rfl 462 rfl ?_
  refine l_iload_n dL_law_462 rfl 463 rfl ?_
  refine l_iconst (v := 1) dL_law_463 (by decide) 464 rfl ?_
  refine l_iadd dL_law_464 465 rfl ?_
  refine l_sld dL_law_465 (hin 1 (by decide)) 466 rfl ?_
  refine l_call_i (n := 1) (As := [.int (xs (i + 1).toNatClampNeg)]) dL_law_466 469 rfl (v := 0) (ci := 11) (by decide) (by decide) rfl rfl kw3_181 kw3_182 kw3_183 kw1_1 kw3_184 (by decide +kernel) rfl (by decide) (by decide) (Nat.le_of_ble_eq_true rfl) _ rfl (cX11_text_ (by decide) h) (fun r1 N1 h => ?_)
  refine l_aload_n dL_law_469 rfl 470 rfl ?_
  refine l_aload_n dL_law_470 rfl 471 rfl ?_
  refine l_iload_n dL_law_471 rfl 472 rfl ?_
  refine l_iconst (v := 1) dL_law_472 (by decide) 473 rfl ?_
  refine l_iadd dL_law_473 474 rfl ?_
  refine l_sld dL_law_474 (hin 1 (by decide)) 475 rfl ?_
  refine l_call_i (n := 1) (As := [.int (xs (i + 1).toNatClampNeg)]) dL_law_475 478 rfl (v := 166) (ci := 12) (by decide) (by decide) rfl rfl kw6_138 kw6_139 kw6_140 kw1_14 kw6_141 (by decide +kernel) rfl (by decide) (by decide) (Nat.le_of_ble_eq_true rfl) _ rfl (cX12_text_ (by decide) h) (fun r2 N2 h => ?_)
  obtain ⟨rfl, hI⟩ := h
  refine l_icmp_eq dL_law_478 1138 481 rfl rfl (fun _ => ?_) (fun h => absurd rfl h)
  exact kk _ hI
def lq_fault (Inv : Mem → Prop) : Prop := ∀ (M : Mem) (a1 : Int32), Inv M → FX11_fault (fun (r : Int32) => FX12_fault (fun (r2 : Int32) (M2 : Mem) => r = r2 ∧ Inv M2) 166 a1 M) 0 a1 M
theorem lc_fault {Inv : Mem → Prop} (hq : lq_fault Inv) {b Ln : Nat} {xs : Nat → Int32} {i : Int32} (hin : ∀ j : Int32, (j = 1 ∨ j = 2 ∨ j = 3 ∨ j = 4 ∨ j = 5) → vp_in (i + j) Ln) (kk : ∀ M, Inv M → lX b Ln xs 1138 [(0, .ref 4000), (1, .ref 0), (2, .ref 166), (3, .int i)] [] M) {M : Mem} (hI : Inv M) : lX b Ln xs 483 [(0, .ref 4000), (1, .ref 0), (2, .ref 166), (3, .int i)] [] M := by
  have h := hq M (xs (i + 1).toNatClampNeg) hI
  refine l_aload_n dL_law_483 rfl 484 rfl ?_
  refine l_aload_n dL_law_484 rfl 485 rfl ?_
  refine l_iload_n dL_law_485 rfl 486 rfl ?_
  refine l_iconst (v := 1) dL_law_486 (by decide) 487 rfl ?_
  refine l_iadd dL_law_487 488 rfl ?_
  refine l_sld dL_law_488 (hin 1 (by decide)) 489 rfl ?_
  refine l_call_i (n := 1) (As := [.int (xs (i + 1).toNatClampNeg)]) dL_law_489 492 rfl (v := 0) (ci := 11) (by decide) (by decide) rfl rfl kw4_152 kw4_153 kw4_154 kw1_1 kw4_155 (by decide +kernel) rfl (by decide) (by decide) (Nat.le_of_ble_eq_true rfl) _ rfl (cX11_fault_ (by decide) h) (fun r1 N1 h => ?_)
  obtain ⟨rfl, h⟩ := h
  refine l_aload_n dL_law_492 rfl 493 rfl ?_
  refine l_aload_n dL_law_493 rfl 494 rfl ?_
  refine l_iload_n dL_law_494 rfl 495 rfl ?_
  refine l_iconst (v := 1) dL_law_495 (by decide) 496 rfl ?_
  refine l_iadd dL_law_496 497 rfl ?_
  refine l_sld dL_law_497 (hin 1 (by decide)) 498 rfl ?_
  refine l_call_i (n := 1) (As := [.int (xs (i + 1).toNatClampNeg)]) dL_law_498 501 rfl (v := 166) (ci := 12) (by decide) (by decide) rfl rfl kw7_30 kw7_31 kw7_32 kw1_14 kw7_33 (by decide +kernel) rfl (by decide) (by decide) (Nat.le_of_ble_eq_true rfl) _ rfl (cX12_fault_ (by decide) h) (fun r2 N2 h => ?_)
  obtain ⟨rfl, hI⟩ := h
  refine l_icmp_eq dL_law_501 1138 504 rfl rfl (fun _ => ?_) (fun h => absurd rfl h)
  exact kk _ hI
def lq_of (Inv : Mem → Prop) : Prop := ∀ (M : Mem) (a1 : Int32) (a2 : Int32), Inv M → FX11_of (fun (r : Int32) (M1 : Mem) => FX12_of (fun (r2 : Int32) (M2 : Mem) => r = r2 ∧ Inv M2) 166 a1 a2 M1) 0 a1 a2 M
theorem lc_of {Inv : Mem → Prop} (hq : lq_of Inv) {b Ln : Nat} {xs : Nat → Int32} {i : Int32} (hin : ∀ j : Int32, (j = 1 ∨ j = 2 ∨ j = 3 ∨ j = 4 ∨ j = 5) → vp_in (i + j) Ln) (kk : ∀ M, Inv M → lX b Ln xs 1138 [(0, .ref 4000), (1, .ref 0), (2, .ref 166), (3, .int i)] [] M) {M : Mem} (hI : Inv M) : lX b Ln xs 506 [(0, .ref 4000), (1, .ref 0), (2, .ref 166), (3, .int i)] [] M := by
  have h := hq M (xs (i + 1).toNatClampNeg) (xs (i + 2).toNatClampNeg) hI
  refine l_aload_n dL_law_506 rfl 507 rfl ?_
  refine l_aload_n dL_law_507 rfl 508 rfl ?_
  refine l_iload_n dL_law_508 rfl 509 rfl ?_
  refine l_iconst (v := 1) dL_law_509 (by decide) 510 rfl ?_
  refine l_iadd dL_law_510 511 rfl ?_
  refine l_sld dL_law_511 (hin 1 (by decide)) 512 rfl ?_
  refine l_aload_n dL_law_512 rfl 513 rfl ?_
  refine l_iload_n dL_law_513 rfl 514 rfl ?_
  refine l_iconst (v := 2) dL_law_514 (by decide) 515 rfl ?_
  refine l_iadd dL_law_515 516 rfl ?_
  refine l_sld dL_law_516 (hin 2 (by decide)) 517 rfl ?_
  refine l_call_i (n := 2) (As := [.int (xs (i + 1).toNatClampNeg), .int (xs (i + 2).toNatClampNeg)]) dL_law_517 520 rfl (v := 0) (ci := 11) (by decide) (by decide) rfl rfl kw4_156 kw4_157 kw4_158 kw1_1 kw4_159 (by decide +kernel) rfl (by decide) (by decide) (Nat.le_of_ble_eq_true rfl) _ rfl (cX11_of_ (by decide) h) (fun r1 N1 h => ?_)
  refine l_aload_n dL_law_520 rfl 521 rfl ?_
  refine l_aload_n dL_law_521 rfl 522 rfl ?_
  refine l_iload_n dL_law_522 rfl 523 rfl ?_
  refine l_iconst (v := 1) dL_law_523 (by decide) 524 rfl ?_
  refine l_iadd dL_law_524 525 rfl ?_
  refine l_sld dL_law_525 (hin 1 (by decide)) 526 rfl ?_
  refine l_aload_n dL_law_526 rfl 527 rfl ?_
  refine l_iload_n dL_law_527 rfl 528 rfl ?_
  refine l_iconst (v := 2) dL_law_528 (by decide) 529 rfl ?_
  refine l_iadd dL_law_529 530 rfl ?_
  refine l_sld dL_law_530 (hin 2 (by decide)) 531 rfl ?_
  refine l_call_i (n := 2) (As := [.int (xs (i + 1).toNatClampNeg), .int (xs (i + 2).toNatClampNeg)]) dL_law_531 534 rfl (v := 166) (ci := 12) (by decide) (by decide) rfl rfl kw7_172 kw7_173 kw7_174 kw1_14 kw7_175 (by decide +kernel) rfl (by decide) (by decide) (Nat.le_of_ble_eq_true rfl) _ rfl (cX12_of_ (by decide) h) (fun r2 N2 h => ?_)
  obtain ⟨rfl, hI⟩ := h
  refine l_icmp_eq dL_law_534 1138 537 rfl rfl (fun _ => ?_) (fun h => absurd rfl h)
  exact kk _ hI
def lq_at (Inv : Mem → Prop) : Prop := ∀ (M : Mem) (a1 : Int32) (a2 : Int32), Inv M → FX11_at (fun (r : Int32) => FX12_at (fun (r2 : Int32) (M2 : Mem) => r = r2 ∧ Inv M2) 166 a1 a2 M) 0 a1 a2 M
theorem lc_at {Inv : Mem → Prop} (hq : lq_at Inv) {b Ln : Nat} {xs : Nat → Int32} {i : Int32} (hin : ∀ j : Int32, (j = 1 ∨ j = 2 ∨ j = 3 ∨ j = 4 ∨ j = 5) → vp_in (i + j) Ln) (kk : ∀ M, Inv M → lX b Ln xs 1138 [(0, .ref 4000), (1, .ref 0), (2, .ref 166), (3, .int i)] [] M) {M : Mem} (hI : Inv M) : lX b Ln xs 539 [(0, .ref 4000), (1, .ref 0), (2, .ref 166), (3, .int i)] [] M := by
  have h := hq M (xs (i + 1).toNatClampNeg) (xs (i + 2).toNatClampNeg) hI
  refine l_aload_n dL_law_539 rfl 540 rfl ?_
  refine l_aload_n dL_law_540 rfl 541 rfl ?_
  refine l_iload_n dL_law_541 rfl 542 rfl ?_
  refine l_iconst (v := 1) dL_law_542 (by decide) 543 rfl ?_
  refine l_iadd dL_law_543 544 rfl ?_
  refine l_sld dL_law_544 (hin 1 (by decide)) 545 rfl ?_
  refine l_aload_n dL_law_545 rfl 546 rfl ?_
  refine l_iload_n dL_law_546 rfl 547 rfl ?_
  refine l_iconst (v := 2) dL_law_547 (by decide) 548 rfl ?_
  refine l_iadd dL_law_548 549 rfl ?_
  refine l_sld dL_law_549 (hin 2 (by decide)) 550 rfl ?_
  refine l_call_i (n := 2) (As := [.int (xs (i + 1).toNatClampNeg), .int (xs (i + 2).toNatClampNeg)]) dL_law_550 553 rfl (v := 0) (ci := 11) (by decide) (by decide) rfl rfl kw4_166 kw4_167 kw4_168 kw1_1 kw4_169 (by decide +kernel) rfl (by decide) (by decide) (Nat.le_of_ble_eq_true rfl) _ rfl (cX11_at_ (by decide) h) (fun r1 N1 h => ?_)
  obtain ⟨rfl, h⟩ := h
  refine l_aload_n dL_law_553 rfl 554 rfl ?_
  refine l_aload_n dL_law_554 rfl 555 rfl ?_
  refine l_iload_n dL_law_555 rfl 556 rfl ?_
  refine l_iconst (v := 1) dL_law_556 (by decide) 557 rfl ?_
  refine l_iadd dL_law_557 558 rfl ?_
  refine l_sld dL_law_558 (hin 1 (by decide)) 559 rfl ?_
  refine l_aload_n dL_law_559 rfl 560 rfl ?_
  refine l_iload_n dL_law_560 rfl 561 rfl ?_
  refine l_iconst (v := 2) dL_law_561 (by decide) 562 rfl ?_
  refine l_iadd dL_law_562 563 rfl ?_
  refine l_sld dL_law_563 (hin 2 (by decide)) 564 rfl ?_
  refine l_call_i (n := 2) (As := [.int (xs (i + 1).toNatClampNeg), .int (xs (i + 2).toNatClampNeg)]) dL_law_564 567 rfl (v := 166) (ci := 12) (by decide) (by decide) rfl rfl kw7_176 kw7_177 kw7_178 kw1_14 kw7_179 (by decide +kernel) rfl (by decide) (by decide) (Nat.le_of_ble_eq_true rfl) _ rfl (cX12_at_ (by decide) h) (fun r2 N2 h => ?_)
  obtain ⟨rfl, hI⟩ := h
  refine l_icmp_eq dL_law_567 1138 570 rfl rfl (fun _ => ?_) (fun h => absurd rfl h)
  exact kk _ hI
def lq_sky (Inv : Mem → Prop) : Prop := ∀ (M : Mem) (a1 : Int32), Inv M → FX11_sky (fun (r : Int32) => FX12_sky (fun (r2 : Int32) (M2 : Mem) => r = r2 ∧ Inv M2) 166 a1 M) 0 a1 M
theorem lc_sky {Inv : Mem → Prop} (hq : lq_sky Inv) {b Ln : Nat} {xs : Nat → Int32} {i : Int32} (hin : ∀ j : Int32, (j = 1 ∨ j = 2 ∨ j = 3 ∨ j = 4 ∨ j = 5) → vp_in (i + j) Ln) (kk : ∀ M, Inv M → lX b Ln xs 1138 [(0, .ref 4000), (1, .ref 0), (2, .ref 166), (3, .int i)] [] M) {M : Mem} (hI : Inv M) : lX b Ln xs 572 [(0, .ref 4000), (1, .ref 0), (2, .ref 166), (3, .int i)] [] M := by
  have h := hq M (xs (i + 1).toNatClampNeg) hI
  refine l_aload_n dL_law_572 rfl 573 rfl ?_
  refine l_aload_n dL_law_573 rfl 574 rfl ?_
  refine l_iload_n dL_law_574 rfl 575 rfl ?_
  refine l_iconst (v := 1) dL_law_575 (by decide) 576 rfl ?_
  refine l_iadd dL_law_576 577 rfl ?_
  refine l_sld dL_law_577 (hin 1 (by decide)) 578 rfl ?_
  refine l_call_i (n := 1) (As := [.int (xs (i + 1).toNatClampNeg)]) dL_law_578 581 rfl (v := 0) (ci := 11) (by decide) (by decide) rfl rfl kw4_171 kw4_172 kw4_173 kw1_1 kw4_174 (by decide +kernel) rfl (by decide) (by decide) (Nat.le_of_ble_eq_true rfl) _ rfl (cX11_sky_ (by decide) h) (fun r1 N1 h => ?_)
  obtain ⟨rfl, h⟩ := h
  refine l_aload_n dL_law_581 rfl 582 rfl ?_
  refine l_aload_n dL_law_582 rfl 583 rfl ?_
  refine l_iload_n dL_law_583 rfl 584 rfl ?_
  refine l_iconst (v := 1) dL_law_584 (by decide) 585 rfl ?_
  refine l_iadd dL_law_585 586 rfl ?_
  refine l_sld dL_law_586 (hin 1 (by decide)) 587 rfl ?_
  refine l_call_i (n := 1) (As := [.int (xs (i + 1).toNatClampNeg)]) dL_law_587 590 rfl (v := 166) (ci := 12) (by decide) (by decide) rfl rfl kw7_180 kw7_181 kw7_182 kw1_14 kw7_183 (by decide +kernel) rfl (by decide) (by decide) (Nat.le_of_ble_eq_true rfl) _ rfl (cX12_sky_ (by decide) h) (fun r2 N2 h => ?_)
  obtain ⟨rfl, hI⟩ := h
  refine l_icmp_eq dL_law_590 1138 593 rfl rfl (fun _ => ?_) (fun h => absurd rfl h)
  exact kk _ hI
def lq_book (Inv : Mem → Prop) : Prop := ∀ (M : Mem) (a1 : Int32) (a2 : Int32), Inv M → FX11_book (fun (r : Int32) => FX12_book (fun (r2 : Int32) (M2 : Mem) => r = r2 ∧ Inv M2) 166 a1 a2 M) 0 a1 a2 M
theorem lc_book {Inv : Mem → Prop} (hq : lq_book Inv) {b Ln : Nat} {xs : Nat → Int32} {i : Int32} (hin : ∀ j : Int32, (j = 1 ∨ j = 2 ∨ j = 3 ∨ j = 4 ∨ j = 5) → vp_in (i + j) Ln) (kk : ∀ M, Inv M → lX b Ln xs 1138 [(0, .ref 4000), (1, .ref 0), (2, .ref 166), (3, .int i)] [] M) {M : Mem} (hI : Inv M) : lX b Ln xs 595 [(0, .ref 4000), (1, .ref 0), (2, .ref 166), (3, .int i)] [] M := by
  have h := hq M (xs (i + 1).toNatClampNeg) (xs (i + 2).toNatClampNeg) hI
  refine l_aload_n dL_law_595 rfl 596 rfl ?_
  refine l_aload_n dL_law_596 rfl 597 rfl ?_
  refine l_iload_n dL_law_597 rfl 598 rfl ?_
  refine l_iconst (v := 1) dL_law_598 (by decide) 599 rfl ?_
  refine l_iadd dL_law_599 600 rfl ?_
  refine l_sld dL_law_600 (hin 1 (by decide)) 601 rfl ?_
  refine l_aload_n dL_law_601 rfl 602 rfl ?_
  refine l_iload_n dL_law_602 rfl 603 rfl ?_
  refine l_iconst (v := 2) dL_law_603 (by decide) 604 rfl ?_
  refine l_iadd dL_law_604 605 rfl ?_
  refine l_sld dL_law_605 (hin 2 (by decide)) 606 rfl ?_
  refine l_call_i (n := 2) (As := [.int (xs (i + 1).toNatClampNeg), .int (xs (i + 2).toNatClampNeg)]) dL_law_606 609 rfl (v := 0) (ci := 11) (by decide) (by decide) rfl rfl kw4_176 kw4_177 kw4_178 kw1_1 kw4_179 (by decide +kernel) rfl (by decide) (by decide) (Nat.le_of_ble_eq_true rfl) _ rfl (cX11_book_ (by decide) h) (fun r1 N1 h => ?_)
  obtain ⟨rfl, h⟩ := h
  refine l_aload_n dL_law_609 rfl 610 rfl ?_
  refine l_aload_n dL_law_610 rfl 611 rfl ?_
  refine l_iload_n dL_law_611 rfl 612 rfl ?_
  refine l_iconst (v := 1) dL_law_612 (by decide) 613 rfl ?_
  refine l_iadd dL_law_613 614 rfl ?_
  refine l_sld dL_law_614 (hin 1 (by decide)) 615 rfl ?_
  refine l_aload_n dL_law_615 rfl 616 rfl ?_
  refine l_iload_n dL_law_616 rfl 617 rfl ?_
  refine l_iconst (v := 2) dL_law_617 (by decide) 618 rfl ?_
  refine l_iadd dL_law_618 619 rfl ?_
  refine l_sld dL_law_619 (hin 2 (by decide)) 620 rfl ?_
  refine l_call_i (n := 2) (As := [.int (xs (i + 1).toNatClampNeg), .int (xs (i + 2).toNatClampNeg)]) dL_law_620 623 rfl (v := 166) (ci := 12) (by decide) (by decide) rfl rfl kw7_184 kw7_185 kw7_186 kw1_14 kw7_187 (by decide +kernel) rfl (by decide) (by decide) (Nat.le_of_ble_eq_true rfl) _ rfl (cX12_book_ (by decide) h) (fun r2 N2 h => ?_)
  obtain ⟨rfl, hI⟩ := h
  refine l_icmp_eq dL_law_623 1138 626 rfl rfl (fun _ => ?_) (fun h => absurd rfl h)
  exact kk _ hI
def lq_goes (Inv : Mem → Prop) : Prop := ∀ (M : Mem) (a1 : Int32) (a2 : Int32), Inv M → FX11_goes (fun (r : Int32) (M1 : Mem) => FX12_goes (fun (r2 : Int32) (M2 : Mem) => r = r2 ∧ Inv M2) 166 a1 a2 M1) 0 a1 a2 M
theorem lc_goes {Inv : Mem → Prop} (hq : lq_goes Inv) {b Ln : Nat} {xs : Nat → Int32} {i : Int32} (hin : ∀ j : Int32, (j = 1 ∨ j = 2 ∨ j = 3 ∨ j = 4 ∨ j = 5) → vp_in (i + j) Ln) (kk : ∀ M, Inv M → lX b Ln xs 1138 [(0, .ref 4000), (1, .ref 0), (2, .ref 166), (3, .int i)] [] M) {M : Mem} (hI : Inv M) : lX b Ln xs 628 [(0, .ref 4000), (1, .ref 0), (2, .ref 166), (3, .int i)] [] M := by
  have h := hq M (xs (i + 1).toNatClampNeg) (xs (i + 2).toNatClampNeg) hI
  refine l_aload_n dL_law_628 rfl 629 rfl ?_
  refine l_aload_n dL_law_629 rfl 630 rfl ?_
  refine l_iload_n dL_law_630 rfl 631 rfl ?_
  refine l_iconst (v := 1) dL_law_631 (by decide) 632 rfl ?_
  refine l_iadd dL_law_632 633 rfl ?_
  refine l_sld dL_law_633 (hin 1 (by decide)) 634 rfl ?_
  refine l_aload_n dL_law_634 rfl 635 rfl ?_
  refine l_iload_n dL_law_635 rfl 636 rfl ?_
  refine l_iconst (v := 2) dL_law_636 (by decide) 637 rfl ?_
  refine l_iadd dL_law_637 638 rfl ?_
  refine l_sld dL_law_638 (hin 2 (by decide)) 639 rfl ?_
  refine l_call_i (n := 2) (As := [.int (xs (i + 1).toNatClampNeg), .int (xs (i + 2).toNatClampNeg)]) dL_law_639 642 rfl (v := 0) (ci := 11) (by decide) (by decide) rfl rfl kw4_184 kw4_185 kw4_186 kw1_1 kw4_187 (by decide +kernel) rfl (by decide) (by decide) (Nat.le_of_ble_eq_true rfl) _ rfl (cX11_goes_ (by decide) h) (fun r1 N1 h => ?_)
  refine l_aload_n dL_law_642 rfl 643 rfl ?_
  refine l_aload_n dL_law_643 rfl 644 rfl ?_
  refine l_iload_n dL_law_644 rfl 645 rfl ?_
  refine l_iconst (v := 1) dL_law_645 (by decide) 646 rfl ?_
  refine l_iadd dL_law_646 647 rfl ?_
  refine l_sld dL_law_647 (hin 1 (by decide)) 648 rfl ?_
  refine l_aload_n dL_law_648 rfl 649 rfl ?_
  refine l_iload_n dL_law_649 rfl 650 rfl ?_
  refine l_iconst (v := 2) dL_law_650 (by decide) 651 rfl ?_
  refine l_iadd dL_law_651 652 rfl ?_
  refine l_sld dL_law_652 (hin 2 (by decide)) 653 rfl ?_
  refine l_call_i (n := 2) (As := [.int (xs (i + 1).toNatClampNeg), .int (xs (i + 2).toNatClampNeg)]) dL_law_653 656 rfl (v := 166) (ci := 12) (by decide) (by decide) rfl rfl kw7_188 kw7_189 kw7_190 kw1_14 kw7_191 (by decide +kernel) rfl (by decide) (by decide) (Nat.le_of_ble_eq_true rfl) _ rfl (cX12_goes_ (by decide) h) (fun r2 N2 h => ?_)
  obtain ⟨rfl, hI⟩ := h
  refine l_icmp_eq dL_law_656 1138 659 rfl rfl (fun _ => ?_) (fun h => absurd rfl h)
  exact kk _ hI
def lq_loaves (Inv : Mem → Prop) : Prop := ∀ (M : Mem), Inv M → FX11_loaves (fun (r : Int32) (M1 : Mem) => FX12_loaves (fun (r2 : Int32) (M2 : Mem) => r = r2 ∧ Inv M2) 166 M1) 0 M
theorem lc_loaves {Inv : Mem → Prop} (hq : lq_loaves Inv) {b Ln : Nat} {xs : Nat → Int32} {i : Int32} (hin : ∀ j : Int32, (j = 1 ∨ j = 2 ∨ j = 3 ∨ j = 4 ∨ j = 5) → vp_in (i + j) Ln) (kk : ∀ M, Inv M → lX b Ln xs 1138 [(0, .ref 4000), (1, .ref 0), (2, .ref 166), (3, .int i)] [] M) {M : Mem} (hI : Inv M) : lX b Ln xs 661 [(0, .ref 4000), (1, .ref 0), (2, .ref 166), (3, .int i)] [] M := by
  have h := hq M  hI
  refine l_aload_n dL_law_661 rfl 662 rfl ?_
  refine l_call_i (n := 0) (As := []) dL_law_662 665 rfl (v := 0) (ci := 11) (by decide) (by decide) rfl rfl kw4_203 kw4_204 kw4_205 kw1_1 kw4_206 (by decide +kernel) rfl (by decide) (by decide) (Nat.le_of_ble_eq_true rfl) _ rfl (cX11_loaves_ (by decide) h) (fun r1 N1 h => ?_)
  refine l_aload_n dL_law_665 rfl 666 rfl ?_
  refine l_call_i (n := 0) (As := []) dL_law_666 669 rfl (v := 166) (ci := 12) (by decide) (by decide) rfl rfl kw7_208 kw7_209 kw7_210 kw1_14 kw7_211 (by decide +kernel) rfl (by decide) (by decide) (Nat.le_of_ble_eq_true rfl) _ rfl (cX12_loaves_ (by decide) h) (fun r2 N2 h => ?_)
  obtain ⟨rfl, hI⟩ := h
  refine l_icmp_eq dL_law_669 1138 672 rfl rfl (fun _ => ?_) (fun h => absurd rfl h)
  exact kk _ hI
def lq_heir (Inv : Mem → Prop) : Prop := ∀ (M : Mem) (a1 : Int32), Inv M → FX11_heir (fun (r : Int32) (M1 : Mem) => FX12_heir (fun (r2 : Int32) (M2 : Mem) => r = r2 ∧ Inv M2) 166 a1 M1) 0 a1 M
theorem lc_heir {Inv : Mem → Prop} (hq : lq_heir Inv) {b Ln : Nat} {xs : Nat → Int32} {i : Int32} (hin : ∀ j : Int32, (j = 1 ∨ j = 2 ∨ j = 3 ∨ j = 4 ∨ j = 5) → vp_in (i + j) Ln) (kk : ∀ M, Inv M → lX b Ln xs 1138 [(0, .ref 4000), (1, .ref 0), (2, .ref 166), (3, .int i)] [] M) {M : Mem} (hI : Inv M) : lX b Ln xs 674 [(0, .ref 4000), (1, .ref 0), (2, .ref 166), (3, .int i)] [] M := by
  have h := hq M (xs (i + 1).toNatClampNeg) hI
  refine l_aload_n dL_law_674 rfl 675 rfl ?_
  refine l_aload_n dL_law_675 rfl 676 rfl ?_
  refine l_iload_n dL_law_676 rfl 677 rfl ?_
  refine l_iconst (v := 1) dL_law_677 (by decide) 678 rfl ?_
  refine l_iadd dL_law_678 679 rfl ?_
  refine l_sld dL_law_679 (hin 1 (by decide)) 680 rfl ?_
  refine l_call_i (n := 1) (As := [.int (xs (i + 1).toNatClampNeg)]) dL_law_680 683 rfl (v := 0) (ci := 11) (by decide) (by decide) rfl rfl kw4_208 kw4_209 kw4_210 kw1_1 kw4_211 (by decide +kernel) rfl (by decide) (by decide) (Nat.le_of_ble_eq_true rfl) _ rfl (cX11_heir_ (by decide) h) (fun r1 N1 h => ?_)
  refine l_aload_n dL_law_683 rfl 684 rfl ?_
  refine l_aload_n dL_law_684 rfl 685 rfl ?_
  refine l_iload_n dL_law_685 rfl 686 rfl ?_
  refine l_iconst (v := 1) dL_law_686 (by decide) 687 rfl ?_
  refine l_iadd dL_law_687 688 rfl ?_
  refine l_sld dL_law_688 (hin 1 (by decide)) 689 rfl ?_
  refine l_call_i (n := 1) (As := [.int (xs (i + 1).toNatClampNeg)]) dL_law_689 692 rfl (v := 166) (ci := 12) (by decide) (by decide) rfl rfl kw7_212 kw7_213 kw7_214 kw1_14 kw7_215 (by decide +kernel) rfl (by decide) (by decide) (Nat.le_of_ble_eq_true rfl) _ rfl (cX12_heir_ (by decide) h) (fun r2 N2 h => ?_)
  obtain ⟨rfl, hI⟩ := h
  refine l_icmp_eq dL_law_692 1138 695 rfl rfl (fun _ => ?_) (fun h => absurd rfl h)
  exact kk _ hI
def lq_comes (Inv : Mem → Prop) : Prop := ∀ (M : Mem) (a1 : Int32) (a2 : Int32), Inv M → FX11_comes (fun (r : Int32) (M1 : Mem) => FX12_comes (fun (r2 : Int32) (M2 : Mem) => r = r2 ∧ Inv M2) 166 a1 a2 M1) 0 a1 a2 M
theorem lc_comes {Inv : Mem → Prop} (hq : lq_comes Inv) {b Ln : Nat} {xs : Nat → Int32} {i : Int32} (hin : ∀ j : Int32, (j = 1 ∨ j = 2 ∨ j = 3 ∨ j = 4 ∨ j = 5) → vp_in (i + j) Ln) (kk : ∀ M, Inv M → lX b Ln xs 1138 [(0, .ref 4000), (1, .ref 0), (2, .ref 166), (3, .int i)] [] M) {M : Mem} (hI : Inv M) : lX b Ln xs 697 [(0, .ref 4000), (1, .ref 0), (2, .ref 166), (3, .int i)] [] M := by
  have h := hq M (xs (i + 1).toNatClampNeg) (xs (i + 2).toNatClampNeg) hI
  refine l_aload_n dL_law_697 rfl 698 rfl ?_
  refine l_aload_n dL_law_698 rfl 699 rfl ?_
  refine l_iload_n dL_law_699 rfl 700 rfl ?_
  refine l_iconst (v := 1) dL_law_700 (by decide) 701 rfl ?_
  refine l_iadd dL_law_701 702 rfl ?_
  refine l_sld dL_law_702 (hin 1 (by decide)) 703 rfl ?_
  refine l_aload_n dL_law_703 rfl 704 rfl ?_
  refine l_iload_n dL_law_704 rfl 705 rfl ?_
  refine l_iconst (v := 2) dL_law_705 (by decide) 706 rfl ?_
  refine l_iadd dL_law_706 707 rfl ?_
  refine l_sld dL_law_707 (hin 2 (by decide)) 708 rfl ?_
  refine l_call_i (n := 2) (As := [.int (xs (i + 1).toNatClampNeg), .int (xs (i + 2).toNatClampNeg)]) dL_law_708 711 rfl (v := 0) (ci := 11) (by decide) (by decide) rfl rfl kw4_215 kw4_216 kw4_217 kw1_1 kw4_218 (by decide +kernel) rfl (by decide) (by decide) (Nat.le_of_ble_eq_true rfl) _ rfl (cX11_comes_ (by decide) h) (fun r1 N1 h => ?_)
  refine l_aload_n dL_law_711 rfl 712 rfl ?_
  refine l_aload_n dL_law_712 rfl 713 rfl ?_
  refine l_iload_n dL_law_713 rfl 714 rfl ?_
  refine l_iconst (v := 1) dL_law_714 (by decide) 715 rfl ?_
  refine l_iadd dL_law_715 716 rfl ?_
  refine l_sld dL_law_716 (hin 1 (by decide)) 717 rfl ?_
  refine l_aload_n dL_law_717 rfl 718 rfl ?_
  refine l_iload_n dL_law_718 rfl 719 rfl ?_
  refine l_iconst (v := 2) dL_law_719 (by decide) 720 rfl ?_
  refine l_iadd dL_law_720 721 rfl ?_
  refine l_sld dL_law_721 (hin 2 (by decide)) 722 rfl ?_
  refine l_call_i (n := 2) (As := [.int (xs (i + 1).toNatClampNeg), .int (xs (i + 2).toNatClampNeg)]) dL_law_722 725 rfl (v := 166) (ci := 12) (by decide) (by decide) rfl rfl kw7_216 kw7_217 kw7_218 kw1_14 kw7_219 (by decide +kernel) rfl (by decide) (by decide) (Nat.le_of_ble_eq_true rfl) _ rfl (cX12_comes_ (by decide) h) (fun r2 N2 h => ?_)
  obtain ⟨rfl, hI⟩ := h
  refine l_icmp_eq dL_law_725 1138 728 rfl rfl (fun _ => ?_) (fun h => absurd rfl h)
  exact kk _ hI
def lq_scandal (Inv : Mem → Prop) : Prop := ∀ (M : Mem) (a1 : Int32), Inv M → FX11_scandal (fun (r : Int32) => FX12_scandal (fun (r2 : Int32) (M2 : Mem) => r = r2 ∧ Inv M2) 166 a1 M) 0 a1 M
theorem lc_scandal {Inv : Mem → Prop} (hq : lq_scandal Inv) {b Ln : Nat} {xs : Nat → Int32} {i : Int32} (hin : ∀ j : Int32, (j = 1 ∨ j = 2 ∨ j = 3 ∨ j = 4 ∨ j = 5) → vp_in (i + j) Ln) (kk : ∀ M, Inv M → lX b Ln xs 1138 [(0, .ref 4000), (1, .ref 0), (2, .ref 166), (3, .int i)] [] M) {M : Mem} (hI : Inv M) : lX b Ln xs 730 [(0, .ref 4000), (1, .ref 0), (2, .ref 166), (3, .int i)] [] M := by
  have h := hq M (xs (i + 1).toNatClampNeg) hI
  refine l_aload_n dL_law_730 rfl 731 rfl ?_
  refine l_aload_n dL_law_731 rfl 732 rfl ?_
  refine l_iload_n dL_law_732 rfl 733 rfl ?_
  refine l_iconst (v := 1) dL_law_733 (by decide) 734 rfl ?_
  refine l_iadd dL_law_734 735 rfl ?_
  refine l_sld dL_law_735 (hin 1 (by decide)) 736 rfl ?_
  refine l_call_i (n := 1) (As := [.int (xs (i + 1).toNatClampNeg)]) dL_law_736 739 rfl (v := 0) (ci := 11) (by decide) (by decide) rfl rfl kw4_220 kw4_221 kw4_222 kw1_1 kw4_223 (by decide +kernel) rfl (by decide) (by decide) (Nat.le_of_ble_eq_true rfl) _ rfl (cX11_scandal_ (by decide) h) (fun r1 N1 h => ?_)
  obtain ⟨rfl, h⟩ := h
  refine l_aload_n dL_law_739 rfl 740 rfl ?_
  refine l_aload_n dL_law_740 rfl 741 rfl ?_
  refine l_iload_n dL_law_741 rfl 742 rfl ?_
  refine l_iconst (v := 1) dL_law_742 (by decide) 743 rfl ?_
  refine l_iadd dL_law_743 744 rfl ?_
  refine l_sld dL_law_744 (hin 1 (by decide)) 745 rfl ?_
  refine l_call_i (n := 1) (As := [.int (xs (i + 1).toNatClampNeg)]) dL_law_745 748 rfl (v := 166) (ci := 12) (by decide) (by decide) rfl rfl kw7_220 kw7_221 kw7_222 kw1_14 kw7_223 (by decide +kernel) rfl (by decide) (by decide) (Nat.le_of_ble_eq_true rfl) _ rfl (cX12_scandal_ (by decide) h) (fun r2 N2 h => ?_)
  obtain ⟨rfl, hI⟩ := h
  refine l_icmp_eq dL_law_748 1138 751 rfl rfl (fun _ => ?_) (fun h => absurd rfl h)
  exact kk _ hI
def lq_middle (Inv : Mem → Prop) : Prop := ∀ (M : Mem) (a1 : Int32), Inv M → FX11_middle (fun (r : Int32) => FX12_middle (fun (r2 : Int32) (M2 : Mem) => r = r2 ∧ Inv M2) 166 a1 M) 0 a1 M
theorem lc_middle {Inv : Mem → Prop} (hq : lq_middle Inv) {b Ln : Nat} {xs : Nat → Int32} {i : Int32} (hin : ∀ j : Int32, (j = 1 ∨ j = 2 ∨ j = 3 ∨ j = 4 ∨ j = 5) → vp_in (i + j) Ln) (kk : ∀ M, Inv M → lX b Ln xs 1138 [(0, .ref 4000), (1, .ref 0), (2, .ref 166), (3, .int i)] [] M) {M : Mem} (hI : Inv M) : lX b Ln xs 753 [(0, .ref 4000), (1, .ref 0), (2, .ref 166), (3, .int i)] [] M := by
  have h := hq M (xs (i + 1).toNatClampNeg) hI
  refine l_aload_n dL_law_753 rfl 754 rfl ?_
  refine l_aload_n dL_law_754 rfl 755 rfl ?_
  refine l_iload_n dL_law_755 rfl 756 rfl ?_
  refine l_iconst (v := 1) dL_law_756 (by decide) 757 rfl ?_
  refine l_iadd dL_law_757 758 rfl ?_
  refine l_sld dL_law_758 (hin 1 (by decide)) 759 rfl ?_
  refine l_call_i (n := 1) (As := [.int (xs (i + 1).toNatClampNeg)]) dL_law_759 762 rfl (v := 0) (ci := 11) (by decide) (by decide) rfl rfl kw4_232 kw4_233 kw4_234 kw1_1 kw4_235 (by decide +kernel) rfl (by decide) (by decide) (Nat.le_of_ble_eq_true rfl) _ rfl (cX11_middle_ (by decide) h) (fun r1 N1 h => ?_)
  obtain ⟨rfl, h⟩ := h
  refine l_aload_n dL_law_762 rfl 763 rfl ?_
  refine l_aload_n dL_law_763 rfl 764 rfl ?_
  refine l_iload_n dL_law_764 rfl 765 rfl ?_
  refine l_iconst (v := 1) dL_law_765 (by decide) 766 rfl ?_
  refine l_iadd dL_law_766 767 rfl ?_
  refine l_sld dL_law_767 (hin 1 (by decide)) 768 rfl ?_
  refine l_call_i (n := 1) (As := [.int (xs (i + 1).toNatClampNeg)]) dL_law_768 771 rfl (v := 166) (ci := 12) (by decide) (by decide) rfl rfl kw7_234 kw7_235 kw7_236 kw1_14 kw7_237 (by decide +kernel) rfl (by decide) (by decide) (Nat.le_of_ble_eq_true rfl) _ rfl (cX12_middle_ (by decide) h) (fun r2 N2 h => ?_)
  obtain ⟨rfl, hI⟩ := h
  refine l_icmp_eq dL_law_771 1138 774 rfl rfl (fun _ => ?_) (fun h => absurd rfl h)
  exact kk _ hI
def lq_follows (Inv : Mem → Prop) : Prop := ∀ (M : Mem) (a1 : Int32), Inv M → FX11_follows (fun (r : Int32) => FX12_follows (fun (r2 : Int32) (M2 : Mem) => r = r2 ∧ Inv M2) 166 a1 M) 0 a1 M
theorem lc_follows {Inv : Mem → Prop} (hq : lq_follows Inv) {b Ln : Nat} {xs : Nat → Int32} {i : Int32} (hin : ∀ j : Int32, (j = 1 ∨ j = 2 ∨ j = 3 ∨ j = 4 ∨ j = 5) → vp_in (i + j) Ln) (kk : ∀ M, Inv M → lX b Ln xs 1138 [(0, .ref 4000), (1, .ref 0), (2, .ref 166), (3, .int i)] [] M) {M : Mem} (hI : Inv M) : lX b Ln xs 776 [(0, .ref 4000), (1, .ref 0), (2, .ref 166), (3, .int i)] [] M := by
  have h := hq M (xs (i + 1).toNatClampNeg) hI
  refine l_aload_n dL_law_776 rfl 777 rfl ?_
  refine l_aload_n dL_law_777 rfl 778 rfl ?_
  refine l_iload_n dL_law_778 rfl 779 rfl ?_
  refine l_iconst (v := 1) dL_law_779 (by decide) 780 rfl ?_
  refine l_iadd dL_law_780 781 rfl ?_
  refine l_sld dL_law_781 (hin 1 (by decide)) 782 rfl ?_
  refine l_call_i (n := 1) (As := [.int (xs (i + 1).toNatClampNeg)]) dL_law_782 785 rfl (v := 0) (ci := 11) (by decide) (by decide) rfl rfl kw5_3 kw5_4 kw5_5 kw1_1 kw5_6 (by decide +kernel) rfl (by decide) (by decide) (Nat.le_of_ble_eq_true rfl) _ rfl (cX11_follows_ (by decide) h) (fun r1 N1 h => ?_)
  obtain ⟨rfl, h⟩ := h
  refine l_aload_n dL_law_785 rfl 786 rfl ?_
  refine l_aload_n dL_law_786 rfl 787 rfl ?_
  refine l_iload_n dL_law_787 rfl 788 rfl ?_
  refine l_iconst (v := 1) dL_law_788 (by decide) 789 rfl ?_
  refine l_iadd dL_law_789 790 rfl ?_
  refine l_sld dL_law_790 (hin 1 (by decide)) 791 rfl ?_
  refine l_call_i (n := 1) (As := [.int (xs (i + 1).toNatClampNeg)]) dL_law_791 794 rfl (v := 166) (ci := 12) (by decide) (by decide) rfl rfl kw8_6 kw8_7 kw8_8 kw1_14 kw8_9 (by decide +kernel) rfl (by decide) (by decide) (Nat.le_of_ble_eq_true rfl) _ rfl (cX12_follows_ (by decide) h) (fun r2 N2 h => ?_)
  obtain ⟨rfl, hI⟩ := h
  refine l_icmp_eq dL_law_794 1138 797 rfl rfl (fun _ => ?_) (fun h => absurd rfl h)
  exact kk _ hI
def lq_gives (Inv : Mem → Prop) : Prop := ∀ (M : Mem) (a1 : Int32) (a2 : Int32), Inv M → FX11_gives (fun (r : Int32) => FX12_gives (fun (r2 : Int32) (M2 : Mem) => r = r2 ∧ Inv M2) 166 a1 a2 M) 0 a1 a2 M
theorem lc_gives {Inv : Mem → Prop} (hq : lq_gives Inv) {b Ln : Nat} {xs : Nat → Int32} {i : Int32} (hin : ∀ j : Int32, (j = 1 ∨ j = 2 ∨ j = 3 ∨ j = 4 ∨ j = 5) → vp_in (i + j) Ln) (kk : ∀ M, Inv M → lX b Ln xs 1138 [(0, .ref 4000), (1, .ref 0), (2, .ref 166), (3, .int i)] [] M) {M : Mem} (hI : Inv M) : lX b Ln xs 799 [(0, .ref 4000), (1, .ref 0), (2, .ref 166), (3, .int i)] [] M := by
  have h := hq M (xs (i + 1).toNatClampNeg) (xs (i + 2).toNatClampNeg) hI
  refine l_aload_n dL_law_799 rfl 800 rfl ?_
  refine l_aload_n dL_law_800 rfl 801 rfl ?_
  refine l_iload_n dL_law_801 rfl 802 rfl ?_
  refine l_iconst (v := 1) dL_law_802 (by decide) 803 rfl ?_
  refine l_iadd dL_law_803 804 rfl ?_
  refine l_sld dL_law_804 (hin 1 (by decide)) 805 rfl ?_
  refine l_aload_n dL_law_805 rfl 806 rfl ?_
  refine l_iload_n dL_law_806 rfl 807 rfl ?_
  refine l_iconst (v := 2) dL_law_807 (by decide) 808 rfl ?_
  refine l_iadd dL_law_808 809 rfl ?_
  refine l_sld dL_law_809 (hin 2 (by decide)) 810 rfl ?_
  refine l_call_i (n := 2) (As := [.int (xs (i + 1).toNatClampNeg), .int (xs (i + 2).toNatClampNeg)]) dL_law_810 813 rfl (v := 0) (ci := 11) (by decide) (by decide) rfl rfl kw5_12 kw5_13 kw5_14 kw1_1 kw5_15 (by decide +kernel) rfl (by decide) (by decide) (Nat.le_of_ble_eq_true rfl) _ rfl (cX11_gives_ (by decide) h) (fun r1 N1 h => ?_)
  obtain ⟨rfl, h⟩ := h
  refine l_aload_n dL_law_813 rfl 814 rfl ?_
  refine l_aload_n dL_law_814 rfl 815 rfl ?_
  refine l_iload_n dL_law_815 rfl 816 rfl ?_
  refine l_iconst (v := 1) dL_law_816 (by decide) 817 rfl ?_
  refine l_iadd dL_law_817 818 rfl ?_
  refine l_sld dL_law_818 (hin 1 (by decide)) 819 rfl ?_
  refine l_aload_n dL_law_819 rfl 820 rfl ?_
  refine l_iload_n dL_law_820 rfl 821 rfl ?_
  refine l_iconst (v := 2) dL_law_821 (by decide) 822 rfl ?_
  refine l_iadd dL_law_822 823 rfl ?_
  refine l_sld dL_law_823 (hin 2 (by decide)) 824 rfl ?_
  refine l_call_i (n := 2) (As := [.int (xs (i + 1).toNatClampNeg), .int (xs (i + 2).toNatClampNeg)]) dL_law_824 827 rfl (v := 166) (ci := 12) (by decide) (by decide) rfl rfl kw8_15 kw8_16 kw8_17 kw1_14 kw8_18 (by decide +kernel) rfl (by decide) (by decide) (Nat.le_of_ble_eq_true rfl) _ rfl (cX12_gives_ (by decide) h) (fun r2 N2 h => ?_)
  obtain ⟨rfl, hI⟩ := h
  refine l_icmp_eq dL_law_827 1138 830 rfl rfl (fun _ => ?_) (fun h => absurd rfl h)
  exact kk _ hI
def lq_seen (Inv : Mem → Prop) : Prop := ∀ (M : Mem) (a1 : Int32), Inv M → FX11_seen (fun (r : Int32) => FX12_seen (fun (r2 : Int32) (M2 : Mem) => r = r2 ∧ Inv M2) 166 a1 M) 0 a1 M
theorem lc_seen {Inv : Mem → Prop} (hq : lq_seen Inv) {b Ln : Nat} {xs : Nat → Int32} {i : Int32} (hin : ∀ j : Int32, (j = 1 ∨ j = 2 ∨ j = 3 ∨ j = 4 ∨ j = 5) → vp_in (i + j) Ln) (kk : ∀ M, Inv M → lX b Ln xs 1138 [(0, .ref 4000), (1, .ref 0), (2, .ref 166), (3, .int i)] [] M) {M : Mem} (hI : Inv M) : lX b Ln xs 832 [(0, .ref 4000), (1, .ref 0), (2, .ref 166), (3, .int i)] [] M := by
  have h := hq M (xs (i + 1).toNatClampNeg) hI
  refine l_aload_n dL_law_832 rfl 833 rfl ?_
  refine l_aload_n dL_law_833 rfl 834 rfl ?_
  refine l_iload_n dL_law_834 rfl 835 rfl ?_
  refine l_iconst (v := 1) dL_law_835 (by decide) 836 rfl ?_
  refine l_iadd dL_law_836 837 rfl ?_
  refine l_sld dL_law_837 (hin 1 (by decide)) 838 rfl ?_
  refine l_call_i (n := 1) (As := [.int (xs (i + 1).toNatClampNeg)]) dL_law_838 841 rfl (v := 0) (ci := 11) (by decide) (by decide) rfl rfl kw5_35 kw5_36 kw5_37 kw1_1 kw5_38 (by decide +kernel) rfl (by decide) (by decide) (Nat.le_of_ble_eq_true rfl) _ rfl (cX11_seen_ (by decide) h) (fun r1 N1 h => ?_)
  obtain ⟨rfl, h⟩ := h
  refine l_aload_n dL_law_841 rfl 842 rfl ?_
  refine l_aload_n dL_law_842 rfl 843 rfl ?_
  refine l_iload_n dL_law_843 rfl 844 rfl ?_
  refine l_iconst (v := 1) dL_law_844 (by decide) 845 rfl ?_
  refine l_iadd dL_law_845 846 rfl ?_
  refine l_sld dL_law_846 (hin 1 (by decide)) 847 rfl ?_
  refine l_call_i (n := 1) (As := [.int (xs (i + 1).toNatClampNeg)]) dL_law_847 850 rfl (v := 166) (ci := 12) (by decide) (by decide) rfl rfl kw8_28 kw8_29 kw8_30 kw1_14 kw8_31 (by decide +kernel) rfl (by decide) (by decide) (Nat.le_of_ble_eq_true rfl) _ rfl (cX12_seen_ (by decide) h) (fun r2 N2 h => ?_)
  obtain ⟨rfl, hI⟩ := h
  refine l_icmp_eq dL_law_850 1138 853 rfl rfl (fun _ => ?_) (fun h => absurd rfl h)
  exact kk _ hI
def lq_hears (Inv : Mem → Prop) : Prop := ∀ (M : Mem) (a1 : Int32) (a2 : Int32), Inv M → FX11_hears (fun (r : Int32) => FX12_hears (fun (r2 : Int32) (M2 : Mem) => r = r2 ∧ Inv M2) 166 a1 a2 M) 0 a1 a2 M
theorem lc_hears {Inv : Mem → Prop} (hq : lq_hears Inv) {b Ln : Nat} {xs : Nat → Int32} {i : Int32} (hin : ∀ j : Int32, (j = 1 ∨ j = 2 ∨ j = 3 ∨ j = 4 ∨ j = 5) → vp_in (i + j) Ln) (kk : ∀ M, Inv M → lX b Ln xs 1138 [(0, .ref 4000), (1, .ref 0), (2, .ref 166), (3, .int i)] [] M) {M : Mem} (hI : Inv M) : lX b Ln xs 855 [(0, .ref 4000), (1, .ref 0), (2, .ref 166), (3, .int i)] [] M := by
  have h := hq M (xs (i + 1).toNatClampNeg) (xs (i + 2).toNatClampNeg) hI
  refine l_aload_n dL_law_855 rfl 856 rfl ?_
  refine l_aload_n dL_law_856 rfl 857 rfl ?_
  refine l_iload_n dL_law_857 rfl 858 rfl ?_
  refine l_iconst (v := 1) dL_law_858 (by decide) 859 rfl ?_
  refine l_iadd dL_law_859 860 rfl ?_
  refine l_sld dL_law_860 (hin 1 (by decide)) 861 rfl ?_
  refine l_aload_n dL_law_861 rfl 862 rfl ?_
  refine l_iload_n dL_law_862 rfl 863 rfl ?_
  refine l_iconst (v := 2) dL_law_863 (by decide) 864 rfl ?_
  refine l_iadd dL_law_864 865 rfl ?_
  refine l_sld dL_law_865 (hin 2 (by decide)) 866 rfl ?_
  refine l_call_i (n := 2) (As := [.int (xs (i + 1).toNatClampNeg), .int (xs (i + 2).toNatClampNeg)]) dL_law_866 869 rfl (v := 0) (ci := 11) (by decide) (by decide) rfl rfl kw5_47 kw5_48 kw5_49 kw1_1 kw5_50 (by decide +kernel) rfl (by decide) (by decide) (Nat.le_of_ble_eq_true rfl) _ rfl (cX11_hears_ (by decide) h) (fun r1 N1 h => ?_)
  obtain ⟨rfl, h⟩ := h
  refine l_aload_n dL_law_869 rfl 870 rfl ?_
  refine l_aload_n dL_law_870 rfl 871 rfl ?_
  refine l_iload_n dL_law_871 rfl 872 rfl ?_
  refine l_iconst (v := 1) dL_law_872 (by decide) 873 rfl ?_
  refine l_iadd dL_law_873 874 rfl ?_
  refine l_sld dL_law_874 (hin 1 (by decide)) 875 rfl ?_
  refine l_aload_n dL_law_875 rfl 876 rfl ?_
  refine l_iload_n dL_law_876 rfl 877 rfl ?_
  refine l_iconst (v := 2) dL_law_877 (by decide) 878 rfl ?_
  refine l_iadd dL_law_878 879 rfl ?_
  refine l_sld dL_law_879 (hin 2 (by decide)) 880 rfl ?_
  refine l_call_i (n := 2) (As := [.int (xs (i + 1).toNatClampNeg), .int (xs (i + 2).toNatClampNeg)]) dL_law_880 883 rfl (v := 166) (ci := 12) (by decide) (by decide) rfl rfl kw8_40 kw8_41 kw8_42 kw1_14 kw8_43 (by decide +kernel) rfl (by decide) (by decide) (Nat.le_of_ble_eq_true rfl) _ rfl (cX12_hears_ (by decide) h) (fun r2 N2 h => ?_)
  obtain ⟨rfl, hI⟩ := h
  refine l_icmp_eq dL_law_883 1138 886 rfl rfl (fun _ => ?_) (fun h => absurd rfl h)
  exact kk _ hI
def lq_build (Inv : Mem → Prop) : Prop := ∀ (M : Mem) (a1 : Int32) (a2 : Int32), Inv M → FX11_build (fun (r : Int32) (M1 : Mem) => FX12_build (fun (r2 : Int32) (M2 : Mem) => r = r2 ∧ Inv M2) 166 a1 a2 M1) 0 a1 a2 M
theorem lc_build {Inv : Mem → Prop} (hq : lq_build Inv) {b Ln : Nat} {xs : Nat → Int32} {i : Int32} (hin : ∀ j : Int32, (j = 1 ∨ j = 2 ∨ j = 3 ∨ j = 4 ∨ j = 5) → vp_in (i + j) Ln) (kk : ∀ M, Inv M → lX b Ln xs 1138 [(0, .ref 4000), (1, .ref 0), (2, .ref 166), (3, .int i)] [] M) {M : Mem} (hI : Inv M) : lX b Ln xs 888 [(0, .ref 4000), (1, .ref 0), (2, .ref 166), (3, .int i)] [] M := by
  have h := hq M (xs (i + 1).toNatClampNeg) (xs (i + 2).toNatClampNeg) hI
  refine l_aload_n dL_law_888 rfl 889 rfl ?_
  refine l_aload_n dL_law_889 rfl 890 rfl ?_
  refine l_iload_n dL_law_890 rfl 891 rfl ?_
  refine l_iconst (v := 1) dL_law_891 (by decide) 892 rfl ?_
  refine l_iadd dL_law_892 893 rfl ?_
  refine l_sld dL_law_893 (hin 1 (by decide)) 894 rfl ?_
  refine l_aload_n dL_law_894 rfl 895 rfl ?_
  refine l_iload_n dL_law_895 rfl 896 rfl ?_
  refine l_iconst (v := 2) dL_law_896 (by decide) 897 rfl ?_
  refine l_iadd dL_law_897 898 rfl ?_
  refine l_sld dL_law_898 (hin 2 (by decide)) 899 rfl ?_
  refine l_call_i (n := 2) (As := [.int (xs (i + 1).toNatClampNeg), .int (xs (i + 2).toNatClampNeg)]) dL_law_899 902 rfl (v := 0) (ci := 11) (by decide) (by decide) rfl rfl kw5_56 kw5_57 kw5_58 kw1_1 kw5_59 (by decide +kernel) rfl (by decide) (by decide) (Nat.le_of_ble_eq_true rfl) _ rfl (cX11_build_ (by decide) h) (fun r1 N1 h => ?_)
  refine l_aload_n dL_law_902 rfl 903 rfl ?_
  refine l_aload_n dL_law_903 rfl 904 rfl ?_
  refine l_iload_n dL_law_904 rfl 905 rfl ?_
  refine l_iconst (v := 1) dL_law_905 (by decide) 906 rfl ?_
  refine l_iadd dL_law_906 907 rfl ?_
  refine l_sld dL_law_907 (hin 1 (by decide)) 908 rfl ?_
  refine l_aload_n dL_law_908 rfl 909 rfl ?_
  refine l_iload_n dL_law_909 rfl 910 rfl ?_
  refine l_iconst (v := 2) dL_law_910 (by decide) 911 rfl ?_
  refine l_iadd dL_law_911 912 rfl ?_
  refine l_sld dL_law_912 (hin 2 (by decide)) 913 rfl ?_
  refine l_call_i (n := 2) (As := [.int (xs (i + 1).toNatClampNeg), .int (xs (i + 2).toNatClampNeg)]) dL_law_913 916 rfl (v := 166) (ci := 12) (by decide) (by decide) rfl rfl kw8_48 kw8_49 kw8_50 kw1_14 kw8_51 (by decide +kernel) rfl (by decide) (by decide) (Nat.le_of_ble_eq_true rfl) _ rfl (cX12_build_ (by decide) h) (fun r2 N2 h => ?_)
  obtain ⟨rfl, hI⟩ := h
  refine l_icmp_eq dL_law_916 1138 919 rfl rfl (fun _ => ?_) (fun h => absurd rfl h)
  exact kk _ hI
def lq_builds (Inv : Mem → Prop) : Prop := ∀ (M : Mem) (a1 : Int32), Inv M → FX11_builds (fun (r : Int32) (M1 : Mem) => FX12_builds (fun (r2 : Int32) (M2 : Mem) => r = r2 ∧ Inv M2) 166 a1 M1) 0 a1 M
theorem lc_builds {Inv : Mem → Prop} (hq : lq_builds Inv) {b Ln : Nat} {xs : Nat → Int32} {i : Int32} (hin : ∀ j : Int32, (j = 1 ∨ j = 2 ∨ j = 3 ∨ j = 4 ∨ j = 5) → vp_in (i + j) Ln) (kk : ∀ M, Inv M → lX b Ln xs 1138 [(0, .ref 4000), (1, .ref 0), (2, .ref 166), (3, .int i)] [] M) {M : Mem} (hI : Inv M) : lX b Ln xs 921 [(0, .ref 4000), (1, .ref 0), (2, .ref 166), (3, .int i)] [] M := by
  have h := hq M (xs (i + 1).toNatClampNeg) hI
  refine l_aload_n dL_law_921 rfl 922 rfl ?_
  refine l_aload_n dL_law_922 rfl 923 rfl ?_
  refine l_iload_n dL_law_923 rfl 924 rfl ?_
  refine l_iconst (v := 1) dL_law_924 (by decide) 925 rfl ?_
  refine l_iadd dL_law_925 926 rfl ?_
  refine l_sld dL_law_926 (hin 1 (by decide)) 927 rfl ?_
  refine l_call_i (n := 1) (As := [.int (xs (i + 1).toNatClampNeg)]) dL_law_927 930 rfl (v := 0) (ci := 11) (by decide) (by decide) rfl rfl kw5_64 kw5_65 kw5_66 kw1_1 kw5_67 (by decide +kernel) rfl (by decide) (by decide) (Nat.le_of_ble_eq_true rfl) _ rfl (cX11_builds_ (by decide) h) (fun r1 N1 h => ?_)
  refine l_aload_n dL_law_930 rfl 931 rfl ?_
  refine l_aload_n dL_law_931 rfl 932 rfl ?_
  refine l_iload_n dL_law_932 rfl 933 rfl ?_
  refine l_iconst (v := 1) dL_law_933 (by decide) 934 rfl ?_
  refine l_iadd dL_law_934 935 rfl ?_
  refine l_sld dL_law_935 (hin 1 (by decide)) 936 rfl ?_
  refine l_call_i (n := 1) (As := [.int (xs (i + 1).toNatClampNeg)]) dL_law_936 939 rfl (v := 166) (ci := 12) (by decide) (by decide) rfl rfl kw8_52 kw8_53 kw8_54 kw1_14 kw8_55 (by decide +kernel) rfl (by decide) (by decide) (Nat.le_of_ble_eq_true rfl) _ rfl (cX12_builds_ (by decide) h) (fun r2 N2 h => ?_)
  obtain ⟨rfl, hI⟩ := h
  refine l_icmp_eq dL_law_939 1138 942 rfl rfl (fun _ => ?_) (fun h => absurd rfl h)
  exact kk _ hI
def lq_gone (Inv : Mem → Prop) : Prop := ∀ (M : Mem) (a1 : Int32) (a2 : Int32) (a3 : Int32), Inv M → FX11_gone (fun (r : Int32) => FX12_gone (fun (r2 : Int32) (M2 : Mem) => r = r2 ∧ Inv M2) 166 a1 a2 a3 M) 0 a1 a2 a3 M
theorem lc_gone {Inv : Mem → Prop} (hq : lq_gone Inv) {b Ln : Nat} {xs : Nat → Int32} {i : Int32} (hin : ∀ j : Int32, (j = 1 ∨ j = 2 ∨ j = 3 ∨ j = 4 ∨ j = 5) → vp_in (i + j) Ln) (kk : ∀ M, Inv M → lX b Ln xs 1138 [(0, .ref 4000), (1, .ref 0), (2, .ref 166), (3, .int i)] [] M) {M : Mem} (hI : Inv M) : lX b Ln xs 944 [(0, .ref 4000), (1, .ref 0), (2, .ref 166), (3, .int i)] [] M := by
  have h := hq M (xs (i + 1).toNatClampNeg) (xs (i + 2).toNatClampNeg) (xs (i + 3).toNatClampNeg) hI
  refine l_aload_n dL_law_944 rfl 945 rfl ?_
  refine l_aload_n dL_law_945 rfl 946 rfl ?_
  refine l_iload_n dL_law_946 rfl 947 rfl ?_
  refine l_iconst (v := 1) dL_law_947 (by decide) 948 rfl ?_
  refine l_iadd dL_law_948 949 rfl ?_
  refine l_sld dL_law_949 (hin 1 (by decide)) 950 rfl ?_
  refine l_aload_n dL_law_950 rfl 951 rfl ?_
  refine l_iload_n dL_law_951 rfl 952 rfl ?_
  refine l_iconst (v := 2) dL_law_952 (by decide) 953 rfl ?_
  refine l_iadd dL_law_953 954 rfl ?_
  refine l_sld dL_law_954 (hin 2 (by decide)) 955 rfl ?_
  refine l_aload_n dL_law_955 rfl 956 rfl ?_
  refine l_iload_n dL_law_956 rfl 957 rfl ?_
  refine l_iconst (v := 3) dL_law_957 (by decide) 958 rfl ?_
  refine l_iadd dL_law_958 959 rfl ?_
  refine l_sld dL_law_959 (hin 3 (by decide)) 960 rfl ?_
  refine l_call_i (n := 3) (As := [.int (xs (i + 1).toNatClampNeg), .int (xs (i + 2).toNatClampNeg), .int (xs (i + 3).toNatClampNeg)]) dL_law_960 963 rfl (v := 0) (ci := 11) (by decide) (by decide) rfl rfl kw5_84 kw5_85 kw5_86 kw1_1 kw5_87 (by decide +kernel) rfl (by decide) (by decide) (Nat.le_of_ble_eq_true rfl) _ rfl (cX11_gone_ (by decide) h) (fun r1 N1 h => ?_)
  obtain ⟨rfl, h⟩ := h
  refine l_aload_n dL_law_963 rfl 964 rfl ?_
  refine l_aload_n dL_law_964 rfl 965 rfl ?_
  refine l_iload_n dL_law_965 rfl 966 rfl ?_
  refine l_iconst (v := 1) dL_law_966 (by decide) 967 rfl ?_
  refine l_iadd dL_law_967 968 rfl ?_
  refine l_sld dL_law_968 (hin 1 (by decide)) 969 rfl ?_
  refine l_aload_n dL_law_969 rfl 970 rfl ?_
  refine l_iload_n dL_law_970 rfl 971 rfl ?_
  refine l_iconst (v := 2) dL_law_971 (by decide) 972 rfl ?_
  refine l_iadd dL_law_972 973 rfl ?_
  refine l_sld dL_law_973 (hin 2 (by decide)) 974 rfl ?_
  refine l_aload_n dL_law_974 rfl 975 rfl ?_
  refine l_iload_n dL_law_975 rfl 976 rfl ?_
  refine l_iconst (v := 3) dL_law_976 (by decide) 977 rfl ?_
  refine l_iadd dL_law_977 978 rfl ?_
  refine l_sld dL_law_978 (hin 3 (by decide)) 979 rfl ?_
  refine l_call_i (n := 3) (As := [.int (xs (i + 1).toNatClampNeg), .int (xs (i + 2).toNatClampNeg), .int (xs (i + 3).toNatClampNeg)]) dL_law_979 982 rfl (v := 166) (ci := 12) (by decide) (by decide) rfl rfl kw8_60 kw8_61 kw8_62 kw1_14 kw8_63 (by decide +kernel) rfl (by decide) (by decide) (Nat.le_of_ble_eq_true rfl) _ rfl (cX12_gone_ (by decide) h) (fun r2 N2 h => ?_)
  obtain ⟨rfl, hI⟩ := h
  refine l_icmp_eq dL_law_982 1138 985 rfl rfl (fun _ => ?_) (fun h => absurd rfl h)
  exact kk _ hI
def lq_lap (Inv : Mem → Prop) : Prop := ∀ (M : Mem) (a1 : Int32) (a2 : Int32) (a3 : Int32) (a4 : Int32), Inv M → FX11_lap (fun (r : Int32) (M1 : Mem) => FX12_lap (fun (r2 : Int32) (M2 : Mem) => r = r2 ∧ Inv M2) 166 a1 a2 a3 a4 M1) 0 a1 a2 a3 a4 M
theorem lc_lap {Inv : Mem → Prop} (hq : lq_lap Inv) {b Ln : Nat} {xs : Nat → Int32} {i : Int32} (hin : ∀ j : Int32, (j = 1 ∨ j = 2 ∨ j = 3 ∨ j = 4 ∨ j = 5) → vp_in (i + j) Ln) (kk : ∀ M, Inv M → lX b Ln xs 1138 [(0, .ref 4000), (1, .ref 0), (2, .ref 166), (3, .int i)] [] M) {M : Mem} (hI : Inv M) : lX b Ln xs 987 [(0, .ref 4000), (1, .ref 0), (2, .ref 166), (3, .int i)] [] M := by
  have h := hq M (xs (i + 1).toNatClampNeg) (xs (i + 2).toNatClampNeg) (xs (i + 3).toNatClampNeg) (xs (i + 4).toNatClampNeg) hI
  refine l_aload_n dL_law_987 rfl 988 rfl ?_
  refine l_aload_n dL_law_988 rfl 989 rfl ?_
  refine l_iload_n dL_law_989 rfl 990 rfl ?_
  refine l_iconst (v := 1) dL_law_990 (by decide) 991 rfl ?_
  refine l_iadd dL_law_991 992 rfl ?_
  refine l_sld dL_law_992 (hin 1 (by decide)) 993 rfl ?_
  refine l_aload_n dL_law_993 rfl 994 rfl ?_
  refine l_iload_n dL_law_994 rfl 995 rfl ?_
  refine l_iconst (v := 2) dL_law_995 (by decide) 996 rfl ?_
  refine l_iadd dL_law_996 997 rfl ?_
  refine l_sld dL_law_997 (hin 2 (by decide)) 998 rfl ?_
  refine l_aload_n dL_law_998 rfl 999 rfl ?_
  refine l_iload_n dL_law_999 rfl 1000 rfl ?_
  refine l_iconst (v := 3) dL_law_1000 (by decide) 1001 rfl ?_
  refine l_iadd dL_law_1001 1002 rfl ?_
  refine l_sld dL_law_1002 (hin 3 (by decide)) 1003 rfl ?_
  refine l_aload_n dL_law_1003 rfl 1004 rfl ?_
  refine l_iload_n dL_law_1004 rfl 1005 rfl ?_
  refine l_iconst (v := 4) dL_law_1005 (by decide) 1006 rfl ?_
  refine l_iadd dL_law_1006 1007 rfl ?_
  refine l_sld dL_law_1007 (hin 4 (by decide)) 1008 rfl ?_
  refine l_call_i (n := 4) (As := [.int (xs (i + 1).toNatClampNeg), .int (xs (i + 2).toNatClampNeg), .int (xs (i + 3).toNatClampNeg), .int (xs (i + 4).toNatClampNeg)]) dL_law_1008 1011 rfl (v := 0) (ci := 11) (by decide) (by decide) rfl rfl kw5_93 kw5_94 kw5_95 kw1_1 kw5_96 (by decide +kernel) rfl (by decide) (by decide) (Nat.le_of_ble_eq_true rfl) _ rfl (cX11_lap_ (by decide) h) (fun r1 N1 h => ?_)
  refine l_aload_n dL_law_1011 rfl 1012 rfl ?_
  refine l_aload_n dL_law_1012 rfl 1013 rfl ?_
  refine l_iload_n dL_law_1013 rfl 1014 rfl ?_
  refine l_iconst (v := 1) dL_law_1014 (by decide) 1015 rfl ?_
  refine l_iadd dL_law_1015 1016 rfl ?_
  refine l_sld dL_law_1016 (hin 1 (by decide)) 1017 rfl ?_
  refine l_aload_n dL_law_1017 rfl 1018 rfl ?_
  refine l_iload_n dL_law_1018 rfl 1019 rfl ?_
  refine l_iconst (v := 2) dL_law_1019 (by decide) 1020 rfl ?_
  refine l_iadd dL_law_1020 1021 rfl ?_
  refine l_sld dL_law_1021 (hin 2 (by decide)) 1022 rfl ?_
  refine l_aload_n dL_law_1022 rfl 1023 rfl ?_
  refine l_iload_n dL_law_1023 rfl 1024 rfl ?_
  refine l_iconst (v := 3) dL_law_1024 (by decide) 1025 rfl ?_
  refine l_iadd dL_law_1025 1026 rfl ?_
  refine l_sld dL_law_1026 (hin 3 (by decide)) 1027 rfl ?_
  refine l_aload_n dL_law_1027 rfl 1028 rfl ?_
  refine l_iload_n dL_law_1028 rfl 1029 rfl ?_
  refine l_iconst (v := 4) dL_law_1029 (by decide) 1030 rfl ?_
  refine l_iadd dL_law_1030 1031 rfl ?_
  refine l_sld dL_law_1031 (hin 4 (by decide)) 1032 rfl ?_
  refine l_call_i (n := 4) (As := [.int (xs (i + 1).toNatClampNeg), .int (xs (i + 2).toNatClampNeg), .int (xs (i + 3).toNatClampNeg), .int (xs (i + 4).toNatClampNeg)]) dL_law_1032 1035 rfl (v := 166) (ci := 12) (by decide) (by decide) rfl rfl kw8_73 kw8_74 kw8_75 kw1_14 kw8_76 (by decide +kernel) rfl (by decide) (by decide) (Nat.le_of_ble_eq_true rfl) _ rfl (cX12_lap_ (by decide) h) (fun r2 N2 h => ?_)
  obtain ⟨rfl, hI⟩ := h
  refine l_icmp_eq dL_law_1035 1138 1038 rfl rfl (fun _ => ?_) (fun h => absurd rfl h)
  exact kk _ hI
def lq_game (Inv : Mem → Prop) : Prop := ∀ (M : Mem) (a1 : Int32), Inv M → FX11_game (fun (r : Int32) => FX12_game (fun (r2 : Int32) (M2 : Mem) => r = r2 ∧ Inv M2) 166 a1 M) 0 a1 M
theorem lc_game {Inv : Mem → Prop} (hq : lq_game Inv) {b Ln : Nat} {xs : Nat → Int32} {i : Int32} (hin : ∀ j : Int32, (j = 1 ∨ j = 2 ∨ j = 3 ∨ j = 4 ∨ j = 5) → vp_in (i + j) Ln) (kk : ∀ M, Inv M → lX b Ln xs 1138 [(0, .ref 4000), (1, .ref 0), (2, .ref 166), (3, .int i)] [] M) {M : Mem} (hI : Inv M) : lX b Ln xs 1040 [(0, .ref 4000), (1, .ref 0), (2, .ref 166), (3, .int i)] [] M := by
  have h := hq M (xs (i + 1).toNatClampNeg) hI
  refine l_aload_n dL_law_1040 rfl 1041 rfl ?_
  refine l_aload_n dL_law_1041 rfl 1042 rfl ?_
  refine l_iload_n dL_law_1042 rfl 1043 rfl ?_
  refine l_iconst (v := 1) dL_law_1043 (by decide) 1044 rfl ?_
  refine l_iadd dL_law_1044 1045 rfl ?_
  refine l_sld dL_law_1045 (hin 1 (by decide)) 1046 rfl ?_
  refine l_call_i (n := 1) (As := [.int (xs (i + 1).toNatClampNeg)]) dL_law_1046 1049 rfl (v := 0) (ci := 11) (by decide) (by decide) rfl rfl kw5_109 kw5_110 kw5_111 kw1_1 kw5_112 (by decide +kernel) rfl (by decide) (by decide) (Nat.le_of_ble_eq_true rfl) _ rfl (cX11_game_ (by decide) h) (fun r1 N1 h => ?_)
  obtain ⟨rfl, h⟩ := h
  refine l_aload_n dL_law_1049 rfl 1050 rfl ?_
  refine l_aload_n dL_law_1050 rfl 1051 rfl ?_
  refine l_iload_n dL_law_1051 rfl 1052 rfl ?_
  refine l_iconst (v := 1) dL_law_1052 (by decide) 1053 rfl ?_
  refine l_iadd dL_law_1053 1054 rfl ?_
  refine l_sld dL_law_1054 (hin 1 (by decide)) 1055 rfl ?_
  refine l_call_i (n := 1) (As := [.int (xs (i + 1).toNatClampNeg)]) dL_law_1055 1058 rfl (v := 166) (ci := 12) (by decide) (by decide) rfl rfl kw8_86 kw8_87 kw8_88 kw1_14 kw8_89 (by decide +kernel) rfl (by decide) (by decide) (Nat.le_of_ble_eq_true rfl) _ rfl (cX12_game_ (by decide) h) (fun r2 N2 h => ?_)
  obtain ⟨rfl, hI⟩ := h
  refine l_icmp_eq dL_law_1058 1138 1061 rfl rfl (fun _ => ?_) (fun h => absurd rfl h)
  exact kk _ hI
def lq_undo (Inv : Mem → Prop) : Prop := ∀ (M : Mem), Inv M → FX11_undo (fun (r : Bool) (M1 : Mem) => FX12_undo (fun (r2 : Bool) (M2 : Mem) => r = r2 ∧ Inv M2) 166 M1) 0 M
theorem lc_undo {Inv : Mem → Prop} (hq : lq_undo Inv) {b Ln : Nat} {xs : Nat → Int32} {i : Int32} (hin : ∀ j : Int32, (j = 1 ∨ j = 2 ∨ j = 3 ∨ j = 4 ∨ j = 5) → vp_in (i + j) Ln) (kk : ∀ M, Inv M → lX b Ln xs 1138 [(0, .ref 4000), (1, .ref 0), (2, .ref 166), (3, .int i)] [] M) {M : Mem} (hI : Inv M) : lX b Ln xs 1063 [(0, .ref 4000), (1, .ref 0), (2, .ref 166), (3, .int i)] [] M := by
  have h := hq M  hI
  refine l_aload_n dL_law_1063 rfl 1064 rfl ?_
  refine l_call_b (n := 0) (As := []) dL_law_1064 1067 rfl (v := 0) (ci := 11) (by decide) (by decide) rfl rfl kw5_123 kw5_124 kw5_125 kw1_1 kw5_126 (by decide +kernel) rfl (by decide) (by decide) (Nat.le_of_ble_eq_true rfl) _ rfl (cX11_undo_ (by decide) h) (fun r1 N1 h => ?_)
  refine l_aload_n dL_law_1067 rfl 1068 rfl ?_
  refine l_call_b (n := 0) (As := []) dL_law_1068 1071 rfl (v := 166) (ci := 12) (by decide) (by decide) rfl rfl kw6_70 kw6_71 kw6_72 kw1_14 kw6_73 (by decide +kernel) rfl (by decide) (by decide) (Nat.le_of_ble_eq_true rfl) _ rfl (cX12_undo_ (by decide) h) (fun r2 N2 h => ?_)
  obtain ⟨rfl, hI⟩ := h
  refine l_icmp_eq dL_law_1071 1138 1074 rfl rfl (fun _ => ?_) (fun h => absurd rfl h)
  exact kk _ hI
def lq_image (Inv : Mem → Prop) : Prop := ∀ (M : Mem) (a1 : Int32), (a1 = 0 ∨ a1 = 1) → Inv M → FX11_image (fun (r : Bool) (M1 : Mem) => FX12_image (fun (r2 : Bool) (M2 : Mem) => r = r2 ∧ Inv M2) 166 a1 M1) 0 a1 M
theorem lc_image {Inv : Mem → Prop} (hq : lq_image Inv) {b Ln : Nat} {xs : Nat → Int32} {i : Int32} (hin : ∀ j : Int32, (j = 1 ∨ j = 2 ∨ j = 3 ∨ j = 4 ∨ j = 5) → vp_in (i + j) Ln) (kk : ∀ M, Inv M → lX b Ln xs 1138 [(0, .ref 4000), (1, .ref 0), (2, .ref 166), (3, .int i)] [] M) {M : Mem} (hI : Inv M) : lX b Ln xs 1076 [(0, .ref 4000), (1, .ref 0), (2, .ref 166), (3, .int i)] [] M := by
  refine l_aload_n dL_law_1076 rfl 1077 rfl ?_
  refine l_aload_n dL_law_1077 rfl 1078 rfl ?_
  refine l_iload_n dL_law_1078 rfl 1079 rfl ?_
  refine l_iconst (v := 1) dL_law_1079 (by decide) 1080 rfl ?_
  refine l_iadd dL_law_1080 1081 rfl ?_
  refine l_sld dL_law_1081 (hin 1 (by decide)) 1082 rfl ?_
  refine l_if_eq dL_law_1082 1089 1085 rfl rfl (fun hc => ?_) (fun hc => ?_)
  · have h := hq M 0 (by decide) hI
    refine l_iconst (v := 0) dL_law_1089 (by decide) 1090 rfl ?_
    refine l_call_b (n := 1) (As := [.int 0]) dL_law_1090 1093 rfl (v := 0) (ci := 11) (by decide) (by decide) rfl rfl kw5_131 kw5_132 kw5_133 kw1_1 kw5_134 (by decide +kernel) rfl (by decide) (by decide) (Nat.le_of_ble_eq_true rfl) _ rfl (cX11_image_ (by decide) h) (fun r1 N1 h => ?_)
    refine l_aload_n dL_law_1093 rfl 1094 rfl ?_
    refine l_aload_n dL_law_1094 rfl 1095 rfl ?_
    refine l_iload_n dL_law_1095 rfl 1096 rfl ?_
    refine l_iconst (v := 1) dL_law_1096 (by decide) 1097 rfl ?_
    refine l_iadd dL_law_1097 1098 rfl ?_
    refine l_sld dL_law_1098 (hin 1 (by decide)) 1099 rfl ?_
    refine l_if_eq dL_law_1099 1106 1102 rfl rfl (fun _ => ?_) (fun h2 => absurd hc h2)
    refine l_iconst (v := 0) dL_law_1106 (by decide) 1107 rfl ?_
    refine l_call_b (n := 1) (As := [.int 0]) dL_law_1107 1110 rfl (v := 166) (ci := 12) (by decide) (by decide) rfl rfl kw8_94 kw8_95 kw8_96 kw1_14 kw8_97 (by decide +kernel) rfl (by decide) (by decide) (Nat.le_of_ble_eq_true rfl) _ rfl (cX12_image_ (by decide) h) (fun r2 N2 h => ?_)
    obtain ⟨rfl, hI⟩ := h
    refine l_icmp_eq dL_law_1110 1138 1113 rfl rfl (fun _ => ?_) (fun h => absurd rfl h)
    exact kk _ hI
  · have h := hq M 1 (by decide) hI
    refine l_iconst (v := 1) dL_law_1085 (by decide) 1086 rfl ?_
    refine l_goto dL_law_1086 1090 rfl ?_
    refine l_call_b (n := 1) (As := [.int 1]) dL_law_1090 1093 rfl (v := 0) (ci := 11) (by decide) (by decide) rfl rfl kw5_131 kw5_132 kw5_133 kw1_1 kw5_134 (by decide +kernel) rfl (by decide) (by decide) (Nat.le_of_ble_eq_true rfl) _ rfl (cX11_image_ (by decide) h) (fun r1 N1 h => ?_)
    refine l_aload_n dL_law_1093 rfl 1094 rfl ?_
    refine l_aload_n dL_law_1094 rfl 1095 rfl ?_
    refine l_iload_n dL_law_1095 rfl 1096 rfl ?_
    refine l_iconst (v := 1) dL_law_1096 (by decide) 1097 rfl ?_
    refine l_iadd dL_law_1097 1098 rfl ?_
    refine l_sld dL_law_1098 (hin 1 (by decide)) 1099 rfl ?_
    refine l_if_eq dL_law_1099 1106 1102 rfl rfl (fun h2 => absurd h2 hc) (fun _ => ?_)
    refine l_iconst (v := 1) dL_law_1102 (by decide) 1103 rfl ?_
    refine l_goto dL_law_1103 1107 rfl ?_
    refine l_call_b (n := 1) (As := [.int 1]) dL_law_1107 1110 rfl (v := 166) (ci := 12) (by decide) (by decide) rfl rfl kw8_94 kw8_95 kw8_96 kw1_14 kw8_97 (by decide +kernel) rfl (by decide) (by decide) (Nat.le_of_ble_eq_true rfl) _ rfl (cX12_image_ (by decide) h) (fun r2 N2 h => ?_)
    obtain ⟨rfl, hI⟩ := h
    refine l_icmp_eq dL_law_1110 1138 1113 rfl rfl (fun _ => ?_) (fun h => absurd rfl h)
    exact kk _ hI
def lq_look (Inv : Mem → Prop) : Prop := ∀ (M : Mem) (a1 : Int32), Inv M → FX11_look (fun (r : Int32) => FX12_look (fun (r2 : Int32) (M2 : Mem) => r = r2 ∧ Inv M2) 166 a1 M) 0 a1 M
theorem lc_look {Inv : Mem → Prop} (hq : lq_look Inv) {b Ln : Nat} {xs : Nat → Int32} {i : Int32} (hin : ∀ j : Int32, (j = 1 ∨ j = 2 ∨ j = 3 ∨ j = 4 ∨ j = 5) → vp_in (i + j) Ln) (kk : ∀ M, Inv M → lX b Ln xs 1138 [(0, .ref 4000), (1, .ref 0), (2, .ref 166), (3, .int i)] [] M) {M : Mem} (hI : Inv M) : lX b Ln xs 1115 [(0, .ref 4000), (1, .ref 0), (2, .ref 166), (3, .int i)] [] M := by
  have h := hq M (xs (i + 1).toNatClampNeg) hI
  refine l_aload_n dL_law_1115 rfl 1116 rfl ?_
  refine l_aload_n dL_law_1116 rfl 1117 rfl ?_
  refine l_iload_n dL_law_1117 rfl 1118 rfl ?_
  refine l_iconst (v := 1) dL_law_1118 (by decide) 1119 rfl ?_
  refine l_iadd dL_law_1119 1120 rfl ?_
  refine l_sld dL_law_1120 (hin 1 (by decide)) 1121 rfl ?_
  refine l_call_i (n := 1) (As := [.int (xs (i + 1).toNatClampNeg)]) dL_law_1121 1124 rfl (v := 0) (ci := 11) (by decide) (by decide) rfl rfl kw5_145 kw5_146 kw5_147 kw1_1 kw5_148 (by decide +kernel) rfl (by decide) (by decide) (Nat.le_of_ble_eq_true rfl) _ rfl (cX11_look_ (by decide) h) (fun r1 N1 h => ?_)
  obtain ⟨rfl, h⟩ := h
  refine l_aload_n dL_law_1124 rfl 1125 rfl ?_
  refine l_aload_n dL_law_1125 rfl 1126 rfl ?_
  refine l_iload_n dL_law_1126 rfl 1127 rfl ?_
  refine l_iconst (v := 1) dL_law_1127 (by decide) 1128 rfl ?_
  refine l_iadd dL_law_1128 1129 rfl ?_
  refine l_sld dL_law_1129 (hin 1 (by decide)) 1130 rfl ?_
  refine l_call_i (n := 1) (As := [.int (xs (i + 1).toNatClampNeg)]) dL_law_1130 1133 rfl (v := 166) (ci := 12) (by decide) (by decide) rfl rfl kw8_110 kw8_111 kw8_112 kw1_14 kw8_113 (by decide +kernel) rfl (by decide) (by decide) (Nat.le_of_ble_eq_true rfl) _ rfl (cX12_look_ (by decide) h) (fun r2 N2 h => ?_)
  obtain ⟨rfl, hI⟩ := h
  refine l_icmp_eq dL_law_1133 1138 1136 rfl rfl (fun _ => ?_) (fun h => absurd rfl h)
  exact kk _ hI
def lqAll (Inv : Mem → Prop) : Prop := lq_state Inv ∧ lq_pillar Inv ∧ lq_saint Inv ∧ lq_set Inv ∧ lq_act Inv ∧ lq_days Inv ∧ lq_feed Inv ∧ lq_end Inv ∧ lq_text Inv ∧ lq_fault Inv ∧ lq_of Inv ∧ lq_at Inv ∧ lq_sky Inv ∧ lq_book Inv ∧ lq_goes Inv ∧ lq_loaves Inv ∧ lq_heir Inv ∧ lq_comes Inv ∧ lq_scandal Inv ∧ lq_middle Inv ∧ lq_follows Inv ∧ lq_gives Inv ∧ lq_seen Inv ∧ lq_hears Inv ∧ lq_build Inv ∧ lq_builds Inv ∧ lq_gone Inv ∧ lq_lap Inv ∧ lq_game Inv ∧ lq_undo Inv ∧ lq_image Inv ∧ lq_look Inv
theorem law_loop {Inv : Mem → Prop} (hq : lqAll Inv) {b Ln : Nat} {xs : Nat → Int32} (hL : Ln ≤ 3072) : ∀ (r n : Nat), Ln + 6 ≤ 6 * n + r → 6 * n ≤ Ln → ∀ (M : Mem), Inv M → lX b Ln xs 18 [(0, .ref 4000), (1, .ref 0), (2, .ref 166), (3, .int (nI (6 * n)))] [] M := by
  intro r
  induction r with
  | zero => intro n h1 h2; omega
  | succ r ih =>
    intro n h1 h2 M hI
    have e6 : nI Ln - 6 = nI Ln - nI 6 := rfl
    have hti : (nI Ln - 6).toInt = (Ln : Int) - 6 := by rw [e6]; exact pk_sub_toInt (by omega) (by omega)
    have hni : (nI (6 * n)).toInt = ((6 * n : Nat) : Int) := nI_toInt (by omega)
    refine l_iload_n dL_law_18 rfl 19 rfl ?_
    refine l_aload_n dL_law_19 rfl 20 rfl ?_
    refine l_slen dL_law_20 21 rfl ?_
    refine l_bipush (v := 6) dL_law_21 (by decide) 23 rfl ?_
    refine l_isub dL_law_23 24 rfl ?_
    refine l_icmp_gt dL_law_24 1144 27 rfl rfl (fun _ => ?_) (fun hc => ?_)
    · refine l_iconst (v := 1) dL_law_1144 (by decide) 1145 rfl ?_
      exact l_ret dL_law_1145
    · have hle : 6 * n + 6 ≤ Ln := by
        rw [Int32.lt_iff_toInt_lt, hti, hni] at hc
        omega
      have hin0 : vp_in (nI (6 * n)) Ln := vp_in_nI (by omega) (by omega)
      have hin : ∀ j : Int32, (j = 1 ∨ j = 2 ∨ j = 3 ∨ j = 4 ∨ j = 5) → vp_in (nI (6 * n) + j) Ln := by
        intro j hj
        have key : ∀ z : Nat, 0 < z → z < 6 → vp_in (nI (6 * n) + nI z) Ln := fun z _ h2 => by rw [nI_add]; exact vp_in_nI (by omega) (by omega)
        rcases hj with rfl | rfl | rfl | rfl | rfl
        · exact key 1 (by decide) (by decide)
        · exact key 2 (by decide) (by decide)
        · exact key 3 (by decide) (by decide)
        · exact key 4 (by decide) (by decide)
        · exact key 5 (by decide) (by decide)
      have next : ∀ M, Inv M → lX b Ln xs 1138 [(0, .ref 4000), (1, .ref 0), (2, .ref 166), (3, .int (nI (6 * n)))] [] M := by
        intro M hI
        refine l_iinc (v := nI (6 * (n + 1))) dL_law_1138 rfl ?_ (by decide) [(0, .ref 4000), (1, .ref 0), (2, .ref 166), (3, .int (nI (6 * (n + 1))))] rfl 1141 rfl ?_
        · show nI (6 * n) + nI 6 = _
          rw [nI_add]
          rfl
        · refine l_goto dL_law_1141 18 rfl ?_
          exact ih (n + 1) (by omega) (by omega) M hI
      refine l_aload_n dL_law_27 rfl 28 rfl ?_
      refine l_iload_n dL_law_28 rfl 29 rfl ?_
      refine l_sld dL_law_29 hin0 30 rfl ?_
      refine l_bipush (v := 31) dL_law_30 (by decide) 32 rfl ?_
      refine l_iand dL_law_32 33 rfl ?_
      by_cases hc0 : xs (nI (6 * n)).toNatClampNeg &&& 31 = 0
      · exact l_tab_at dL_law_33 hc0 (by decide) (by decide) rfl (tg := 176) rfl (lc_state hq.1 hin next hI)
      by_cases hc1 : xs (nI (6 * n)).toNatClampNeg &&& 31 = 1
      · exact l_tab_at dL_law_33 hc1 (by decide) (by decide) rfl (tg := 199) rfl (lc_pillar hq.2.1 hin next hI)
      by_cases hc2 : xs (nI (6 * n)).toNatClampNeg &&& 31 = 2
      · exact l_tab_at dL_law_33 hc2 (by decide) (by decide) rfl (tg := 222) rfl (lc_saint hq.2.2.1 hin next hI)
      by_cases hc3 : xs (nI (6 * n)).toNatClampNeg &&& 31 = 3
      · exact l_tab_at dL_law_33 hc3 (by decide) (by decide) rfl (tg := 265) rfl (lc_set hq.2.2.2.1 hin next hI)
      by_cases hc4 : xs (nI (6 * n)).toNatClampNeg &&& 31 = 4
      · exact l_tab_at dL_law_33 hc4 (by decide) (by decide) rfl (tg := 308) rfl (lc_act hq.2.2.2.2.1 hin next hI)
      by_cases hc5 : xs (nI (6 * n)).toNatClampNeg &&& 31 = 5
      · exact l_tab_at dL_law_33 hc5 (by decide) (by decide) rfl (tg := 351) rfl (lc_days hq.2.2.2.2.2.1 hin next hI)
      by_cases hc6 : xs (nI (6 * n)).toNatClampNeg &&& 31 = 6
      · exact l_tab_at dL_law_33 hc6 (by decide) (by decide) rfl (tg := 374) rfl (lc_feed hq.2.2.2.2.2.2.1 hin next hI)
      by_cases hc7 : xs (nI (6 * n)).toNatClampNeg &&& 31 = 7
      · exact l_tab_at dL_law_33 hc7 (by decide) (by decide) rfl (tg := 437) rfl (lc_end hq.2.2.2.2.2.2.2.1 hin next hI)
      by_cases hc8 : xs (nI (6 * n)).toNatClampNeg &&& 31 = 8
      · exact l_tab_at dL_law_33 hc8 (by decide) (by decide) rfl (tg := 460) rfl (lc_text hq.2.2.2.2.2.2.2.2.1 hin next hI)
      by_cases hc9 : xs (nI (6 * n)).toNatClampNeg &&& 31 = 9
      · exact l_tab_at dL_law_33 hc9 (by decide) (by decide) rfl (tg := 483) rfl (lc_fault hq.2.2.2.2.2.2.2.2.2.1 hin next hI)
      by_cases hc10 : xs (nI (6 * n)).toNatClampNeg &&& 31 = 10
      · exact l_tab_at dL_law_33 hc10 (by decide) (by decide) rfl (tg := 506) rfl (lc_of hq.2.2.2.2.2.2.2.2.2.2.1 hin next hI)
      by_cases hc11 : xs (nI (6 * n)).toNatClampNeg &&& 31 = 11
      · exact l_tab_at dL_law_33 hc11 (by decide) (by decide) rfl (tg := 539) rfl (lc_at hq.2.2.2.2.2.2.2.2.2.2.2.1 hin next hI)
      by_cases hc12 : xs (nI (6 * n)).toNatClampNeg &&& 31 = 12
      · exact l_tab_at dL_law_33 hc12 (by decide) (by decide) rfl (tg := 572) rfl (lc_sky hq.2.2.2.2.2.2.2.2.2.2.2.2.1 hin next hI)
      by_cases hc13 : xs (nI (6 * n)).toNatClampNeg &&& 31 = 13
      · exact l_tab_at dL_law_33 hc13 (by decide) (by decide) rfl (tg := 595) rfl (lc_book hq.2.2.2.2.2.2.2.2.2.2.2.2.2.1 hin next hI)
      by_cases hc14 : xs (nI (6 * n)).toNatClampNeg &&& 31 = 14
      · exact l_tab_at dL_law_33 hc14 (by decide) (by decide) rfl (tg := 628) rfl (lc_goes hq.2.2.2.2.2.2.2.2.2.2.2.2.2.2.1 hin next hI)
      by_cases hc15 : xs (nI (6 * n)).toNatClampNeg &&& 31 = 15
      · exact l_tab_at dL_law_33 hc15 (by decide) (by decide) rfl (tg := 661) rfl (lc_loaves hq.2.2.2.2.2.2.2.2.2.2.2.2.2.2.2.1 hin next hI)
      by_cases hc16 : xs (nI (6 * n)).toNatClampNeg &&& 31 = 16
      · exact l_tab_at dL_law_33 hc16 (by decide) (by decide) rfl (tg := 674) rfl (lc_heir hq.2.2.2.2.2.2.2.2.2.2.2.2.2.2.2.2.1 hin next hI)
      by_cases hc17 : xs (nI (6 * n)).toNatClampNeg &&& 31 = 17
      · exact l_tab_at dL_law_33 hc17 (by decide) (by decide) rfl (tg := 697) rfl (lc_comes hq.2.2.2.2.2.2.2.2.2.2.2.2.2.2.2.2.2.1 hin next hI)
      by_cases hc18 : xs (nI (6 * n)).toNatClampNeg &&& 31 = 18
      · exact l_tab_at dL_law_33 hc18 (by decide) (by decide) rfl (tg := 730) rfl (lc_scandal hq.2.2.2.2.2.2.2.2.2.2.2.2.2.2.2.2.2.2.1 hin next hI)
      by_cases hc19 : xs (nI (6 * n)).toNatClampNeg &&& 31 = 19
      · exact l_tab_at dL_law_33 hc19 (by decide) (by decide) rfl (tg := 753) rfl (lc_middle hq.2.2.2.2.2.2.2.2.2.2.2.2.2.2.2.2.2.2.2.1 hin next hI)
      by_cases hc20 : xs (nI (6 * n)).toNatClampNeg &&& 31 = 20
      · exact l_tab_at dL_law_33 hc20 (by decide) (by decide) rfl (tg := 776) rfl (lc_follows hq.2.2.2.2.2.2.2.2.2.2.2.2.2.2.2.2.2.2.2.2.1 hin next hI)
      by_cases hc21 : xs (nI (6 * n)).toNatClampNeg &&& 31 = 21
      · exact l_tab_at dL_law_33 hc21 (by decide) (by decide) rfl (tg := 799) rfl (lc_gives hq.2.2.2.2.2.2.2.2.2.2.2.2.2.2.2.2.2.2.2.2.2.1 hin next hI)
      by_cases hc22 : xs (nI (6 * n)).toNatClampNeg &&& 31 = 22
      · exact l_tab_at dL_law_33 hc22 (by decide) (by decide) rfl (tg := 832) rfl (lc_seen hq.2.2.2.2.2.2.2.2.2.2.2.2.2.2.2.2.2.2.2.2.2.2.1 hin next hI)
      by_cases hc23 : xs (nI (6 * n)).toNatClampNeg &&& 31 = 23
      · exact l_tab_at dL_law_33 hc23 (by decide) (by decide) rfl (tg := 855) rfl (lc_hears hq.2.2.2.2.2.2.2.2.2.2.2.2.2.2.2.2.2.2.2.2.2.2.2.1 hin next hI)
      by_cases hc24 : xs (nI (6 * n)).toNatClampNeg &&& 31 = 24
      · exact l_tab_at dL_law_33 hc24 (by decide) (by decide) rfl (tg := 888) rfl (lc_build hq.2.2.2.2.2.2.2.2.2.2.2.2.2.2.2.2.2.2.2.2.2.2.2.2.1 hin next hI)
      by_cases hc25 : xs (nI (6 * n)).toNatClampNeg &&& 31 = 25
      · exact l_tab_at dL_law_33 hc25 (by decide) (by decide) rfl (tg := 921) rfl (lc_builds hq.2.2.2.2.2.2.2.2.2.2.2.2.2.2.2.2.2.2.2.2.2.2.2.2.2.1 hin next hI)
      by_cases hc26 : xs (nI (6 * n)).toNatClampNeg &&& 31 = 26
      · exact l_tab_at dL_law_33 hc26 (by decide) (by decide) rfl (tg := 944) rfl (lc_gone hq.2.2.2.2.2.2.2.2.2.2.2.2.2.2.2.2.2.2.2.2.2.2.2.2.2.2.1 hin next hI)
      by_cases hc27 : xs (nI (6 * n)).toNatClampNeg &&& 31 = 27
      · exact l_tab_at dL_law_33 hc27 (by decide) (by decide) rfl (tg := 987) rfl (lc_lap hq.2.2.2.2.2.2.2.2.2.2.2.2.2.2.2.2.2.2.2.2.2.2.2.2.2.2.2.1 hin next hI)
      by_cases hc28 : xs (nI (6 * n)).toNatClampNeg &&& 31 = 28
      · exact l_tab_at dL_law_33 hc28 (by decide) (by decide) rfl (tg := 1040) rfl (lc_game hq.2.2.2.2.2.2.2.2.2.2.2.2.2.2.2.2.2.2.2.2.2.2.2.2.2.2.2.2.1 hin next hI)
      by_cases hc29 : xs (nI (6 * n)).toNatClampNeg &&& 31 = 29
      · exact l_tab_at dL_law_33 hc29 (by decide) (by decide) rfl (tg := 1063) rfl (lc_undo hq.2.2.2.2.2.2.2.2.2.2.2.2.2.2.2.2.2.2.2.2.2.2.2.2.2.2.2.2.2.1 hin next hI)
      by_cases hc30 : xs (nI (6 * n)).toNatClampNeg &&& 31 = 30
      · exact l_tab_at dL_law_33 hc30 (by decide) (by decide) rfl (tg := 1076) rfl (lc_image hq.2.2.2.2.2.2.2.2.2.2.2.2.2.2.2.2.2.2.2.2.2.2.2.2.2.2.2.2.2.2.1 hin next hI)
      by_cases hc31 : xs (nI (6 * n)).toNatClampNeg &&& 31 = 31
      · exact l_tab_at dL_law_33 hc31 (by decide) (by decide) rfl (tg := 1115) rfl (lc_look hq.2.2.2.2.2.2.2.2.2.2.2.2.2.2.2.2.2.2.2.2.2.2.2.2.2.2.2.2.2.2.2 hin next hI)
      refine l_tab_out dL_law_33 (by have b0 := lv_neT hc0 (a := 0) (by decide); have b1 := lv_neT hc1 (a := 1) (by decide); have b2 := lv_neT hc2 (a := 2) (by decide); have b3 := lv_neT hc3 (a := 3) (by decide); have b4 := lv_neT hc4 (a := 4) (by decide); have b5 := lv_neT hc5 (a := 5) (by decide); have b6 := lv_neT hc6 (a := 6) (by decide); have b7 := lv_neT hc7 (a := 7) (by decide); have b8 := lv_neT hc8 (a := 8) (by decide); have b9 := lv_neT hc9 (a := 9) (by decide); have b10 := lv_neT hc10 (a := 10) (by decide); have b11 := lv_neT hc11 (a := 11) (by decide); have b12 := lv_neT hc12 (a := 12) (by decide); have b13 := lv_neT hc13 (a := 13) (by decide); have b14 := lv_neT hc14 (a := 14) (by decide); have b15 := lv_neT hc15 (a := 15) (by decide); have b16 := lv_neT hc16 (a := 16) (by decide); have b17 := lv_neT hc17 (a := 17) (by decide); have b18 := lv_neT hc18 (a := 18) (by decide); have b19 := lv_neT hc19 (a := 19) (by decide); have b20 := lv_neT hc20 (a := 20) (by decide); have b21 := lv_neT hc21 (a := 21) (by decide); have b22 := lv_neT hc22 (a := 22) (by decide); have b23 := lv_neT hc23 (a := 23) (by decide); have b24 := lv_neT hc24 (a := 24) (by decide); have b25 := lv_neT hc25 (a := 25) (by decide); have b26 := lv_neT hc26 (a := 26) (by decide); have b27 := lv_neT hc27 (a := 27) (by decide); have b28 := lv_neT hc28 (a := 28) (by decide); have b29 := lv_neT hc29 (a := 29) (by decide); have b30 := lv_neT hc30 (a := 30) (by decide); have b31 := lv_neT hc31 (a := 31) (by decide); omega) (tg := 1138) rfl (next M hI)
