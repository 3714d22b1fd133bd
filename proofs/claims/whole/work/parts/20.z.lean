/-! the constructors: cells 0 .. n - 1 are made, cell c at S + c; Z c j: the reference field j of cell c is set -/
def zfv (G : xGt) (Z : Nat → Nat → Bool) (c k : Nat) (f : Nat → Int32) (j : Nat) : Value := if xoff k j = 0 then .int (f j) else if Z c j = true then .ref (xad G (c + xoff k j)) else .null
def zent (G : xGt) (Z : Nat → Nat → Bool) (c : Nat) (f : Nat → Int32) : va_E :=
  if SHk c = 13 then .inl (G.2.1.1, SHn c, .inl f)
  else if SHk c = 14 then .inl (G.2.1.2.1, SHn c, .inl f)
  else if SHk c = 15 then .inl (G.2.1.2.2, SHn c, .inr (.inr (.inr (.inr (fun j => if f j = 0 then none else some (xad G (f j).toNatClampNeg))))))
  else .inr (SHk c, (List.range (SHn c)).map (zfv G Z c (SHk c) f))
def wz (G : xGt) (n : Nat) (Z : Nat → Nat → Bool) (M : Mem) : va_W := (List.range n).map fun c => (xad G c, zent G Z c (M c))
def zu (Z : Nat → Nat → Bool) (c j : Nat) : Nat → Nat → Bool := fun a i => Z a i || (a == c && i == j)
def zG (S : Nat) (G : xGt) : Prop := ∀ c, c < 192 → xad G c = S + c
def zfr (n : Nat) (Z : Nat → Nat → Bool) : Prop := ∀ a, n ≤ a → ∀ j, Z a j = false
theorem wz_get (G : xGt) (n : Nat) (Z : Nat → Nat → Bool) (M : Mem) {c : Nat} (h : c < n) : (wz G n Z M)[c]? = some (xad G c, zent G Z c (M c)) := by
  unfold wz
  rw [List.getElem?_map, List.getElem?_range h]
  rfl
theorem wz_len (G : xGt) (n : Nat) (Z : Nat → Nat → Bool) (M : Mem) : (wz G n Z M).length = n := by simp [wz]
theorem wz_key (G : xGt) (n : Nat) (Z : Nat → Nat → Bool) (M : Mem) {k : Nat} {q : Nat × va_E} (h : (wz G n Z M)[k]? = some q) : k < n ∧ q = (xad G k, zent G Z k (M k)) := by
  have hk : k < n := by
    have := (List.getElem?_eq_some_iff.mp h).1
    rwa [wz_len] at this
  rw [wz_get G n Z M hk] at h
  exact ⟨hk, (Option.some.inj h).symm⟩
theorem wz_ext {G : xGt} {n c : Nat} {Z Z2 : Nat → Nat → Bool} {M M2 : Mem} {e : va_E} (hc : c < n) (he : e = zent G Z2 c (M2 c)) (ho : ∀ a, a < n → a ≠ c → zent G Z2 a (M2 a) = zent G Z a (M a)) : (wz G n Z M).set c (xad G c, e) = wz G n Z2 M2 := by
  apply List.ext_getElem?
  intro i
  rw [List.getElem?_set]
  by_cases hi : i < n
  · rw [wz_get G n Z M hi, wz_len, wz_get G n Z2 M2 hi]
    by_cases e1 : c = i
    · subst e1
      simp [hc, he]
    · simp [e1]
      exact (ho i hi (fun q => e1 q.symm)).symm
  · rw [List.getElem?_eq_none (by rw [wz_len]; omega), List.getElem?_eq_none (by rw [wz_len]; omega)]
    have e1 : ¬ c = i := fun q => hi (q ▸ hc)
    simp [e1]
theorem wz_setM {G : xGt} {n c : Nat} {Z : Nat → Nat → Bool} {M : Mem} {f : Nat → Int32} (hc : c < n) : (wz G n Z M).set c (xad G c, zent G Z c f) = wz G n Z (xuC M c f) :=
  wz_ext hc (by simp [xuC]) (fun a _ ha => by simp [xuC, ha])
theorem wz_D {S : Nat} {G : xGt} {n : Nat} (hG : zG S G) (hn : n ≤ 192) (Z : Nat → Nat → Bool) (M : Mem) : va_D (fun q => S ≤ q) (wz G n Z M) := by
  refine ⟨fun i j p q hi hj e => ?_, fun k q hk => ?_⟩
  · obtain ⟨h1, rfl⟩ := wz_key G n Z M hi
    obtain ⟨h2, rfl⟩ := wz_key G n Z M hj
    have e1 : xad G i = xad G j := e
    rw [hG i (by omega), hG j (by omega)] at e1
    omega
  · obtain ⟨h1, rfl⟩ := wz_key G n Z M hk
    show S ≤ xad G k
    rw [hG k (by omega)]
    omega
theorem wz_push {S n : Nat} {G : xGt} {Z : Nat → Nat → Bool} {M : Mem} {H H1 : Heap} (hG : zG S G) (hn : n < 192) (hP : va_P G.1 vwCl (wz G n Z M) H) (hH : H.size = S + n) (o1 : ∀ q, q < S + n → H1[q]? = H[q]?) (e1 : va_at G.1 vwCl (xad G n, zent G Z n (fun _ => 0)) H1) : va_P G.1 vwCl (wz G (n + 1) Z (xuC M n (fun _ => 0))) H1 := by
  intro k q hk
  obtain ⟨h1, rfl⟩ := wz_key G (n + 1) Z _ hk
  by_cases e : k = n
  · subst e
    simpa [xuC] using e1
  · have hk2 : k < n := by omega
    have h2 := hP k _ (wz_get G n Z M hk2)
    have e3 : xuC M n (fun _ => 0) k = M k := by simp [xuC, e]
    rw [e3]
    refine h2.kept ?_
    show H1[xad G k]? = H[xad G k]?
    rw [hG k (by omega)]
    exact o1 _ (by omega)
theorem zfr_up {n : Nat} {Z : Nat → Nat → Bool} (h : zfr n Z) : zfr (n + 1) Z := fun a ha j => h a (by omega) j
theorem zfr_zu {n c j : Nat} {Z : Nat → Nat → Bool} (h : zfr n Z) (hc : c < n) : zfr n (zu Z c j) := fun a ha i => by
  have : ¬ a = c := by omega
  simp [zu, h a ha i, this]
theorem ze_o {G : xGt} {Z : Nat → Nat → Bool} {c k : Nat} (h : SHk c = k) (hk : k < 13) (f : Nat → Int32) : zent G Z c f = .inr (k, (List.range (SHn c)).map (zfv G Z c k f)) := by
  subst h
  have h1 : ¬ SHk c = 13 := by omega
  have h2 : ¬ SHk c = 14 := by omega
  have h3 : ¬ SHk c = 15 := by omega
  simp [zent, h1, h2, h3]
theorem ze_i {G : xGt} {Z : Nat → Nat → Bool} {c : Nat} (h : SHk c = 13) (f : Nat → Int32) : zent G Z c f = .inl (G.2.1.1, SHn c, .inl f) := by simp [zent, h]
theorem ze_b {G : xGt} {Z : Nat → Nat → Bool} {c : Nat} (h : SHk c = 14) (f : Nat → Int32) : zent G Z c f = .inl (G.2.1.2.1, SHn c, .inl f) := by simp [zent, h]
theorem ze_q {G : xGt} {Z : Nat → Nat → Bool} {c : Nat} (h : SHk c = 15) (f : Nat → Int32) : zent G Z c f = .inl (G.2.1.2.2, SHn c, .inr (.inr (.inr (.inr (fun j => if f j = 0 then none else some (xad G (f j).toNatClampNeg)))))) := by simp [zent, h]
theorem zf_get {G : xGt} {Z : Nat → Nat → Bool} {c k n j : Nat} {f : Nat → Int32} (h : j < n) : ((List.range n).map (zfv G Z c k f))[j]? = some (zfv G Z c k f j) := by
  rw [List.getElem?_map, List.getElem?_range h]
  rfl
theorem zf_set {G : xGt} {Z Z2 : Nat → Nat → Bool} {c k n j : Nat} {f f2 : Nat → Int32} {v : Value} (h : j < n) (hv : v = zfv G Z2 c k f2 j) (ho : ∀ i, i < n → i ≠ j → zfv G Z2 c k f2 i = zfv G Z c k f i) : ((List.range n).map (zfv G Z c k f)).set j v = (List.range n).map (zfv G Z2 c k f2) := by
  apply List.ext_getElem?
  intro i
  rw [List.getElem?_set]
  by_cases hi : i < n
  · rw [zf_get hi, List.length_map, List.length_range, zf_get hi]
    by_cases e : j = i
    · subst e
      simp [h, hv]
    · simp [e]
      exact (ho i hi (fun q => e q.symm)).symm
  · rw [List.getElem?_eq_none (by simp; omega), List.getElem?_eq_none (by simp; omega)]
    have e : ¬ j = i := fun q => hi (q ▸ h)
    simp [e]
theorem zent_other {G : xGt} {Z : Nat → Nat → Bool} {c j a : Nat} {f : Nat → Int32} (ha : a ≠ c) : zent G (zu Z c j) a f = zent G Z a f := by
  have e : zfv G (zu Z c j) a (SHk a) f = zfv G Z a (SHk a) f := by
    funext i
    simp [zfv, zu, ha]
  simp [zent, e]
def zR (d kc sc : Nat) : Room := { frames := d, cells := kc, slots := sc, locals := 48 * d }
def zC (own : String) (cc : ByteArray) (nL : Nat) (G : xGt) (p : Program) (s : State) (m : MethodId) (args : Array Value) (meth : Method) (c : Code) : Prop :=
  p.tables.exec = Jvm.exec ∧ c.code = cc ∧ c.maxLocals = nL ∧ meth.sig.returnType = none ∧ s.vm.findClass own = some m.cls ∧ (∀ w ∈ xTs, w.before args s = true) ∧ meth.locks = false ∧ va_K G.1 vwCl (xT G) s ∧ meth.name = "<init>" ∧ xN s ∧ va_AO "PillarSaints$World" s
def zQ (S : Nat) (G : xGt) (n1 : Nat) (Z1 : Nat → Nat → Bool) (M1 : Mem) : Array Value → State → Outcome → State → Prop := va_Qv (fun _ : Unit => True) (fun _ t => zfr n1 Z1 ∧ va_P G.1 vwCl (wz G n1 Z1 M1) t.heap) (fun q => S ≤ q)
def zX (own : String) (cc : ByteArray) (nL d pc : Nat) (L : List (Nat × Value)) (st : List Value) (n : Nat) (Z : Nat → Nat → Bool) (M : Mem) (u v kc sc n1 : Nat) (Z1 : Nat → Nat → Bool) (M1 : Mem) : Prop :=
  ∀ (G : xGt) (p : Program) (l : Launch) (e : Env) (s : State) (m : MethodId) (a : Array Value) (b : List Frame) (t : Method) (c : Code) (H : Heap) (o : List Loc) (ls : Array Slot) (S : Nat),
    zC own cc nL G p s m a t c → zG S G → s.heap.size + u = S + n → zfr n Z → va_P G.1 vwCl (wz G n Z M) H → va_S (fun q => S ≤ q) s.heap H o → S ≤ s.heap.size → lv_has ls nL (L.map (xl G)) →
    W p l e (zR d kc sc) s m a b t c H o u v (MQ b (zQ S G n1 Z1 M1) a s kc sc (fun q => S ≤ q)) (F0 m pc ls (st.map (xc G)))
theorem W.sz {p : Program} {l : Launch} {e : Env} {R : Room} {s : State} {m : MethodId} {args : Array Value} {below : List Frame} {meth : Method} {c : Code} {H : Heap} {locs : List Loc} {cells slots : Nat} {Q : State → Prop} {g : JFrame} (k : H.size ≤ s.heap.size + cells → W p l e R s m args below meth c H locs cells slots Q g) : W p l e R s m args below meth c H locs cells slots Q g := fun T hT X => k (by rw [← hT]; exact X.same.2.2.1) T hT X
theorem zsz {S n u : Nat} {G : xGt} {Z : Nat → Nat → Bool} {M : Mem} {H : Heap} {s : State} (hG : zG S G) (hn0 : 0 < n) (hn : n ≤ 192) (hP : va_P G.1 vwCl (wz G n Z M) H) (hH : s.heap.size + u = S + n) (h : H.size ≤ s.heap.size + u) : H.size = S + n := by
  have h1 := (hP (n - 1) _ (wz_get G n Z M (by omega))).lt
  have h2 : xad G (n - 1) < H.size := h1
  rw [hG (n - 1) (by omega)] at h2
  omega
def zPc (S : Nat) (G : xGt) (As : List Value) (n : Nat) (Z : Nat → Nat → Bool) (M : Mem) : Array Value → State → Prop := va_Pc (As.map (xc G)) (fun U => U.heap.size = S + n ∧ va_P G.1 vwCl (wz G n Z M) U.heap ∧ va_K G.1 vwCl (xT G) U ∧ xN U ∧ va_AO "PillarSaints$World" U)
def zM (y : MethodName) (cc : ByteArray) (nL d : Nat) (As : List Value) (n : Nat) (Z : Nat → Nat → Bool) (M : Mem) (kc sc n1 : Nat) (Z1 : Nat → Nat → Bool) (M1 : Mem) : Prop :=
  ∀ (S : Nat) (G : xGt) (l : Launch), zG S G → zfr n Z → Met l y (.code y cc nL none :: xTs) (zR d kc sc) (zPc S G As n Z M) (zQ S G n1 Z1 M1) kc sc (fun q => S ≤ q)
theorem zPc_blind (S : Nat) (G : xGt) (As : List Value) (n : Nat) (Z : Nat → Nat → Bool) (M : Mem) : FrameBlind (zPc S G As n Z M) := by
  intro a U g mk h
  obtain ⟨h0, hH, hP, hK, hN, hO⟩ := h
  exact ⟨h0, hH, hP, va_K.moved (u := U) (U := U.calling g mk a) (Vm.Alike.refl U.vm) hK, xN_same rfl hN, va_AO.moved (u := U) (U := U.calling g mk a) (Vm.Alike.refl U.vm) hO⟩
theorem zM_of {y : MethodName} {cc : ByteArray} {nL d : Nat} {As : List Value} {n : Nat} {Z : Nat → Nat → Bool} {M : Mem} {kc sc n1 : Nat} {Z1 : Nat → Nat → Bool} {M1 : Mem} (hy : plainName y.cls = true) (hin : y.name = "<init>") (hlen : (lg_sl As).length ≤ nL) (k : zX y.cls cc nL d 0 (lv_args 0 As) [] n Z M 0 0 kc sc n1 Z1 M1) : zM y cc nL d As n Z M kc sc n1 Z1 M1 := by
  intro S G l hG hz
  refine Met.ofW (cc := cc) (maxL := nL) (ret := none) hy rfl ?_
  intro p e s m args below meth c s₁ B hml hv
  obtain ⟨rfl, hH, hP, hK, hN, hO⟩ := hv
  have hts := atoms_spec (ws := .code y cc nL none :: xTs) B.pre
  have hown : s.vm.findClass y.cls = some m.cls := findClass_of_methodNamed B.named
  have hnm : meth.name = "<init>" := (name_of_methodNamed B.named B.method).1.trans hin
  rw [lg_entry_eq]
  have hl := lv_entry (As.map (xc G)) (n := nL) (by rw [lg_sl_len]; exact hlen)
  rw [lv_args_map] at hl
  exact k G p l e s m _ below meth c s.heap [] _ S ⟨B.exec, B.bytes, hml, B.returns, hown, fun w h => hts w (List.mem_cons_of_mem _ h), B.notSynchronized, hK, hnm, hN, hO⟩ hG (by omega) hz hP va_S.rf (by omega) hl
section ZR
variable {own : String} {cc : ByteArray} {nL d pc : Nat} {L : List (Nat × Value)} {st : List Value} {n : Nat} {Z : Nat → Nat → Bool} {M : Mem} {u v kc sc n1 : Nat} {Z1 : Nat → Nat → Bool} {M1 : Mem}
theorem z_iconst {z : Int} {x : Int32} (hd : decode cc pc = .ok (.iconst z, 1)) (hv : Int32.ofInt z = x) (q : Nat) (hq : pc + 1 = q) (k : zX own cc nL d q L (.int x :: st) n Z M u v kc sc n1 Z1 M1) : zX own cc nL d pc L st n Z M u v kc sc n1 Z1 M1 := by
  subst hq
  intro G p l e s m a b t c H o ls S C hG hH hz hP hS hs hl
  exact lv_iconst C.1 C.2.1 hd hv (k G p l e s m a b t c H o ls S C hG hH hz hP hS hs hl)
theorem z_bipush {z : Int} {x : Int32} (hd : decode cc pc = .ok (.bipush z, 2)) (hv : (Int8.ofInt z).toInt32 = x) (q : Nat) (hq : pc + 2 = q) (k : zX own cc nL d q L (.int x :: st) n Z M u v kc sc n1 Z1 M1) : zX own cc nL d pc L st n Z M u v kc sc n1 Z1 M1 := by
  subst hq
  intro G p l e s m a b t c H o ls S C hG hH hz hP hS hs hl
  exact lv_bipush C.1 C.2.1 hd hv (k G p l e s m a b t c H o ls S C hG hH hz hP hS hs hl)
theorem z_sipush {z : Int} {x : Int32} (hd : decode cc pc = .ok (.sipush z, 3)) (hv : (Int16.ofInt z).toInt32 = x) (q : Nat) (hq : pc + 3 = q) (k : zX own cc nL d q L (.int x :: st) n Z M u v kc sc n1 Z1 M1) : zX own cc nL d pc L st n Z M u v kc sc n1 Z1 M1 := by
  subst hq
  intro G p l e s m a b t c H o ls S C hG hH hz hP hS hs hl
  exact lv_sipush C.1 C.2.1 hd hv (k G p l e s m a b t c H o ls S C hG hH hz hP hS hs hl)
theorem z_aload_n {i : Fin 4} {x : Nat} (hd : decode cc pc = .ok (.aload_n i, 1)) (hv : xat L i.val = some (.ref x)) (q : Nat) (hq : pc + 1 = q) (k : zX own cc nL d q L (.ref x :: st) n Z M u v kc sc n1 Z1 M1) : zX own cc nL d pc L st n Z M u v kc sc n1 Z1 M1 := by
  subst hq
  intro G p l e s m a b t c H o ls S C hG hH hz hP hS hs hl
  exact lv_aload_n C.1 C.2.1 hd rfl (xl_at hl hv) (k G p l e s m a b t c H o ls S C hG hH hz hP hS hs hl)
theorem z_iload_n {i : Fin 4} {x : Int32} (hd : decode cc pc = .ok (.iload_n i, 1)) (hv : xat L i.val = some (.int x)) (q : Nat) (hq : pc + 1 = q) (k : zX own cc nL d q L (.int x :: st) n Z M u v kc sc n1 Z1 M1) : zX own cc nL d pc L st n Z M u v kc sc n1 Z1 M1 := by
  subst hq
  intro G p l e s m a b t c H o ls S C hG hH hz hP hS hs hl
  exact lv_iload_n C.1 C.2.1 hd rfl (xl_at hl hv) (k G p l e s m a b t c H o ls S C hG hH hz hP hS hs hl)
theorem z_dup {w : Value} (hd : decode cc pc = .ok (.dup, 1)) (hc : w.category = 1) (q : Nat) (hq : pc + 1 = q) (k : zX own cc nL d q L (w :: w :: st) n Z M u v kc sc n1 Z1 M1) : zX own cc nL d pc L (w :: st) n Z M u v kc sc n1 Z1 M1 := by
  subst hq
  intro G p l e s m a b t c H o ls S C hG hH hz hP hS hs hl
  exact lv_dup C.1 C.2.1 hd (by rw [xc_cat]; exact hc) (k G p l e s m a b t c H o ls S C hG hH hz hP hS hs hl)
theorem z_istore_n {i : Fin 4} {x : Int32} (hd : decode cc pc = .ok (.istore_n i, 1)) (hn : i.val < nL) (L2 : List (Nat × Value)) (hL : xset i.val (.int x) L = L2) (q : Nat) (hq : pc + 1 = q) (k : zX own cc nL d q L2 st n Z M u v kc sc n1 Z1 M1) : zX own cc nL d pc L (.int x :: st) n Z M u v kc sc n1 Z1 M1 := by
  subst hq
  intro G p l e s m a b t c H o ls S C hG hH hz hP hS hs hl
  subst hL
  exact lv_istore_n C.1 C.2.1 hd rfl hl hn rfl (fun ls2 hl2 => k G p l e s m a b t c H o ls2 S C hG hH hz hP hS hs (xset_has (v := .int x) hl2))
theorem z_iinc {i : Nat} {z : Int} {x y : Int32} (hd : decode cc pc = .ok (.iinc i z, 3)) (hx : xat L i = some (.int x)) (hv : x + Int32.ofInt z = y) (hn : i < nL) (L2 : List (Nat × Value)) (hL : xset i (.int y) L = L2) (q : Nat) (hq : pc + 3 = q) (k : zX own cc nL d q L2 st n Z M u v kc sc n1 Z1 M1) : zX own cc nL d pc L st n Z M u v kc sc n1 Z1 M1 := by
  subst hq
  intro G p l e s m a b t c H o ls S C hG hH hz hP hS hs hl
  subst hL
  obtain ⟨z9, hz9⟩ := List.getElem?_of_mem (List.mem_map.mpr ⟨(i, Value.int x), xat_mem hx, rfl⟩ : xl G (i, .int x) ∈ L.map (xl G))
  exact lv_iinc C.1 C.2.1 hd hl hz9 hv hn rfl (fun ls2 hl2 => k G p l e s m a b t c H o ls2 S C hG hH hz hP hS hs (xset_has (v := .int y) hl2))
theorem z_goto {off : Int} (hd : decode cc pc = .ok (.goto off, 3)) (tg : Nat) (ht : (pc : Int) + off = (tg : Int)) (k : zX own cc nL d tg L st n Z M u v kc sc n1 Z1 M1) : zX own cc nL d pc L st n Z M u v kc sc n1 Z1 M1 := by
  intro G p l e s m a b t c H o ls S C hG hH hz hP hS hs hl
  exact lv_goto C.1 C.2.1 hd ht (k G p l e s m a b t c H o ls S C hG hH hz hP hS hs hl)
theorem z_if_eq {x : Int32} {off : Int} (hd : decode cc pc = .ok (.ifCond .eq off, 3)) (tg q : Nat) (ht : (pc : Int) + off = (tg : Int)) (hq : pc + 3 = q) (kt : x = 0 → zX own cc nL d tg L st n Z M u v kc sc n1 Z1 M1) (kf : ¬ x = 0 → zX own cc nL d q L st n Z M u v kc sc n1 Z1 M1) : zX own cc nL d pc L (.int x :: st) n Z M u v kc sc n1 Z1 M1 := by
  subst hq
  intro G p l e s m a b t c H o ls S C hG hH hz hP hS hs hl
  exact lv_if_eq C.1 C.2.1 hd ht (fun h => kt h G p l e s m a b t c H o ls S C hG hH hz hP hS hs hl) (fun h => kf h G p l e s m a b t c H o ls S C hG hH hz hP hS hs hl)
theorem z_icmp_ge {x y : Int32} {off : Int} (hd : decode cc pc = .ok (.if_icmp .ge off, 3)) (tg q : Nat) (ht : (pc : Int) + off = (tg : Int)) (hq : pc + 3 = q) (kt : y ≤ x → zX own cc nL d tg L st n Z M u v kc sc n1 Z1 M1) (kf : ¬ y ≤ x → zX own cc nL d q L st n Z M u v kc sc n1 Z1 M1) : zX own cc nL d pc L (.int y :: .int x :: st) n Z M u v kc sc n1 Z1 M1 := by
  subst hq
  intro G p l e s m a b t c H o ls S C hG hH hz hP hS hs hl
  exact lv_icmp_ge C.1 C.2.1 hd ht (fun h => kt h G p l e s m a b t c H o ls S C hG hH hz hP hS hs hl) (fun h => kf h G p l e s m a b t c H o ls S C hG hH hz hP hS hs hl)
theorem z_newi {x : Int32} {N : Nat} (hd : decode cc pc = .ok (.newarray .int, 2)) (hk : SHk n = 13 ∧ SHn n = N) (hn : n < 192) (h0 : 0 < n) (hx : ¬ x < 0) (hN : x.toNatClampNeg = N) (hb : N ≤ 10000) (hu : u + 1 ≤ kc) (hv : v + N ≤ sc) (q : Nat) (hq : pc + 2 = q) (k : zX own cc nL d q L (.ref n :: st) (n + 1) Z (xuC M n (fun _ => 0)) (u + 1) (v + N) kc sc n1 Z1 M1) : zX own cc nL d pc L (.int x :: st) n Z M u v kc sc n1 Z1 M1 := by
  subst hq
  intro G p l e s m a b t c H o ls S C hG hH hz hP hS hs hl
  refine W.sz (fun hsz => ?_)
  have hHs := zsz hG h0 (by omega) hP hH hsz
  refine va_newaK (atype := .int) C.1 C.2.1 (C.2.2.2.2.2.1 _ kw1_136) rfl hd rfl hx hN (by show N * 4 ≤ _; omega) hu hv hHs (fun H1 cA e1 z1 o1 hAr hNm => ?_)
  have ecA : cA = G.2.1.1 := by
    have h1 : va_RA s (G.2.1.1) .int := (C.2.2.2.2.2.2.2.1.2 0 _ rfl).2
    exact Option.some.inj (hNm.symm.trans h1)
  subst ecA
  have en : S + n = xad G n := (hG n hn).symm
  have key := k G p l e s m a b t c H1 o ls S C hG (by omega) (zfr_up hz) (wz_push hG hn hP hHs o1 ?_) ⟨Nat.le_trans hS.1 (by omega), fun x h1 h2 => (o1 x (by have := Nat.lt_of_lt_of_le h1 hS.1; omega)).trans (hS.2.1 x h1 h2), hS.2.2⟩ hs hl
  · rw [show F0 m (pc + 2) ls (List.map (xc G) (Value.ref n :: st)) = F0 m (pc + 2) ls (.ref (S + n) :: st.map (xc G)) by rw [en]; rfl] at key
    exact key
  · rw [ze_i hk.1, hk.2]
    show H1[xad G n]? = some (vp_cell _ _)
    rw [← en, e1]
    rfl
theorem z_newb {x : Int32} {N : Nat} (hd : decode cc pc = .ok (.newarray .byte, 2)) (hk : SHk n = 14 ∧ SHn n = N) (hn : n < 192) (h0 : 0 < n) (hx : ¬ x < 0) (hN : x.toNatClampNeg = N) (hb : N ≤ 10000) (hu : u + 1 ≤ kc) (hv : v + N ≤ sc) (q : Nat) (hq : pc + 2 = q) (k : zX own cc nL d q L (.ref n :: st) (n + 1) Z (xuC M n (fun _ => 0)) (u + 1) (v + N) kc sc n1 Z1 M1) : zX own cc nL d pc L (.int x :: st) n Z M u v kc sc n1 Z1 M1 := by
  subst hq
  intro G p l e s m a b t c H o ls S C hG hH hz hP hS hs hl
  refine W.sz (fun hsz => ?_)
  have hHs := zsz hG h0 (by omega) hP hH hsz
  refine va_newaK (atype := .byte) C.1 C.2.1 (C.2.2.2.2.2.1 _ kw2_176) rfl hd rfl hx hN (by show N * 1 ≤ _; omega) hu hv hHs (fun H1 cA e1 z1 o1 hAr hNm => ?_)
  have ecA : cA = G.2.1.2.1 := by
    have h1 : va_RA s (G.2.1.2.1) .byte := (C.2.2.2.2.2.2.2.1.2 1 _ rfl).2
    exact Option.some.inj (hNm.symm.trans h1)
  subst ecA
  have en : S + n = xad G n := (hG n hn).symm
  have key := k G p l e s m a b t c H1 o ls S C hG (by omega) (zfr_up hz) (wz_push hG hn hP hHs o1 ?_) ⟨Nat.le_trans hS.1 (by omega), fun x h1 h2 => (o1 x (by have := Nat.lt_of_lt_of_le h1 hS.1; omega)).trans (hS.2.1 x h1 h2), hS.2.2⟩ hs hl
  · rw [show F0 m (pc + 2) ls (List.map (xc G) (Value.ref n :: st)) = F0 m (pc + 2) ls (.ref (S + n) :: st.map (xc G)) by rw [en]; rfl] at key
    exact key
  · rw [ze_b hk.1, hk.2]
    show H1[xad G n]? = some (vp_cell _ _)
    rw [← en, e1]
    rfl
theorem z_newq {x : Int32} {N ix : Nat} (hd : decode cc pc = .ok (.anewarray ix, 3)) (hk : SHk n = 15 ∧ SHn n = N) (hn : n < 192) (h0 : 0 < n) (hw : Cond.classLink own ix "PillarSaints$World" ∈ xTs) (hx : ¬ x < 0) (hN : x.toNatClampNeg = N) (hb : N ≤ 10000) (hu : u + 1 ≤ kc) (hv : v + N ≤ sc) (q : Nat) (hq : pc + 3 = q) (k : zX own cc nL d q L (.ref n :: st) (n + 1) Z (xuC M n (fun _ => 0)) (u + 1) (v + N) kc sc n1 Z1 M1) : zX own cc nL d pc L (.int x :: st) n Z M u v kc sc n1 Z1 M1 := by
  subst hq
  intro G p l e s m a b t c H o ls S C hG hH hz hP hS hs hl
  subst hN
  refine W.sz (fun hsz => ?_)
  have hHs := zsz hG h0 (by omega) hP hH hsz
  refine W.anew C.1 C.2.1 C.2.2.2.2.1 (C.2.2.2.2.2.1 _ hw) (va_AO.use C.2.2.2.2.2.2.2.2.2.2) rfl hd rfl hx (by omega) hu hv fun cA kA comp f1 f2 f3 f4 => ?_
  have ecA : cA = G.2.1.2.2 := by
    obtain ⟨-, -, -, -, -, h1⟩ : va_RA s (G.2.1.2.2) (.object "PillarSaints$World") := (C.2.2.2.2.2.2.2.1.2 2 _ rfl).2
    exact Option.some.inj (f1.symm.trans h1)
  subst ecA
  generalize hH1 : H.push ({ cls := G.2.1.2.2, slots := Array.replicate x.toNatClampNeg .null, vm := .none } : Cell) = H1
  have z1 : H1.size = H.size + 1 := by rw [← hH1, Array.size_push]
  have e1 : H1[H.size]? = some (arrV G.2.1.2.2 x.toNatClampNeg (fun _ => .null)) := by rw [← hH1, Array.getElem?_push_size, ← arrV_new]
  have o1 : ∀ q : Nat, q < S + n → H1[q]? = H[q]? := fun q hq => by rw [← hH1, Array.getElem?_push, if_neg (by omega)]
  have en : S + n = xad G n := (hG n hn).symm
  have key := k G p l e s m a b t c H1 o ls S C hG (by omega) (zfr_up hz) (wz_push hG hn hP hHs o1 ?_) ⟨Nat.le_trans hS.1 (by omega), fun x h1 h2 => (o1 x (by have := Nat.lt_of_lt_of_le h1 hS.1; omega)).trans (hS.2.1 x h1 h2), hS.2.2⟩ hs hl
  · rw [show F0 m (pc + 3) ls (List.map (xc G) (Value.ref n :: st)) = F0 m (pc + 3) ls (.ref H.size :: st.map (xc G)) by rw [hHs, en]; rfl] at key
    exact key
  · rw [ze_q hk.1, hk.2]
    show H1[xad G n]? = some (vp_cell _ _)
    rw [← en, ← hHs, e1]
    rfl
theorem z_new {ix ci N : Nat} {C0 : String} {T : u_T} (hd : decode cc pc = .ok (.new ix, 3)) (hk : SHk n = ci) (hci : ci < 13) (hNn : SHn n = N) (hn : n < 192) (h0 : 0 < n) (hc : vwCl[ci]? = some (C0, T, N)) (hin : ∀ w ∈ u_ws C0 T N, w ∈ xTs) (ty : Nat → FieldType) (hty : ∀ k, k < N → parseFieldDescriptor (T k).2.2.1 = some (ty k)) (hdf : ∀ (w : Value) (j : Nat), j < N → defaultValue (ty j) = (if xoff ci j = 0 then Value.int 0 else if false = true then w else Value.null)) (w1 : Cond.classLink own ix C0 ∈ xTs) (w2 : Cond.instantiable C0 N ∈ xTs) (w3 : Cond.initialized C0 ∈ xTs) (hu : u + 1 ≤ kc) (hv : v + N ≤ sc) (q : Nat) (hq : pc + 3 = q) (k : zX own cc nL d q L (.ref n :: st) (n + 1) Z (xuC M n (fun _ => 0)) (u + 1) (v + N) kc sc n1 Z1 M1) : zX own cc nL d pc L st n Z M u v kc sc n1 Z1 M1 := by
  subst hq
  intro G p l e s m a b t c H o ls S C hG hH hz hP hS hs hl
  have hKn := C.2.2.2.2.2.2.2.1.1 ci _ hc
  refine W.sz (fun hsz => ?_)
  have hHs := zsz hG h0 (by omega) hP hH hsz
  refine W.newcK C.1 C.2.1 C.2.2.2.2.1 (C.2.2.2.2.2.1 _ w1) (C.2.2.2.2.2.1 _ w2) (C.2.2.2.2.2.1 _ w3) rfl hd hu hv hKn.2.1 rfl fun H1 kC hkC e1 z1 o1 => ?_
  have en : S + n = xad G n := (hG n hn).symm
  have o2 : ∀ q : Nat, q < S + n → H1[q]? = H[q]? := fun q hq => o1 q (by omega)
  have key := k G p l e s m a b t c H1 o ls S C hG (by omega) (zfr_up hz) (wz_push hG hn hP hHs o2 ?_) ⟨Nat.le_trans hS.1 (by omega), fun x h1 h2 => (o2 x (by have := Nat.lt_of_lt_of_le h1 hS.1; omega)).trans (hS.2.1 x h1 h2), hS.2.2⟩ hs hl
  · rw [show F0 m (pc + 3) ls (List.map (xc G) (Value.ref n :: st)) = F0 m (pc + 3) ls (.ref H.size :: st.map (xc G)) by rw [hHs, en]; rfl] at key
    exact key
  · rw [ze_o hk hci, hNn]
    refine ⟨_, hc, ?_⟩
    rw [← en, ← hHs]
    refine (u_born ty C.2.2.2.2.2.1 hin hKn hkC e1 hty).to (fun j hj => ?_)
    show defaultValue (ty j) = vp_V _ j
    unfold vp_V
    rw [List.getD_eq_getElem?_getD, zf_get hj]
    simp only [zfv, hz n (Nat.le_refl _) j]
    exact hdf _ j hj
theorem z_putr {ix ci j x f N : Nat} {C0 ref : String} {T : u_T} {ty : FieldType} (hd : decode cc pc = .ok (.putfield ix, 3)) (hk : SHk x = ci) (hci : ci < 13) (hN : SHn x = N) (hx : x < n) (hn : n ≤ 192) (hc : vwCl[ci]? = some (C0, T, N)) (hj : j < N) (hin : ∀ w ∈ u_ws C0 T N, w ∈ xTs) (ty0 : Nat → FieldType) (hty : ∀ k, k < N → parseFieldDescriptor (T k).2.2.1 = some (ty0 k)) (hnm : ∀ a, a < N → ∀ b, b < N → a ≠ b → (T a).2.1 ≠ (T b).2.1) (hr : (T j).1 = ref) (hro : ref = own) (hw : Cond.fieldLink own ix ref (T j).2.1 (T j).2.2.1 ∈ xTs) (h0 : xoff ci j = f) (hf : 0 < f) (hfin : (T j).2.2.2 = true) (hdsc : parseFieldDescriptor (T j).2.2.1 = some ty) (hnar : ∀ q : Nat, narrow ty (.ref q) = .ref q) (hfit : ∀ q : Nat, fits ty (.ref q) = true) (q : Nat) (hq : pc + 3 = q) (k : zX own cc nL d q L st n (zu Z x j) M u v kc sc n1 Z1 M1) : zX own cc nL d pc L (.ref (x + f) :: .ref x :: st) n Z M u v kc sc n1 Z1 M1 := by
  subst hq
  intro G p l e s m a b t c H o ls S C hG hH hz hP hS hs hl
  have e0 := wz_get G n Z M hx
  rw [ze_o hk hci, hN] at e0
  refine va_putF C.1 C.2.1 C.2.2.2.2.2.1 hin ty0 hty hnm C.2.2.2.2.1 C.2.2.2.2.2.2.2.1 hP (wz_D hG hn Z M) hS x e0 hc j hj (C.2.2.2.2.2.1 _ hw) (fun _ h9 => hr ▸ h9) hfin C.2.2.2.2.2.2.2.2.1 (hr.trans hro) hdsc (hnar _) (hfit _) (by simp; exact hj) hd (fun H1 o1 hP1 _ hS1 => k G p l e s m a b t c H1 o1 ls S C hG hH (zfr_zu hz hx) ?_ hS1 hs hl)
  · have e2 : (wz G n Z M).set x (xad G x, .inr (ci, ((List.range N).map (zfv G Z x ci (M x))).set j (.ref (xad G (x + f))))) = wz G n (zu Z x j) M := by
      refine wz_ext hx ?_ (fun a _ ha => zent_other ha)
      rw [ze_o hk hci, hN]
      congr 2
      refine zf_set hj ?_ (fun i _ hi => ?_)
      · have : ¬ f = 0 := by omega
        simp [zfv, h0, this, zu]
      · simp [zfv, zu, hi]
    rw [← e2]
    exact hP1
theorem z_puti {ix ci j x N : Nat} {y : Int32} {C0 ref : String} {T : u_T} {ty : FieldType} (hd : decode cc pc = .ok (.putfield ix, 3)) (hk : SHk x = ci) (hci : ci < 13) (hN : SHn x = N) (hx : x < n) (hn : n ≤ 192) (hc : vwCl[ci]? = some (C0, T, N)) (hj : j < N) (hin : ∀ w ∈ u_ws C0 T N, w ∈ xTs) (ty0 : Nat → FieldType) (hty : ∀ k, k < N → parseFieldDescriptor (T k).2.2.1 = some (ty0 k)) (hnm : ∀ a, a < N → ∀ b, b < N → a ≠ b → (T a).2.1 ≠ (T b).2.1) (hr : (T j).1 = ref) (hw : Cond.fieldLink own ix ref (T j).2.1 (T j).2.2.1 ∈ xTs) (h0 : xoff ci j = 0) (hfin : (T j).2.2.2 = false) (hdsc : parseFieldDescriptor (T j).2.2.1 = some ty) (hnar : ∀ q : Int32, narrow ty (.int q) = .int q) (hfit : ∀ q : Int32, fits ty (.int q) = true) (q : Nat) (hq : pc + 3 = q) (k : zX own cc nL d q L st n Z (xu M x j y) u v kc sc n1 Z1 M1) : zX own cc nL d pc L (.int y :: .ref x :: st) n Z M u v kc sc n1 Z1 M1 := by
  subst hq
  intro G p l e s m a b t c H o ls S C hG hH hz hP hS hs hl
  have e0 := wz_get G n Z M hx
  rw [ze_o hk hci, hN] at e0
  refine va_put C.1 C.2.1 C.2.2.2.2.2.1 hin ty0 hty hnm C.2.2.2.2.1 C.2.2.2.2.2.2.2.1 hP (wz_D hG hn Z M) hS x e0 hc j hj (C.2.2.2.2.2.1 _ hw) (fun _ h9 => hr ▸ h9) hfin hdsc (hnar _) (hfit _) (by simp; exact hj) hd (fun H1 o1 hP1 _ hS1 => k G p l e s m a b t c H1 o1 ls S C hG hH hz ?_ hS1 hs hl)
  have e2 : (wz G n Z M).set x (xad G x, .inr (ci, ((List.range N).map (zfv G Z x ci (M x))).set j (.int y))) = wz G n Z (xu M x j y) := by
    refine wz_ext hx ?_ (fun a _ ha => by simp [xu, ha])
    rw [ze_o hk hci, hN]
    congr 2
    refine zf_set hj ?_ (fun i _ hi => ?_)
    · simp [zfv, h0, xu, upd]
    · simp [zfv, xu, upd, hi]
  rw [← e2]
  exact hP1
theorem z_getr {ix ci j x f N : Nat} {C0 ref : String} {T : u_T} (hd : decode cc pc = .ok (.getfield ix, 3)) (hk : SHk x = ci) (hci : ci < 13) (hN : SHn x = N) (hx : x < n) (hc : vwCl[ci]? = some (C0, T, N)) (hj : j < N) (hin : ∀ w ∈ u_ws C0 T N, w ∈ xTs) (hr : (T j).1 = ref) (hw : Cond.fieldLink own ix ref (T j).2.1 (T j).2.2.1 ∈ xTs) (h0 : xoff ci j = f) (hf : 0 < f) (hZ : Z x j = true) (q : Nat) (hq : pc + 3 = q) (k : zX own cc nL d q L (.ref (x + f) :: st) n Z M u v kc sc n1 Z1 M1) : zX own cc nL d pc L (.ref x :: st) n Z M u v kc sc n1 Z1 M1 := by
  subst hq
  intro G p l e s m a b t c H o ls S C hG hH hz hP hS hs hl
  have e0 := wz_get G n Z M hx
  rw [ze_o hk hci, hN] at e0
  refine va_get C.1 C.2.1 C.2.2.2.2.2.1 hin C.2.2.2.2.1 C.2.2.2.2.2.2.2.1 hP x e0 hc j hj (C.2.2.2.2.2.1 _ hw) (fun _ h9 => hr ▸ h9) (zf_get hj) hd ?_
  have ev : zfv G Z x ci (M x) j = xc G (.ref (x + f)) := by
    unfold zfv
    rw [h0, if_neg (by omega), if_pos hZ]
    rfl
  rw [ev]
  exact k G p l e s m a b t c H o ls S C hG hH hz hP hS hs hl
theorem z_iast {i y : Int32} {x N j : Nat} (hd : decode cc pc = .ok (.iastore, 1)) (hk : SHk x = 13 ∧ SHn x = N) (hx : x < n) (hn : n ≤ 192) (hin : vp_in i N) (hij : i.toNatClampNeg = j) (q : Nat) (hq : pc + 1 = q) (k : zX own cc nL d q L st n Z (xu M x j y) u v kc sc n1 Z1 M1) : zX own cc nL d pc L (.int y :: .int i :: .ref x :: st) n Z M u v kc sc n1 Z1 M1 := by
  subst hq
  intro G p l e s m a b t c H o ls S C hG hH hz hP hS hs hl
  subst hij
  have e0 := wz_get G n Z M hx
  rw [ze_i hk.1, hk.2] at e0
  refine va_iast C.1 C.2.1 C.2.2.2.2.2.2.2.1 hP (wz_D hG hn Z M) hS x 0 e0 rfl hin hd (fun H1 o1 hP1 _ hS1 => k G p l e s m a b t c H1 o1 ls S C hG hH hz ?_ hS1 hs hl)
  have e2 := wz_setM (G := G) (Z := Z) (M := M) (f := upd (M x) i.toNatClampNeg y) hx
  rw [ze_i hk.1, hk.2] at e2
  rw [e2] at hP1
  exact hP1
theorem z_aast {i : Int32} {x w N j : Nat} (hd : decode cc pc = .ok (.aastore, 1)) (hk : SHk x = 15 ∧ SHn x = N) (hw : SHk w = 9) (hx : x < n) (hwn : w < n) (hn : n ≤ 192) (hin : vp_in i N) (hij : i.toNatClampNeg = j) (q : Nat) (hq : pc + 1 = q) (k : zX own cc nL d q L st n Z (xu M x j (nI w)) u v kc sc n1 Z1 M1) : zX own cc nL d pc L (.ref w :: .int i :: .ref x :: st) n Z M u v kc sc n1 Z1 M1 := by
  subst hq
  intro G p l e s m a b t c H o ls S C hG hH hz hP hS hs hl
  subst hij
  have e0 := wz_get G n Z M hx
  rw [ze_q hk.1, hk.2] at e0
  have ew := wz_get G n Z M hwn
  rw [ze_o hw (by decide)] at ew
  refine va_astq C.1 C.2.1 C.2.2.2.2.2.2.2.1 hP (wz_D hG hn Z M) hS x 2 w 9 e0 rfl ew rfl hin hd (fun H1 o1 hP1 _ hS1 => k G p l e s m a b t c H1 o1 ls S C hG hH hz ?_ hS1 hs hl)
  have e2 := wz_setM (G := G) (Z := Z) (M := M) (f := upd (M x) i.toNatClampNeg (nI w)) hx
  rw [ze_q hk.1, hk.2] at e2
  have hw2 : (nI w).toNatClampNeg = w := nI_clamp (by omega)
  have hw3 : ¬ nI w = 0 := fun h => by rw [h] at hw2; rw [← hw2] at hw; exact absurd hw (by decide)
  have e3 : (fun j => if upd (M x) i.toNatClampNeg (nI w) j = 0 then none else some (xad G (upd (M x) i.toNatClampNeg (nI w) j).toNatClampNeg)) = va_up (fun j => if M x j = 0 then none else some (xad G (M x j).toNatClampNeg)) i.toNatClampNeg (some (xad G w)) := by
    funext j
    by_cases hj : j = i.toNatClampNeg
    · simp [upd, va_up, hj, hw2, hw3]
    · simp [upd, va_up, hj]
  rw [e3] at e2
  rw [e2] at hP1
  exact hP1
theorem z_obj {ix x : Nat} (hd : decode cc pc = .ok (.invokespecial ix, 3)) (w1 : Cond.methodLink own ix objectInit ∈ xTs) (w2 : Cond.instanceMethod objectInit ∈ xTs) (w3 : Cond.code objectInit ⟨#[0xb1]⟩ 1 none ∈ xTs) (hr : 0 < d) (hst : (st.map fun v => v.category).sum ≤ 8) (q : Nat) (hq : pc + 3 = q) (k : zX own cc nL d q L st n Z M u v kc sc n1 Z1 M1) : zX own cc nL d pc L (.ref x :: st) n Z M u v kc sc n1 Z1 M1 := by
  subst hq
  intro G p l e s m a b t c H o ls S C hG hH hz hP hS hs hl
  refine W.objInit C.1 C.2.1 C.2.2.2.2.1 (C.2.2.2.2.2.1 _ w1) (C.2.2.2.2.2.1 _ w2) (C.2.2.2.2.2.1 _ w3) rfl (by rw [C.2.2.1]; exact hl.1) rfl hd (by show 1 ≤ d; omega) ?_ (k G p l e s m a b t c H o ls S C hG hH hz hP hS hs hl)
  show 2 * 0 + ((st.map (xc G)).map fun v => v.category).sum + 12 ≤ 48 * d
  rw [xcat]
  omega
theorem z_call {ix nn maxL d2 x kc2 sc2 n2 : Nat} {Z2 : Nat → Nat → Bool} {M2 : Mem} {y : MethodName} {bytes : ByteArray} {As : List Value} (hd : decode cc pc = .ok (.invokespecial ix, 3)) (q : Nat) (hq : pc + 3 = q) (w1 : Cond.methodLink own ix y ∈ xTs) (w2 : Cond.instanceMethod y ∈ xTs) (w4 : Cond.initialized y.cls ∈ xTs) (w5 : Cond.code y bytes maxL none ∈ xTs) (hy : y.name = "<init>") (hdsc : y.cls ≠ "java/lang/invoke/MethodHandle" ∧ y.cls ≠ "java/lang/invoke/VarHandle" ∧ (parseMethodDescriptor y.desc).map (fun d => d.parameters.length) = some nn) (hlen : As.length = nn) (hr : d2 < d) (hm : maxL ≤ 29) (hst : (st.map fun v => v.category).sum ≤ 8) (Sk : List Value) (hSk : Sk = As.reverse ++ .ref x :: st) (h0 : 0 < n) (hn : n ≤ 192) (hu : u + kc2 ≤ kc) (hv : v + sc2 ≤ sc) (hn2 : n2 = n + kc2) (hM : zM y bytes maxL d2 (.ref x :: As) n Z M kc2 sc2 n2 Z2 M2) (k : zX own cc nL d q L st n2 Z2 M2 (u + kc2) (v + sc2) kc sc n1 Z1 M1) : zX own cc nL d pc L Sk n Z M u v kc sc n1 Z1 M1 := by
  subst hq
  subst hSk
  intro G p l e s m a b t c H o ls S C hG hH hz hP hS hs hl
  have hstk : (As.reverse ++ .ref x :: st).map (xc G) = (As.map (xc G)).reverse ++ .ref (xad G x) :: st.map (xc G) := by simp [List.map_append, List.map_reverse, xc]
  rw [hstk]
  refine W.sz (fun hsz => ?_)
  have hHs := zsz hG h0 hn hP hH hsz
  refine va_callv (va_runI (As := As.map (xc G)) (rest := st.map (xc G)) (b := xad G x) ⟨C.1, C.2.1, C.2.2.1, C.2.2.2.2.1, C.2.2.2.2.2.1⟩ (hM S G l hG hz) ⟨callB_of nn C.2.2.2.2.2.1 (xG_ws (x := y) (cx := cc) (nx := 0) (rx := none) w5) rfl rfl rfl (C.2.2.2.2.2.1 _ w4) (C.2.2.2.2.2.1 _ w1) hdsc ⟨hr, by show 8 + (maxL + 11) + 48 * d2 ≤ 48 * d; omega⟩, hy, C.2.2.2.2.2.1 _ w2⟩ ⟨zPc_blind S G _ n Z M, fun U hU hW => ⟨rfl, by rw [hU]; exact hHs, by rw [hU]; exact hP, va_K.moved hW.alike C.2.2.2.2.2.2.2.1, xN_go hW C.2.2.2.2.2.2.2.2.2.1, va_AO.moved hW.alike C.2.2.2.2.2.2.2.2.2.2⟩⟩ rfl (by rw [List.length_map]; exact hlen) hl.1 rfl (lv_room (by rw [xcat]; exact hst)) hd ⟨hu, hv⟩) hS (fun _ _ h => h) (fun _ h => h) (fun u2 t2 H1 o1 ht hvm hpo hB hz1 hk1 hS1 => ?_)
  obtain ⟨hz2, hP2⟩ := hB
  rw [ht] at hP2
  exact k G p l e s m a b t c H1 o1 ls S C hG (by omega) hz2 hP2 hS1 hs hl
theorem z_callN {ix nn maxL d2 x kc2 sc2 n2 : Nat} {Z2 : Nat → Nat → Bool} {M2 : Mem} {y : MethodName} {bytes : ByteArray} {As : List Value} (hd : decode cc pc = .ok (.invokespecial ix, 3)) (q : Nat) (hq : pc + 3 = q) (w1 : Cond.methodLinkNest own ix y "PillarSaints" ∈ tables_1) (w2 : Cond.instanceMethod y ∈ xTs) (w4 : Cond.initialized y.cls ∈ xTs) (w5 : Cond.code y bytes maxL none ∈ xTs) (hy : y.name = "<init>") (hdsc : y.cls ≠ "java/lang/invoke/MethodHandle" ∧ y.cls ≠ "java/lang/invoke/VarHandle" ∧ (parseMethodDescriptor y.desc).map (fun d => d.parameters.length) = some nn) (hlen : As.length = nn) (hr : d2 < d) (hm : maxL ≤ 29) (hst : (st.map fun v => v.category).sum ≤ 8) (Sk : List Value) (hSk : Sk = As.reverse ++ .ref x :: st) (h0 : 0 < n) (hn : n ≤ 192) (hu : u + kc2 ≤ kc) (hv : v + sc2 ≤ sc) (hn2 : n2 = n + kc2) (hM : zM y bytes maxL d2 (.ref x :: As) n Z M kc2 sc2 n2 Z2 M2) (k : zX own cc nL d q L st n2 Z2 M2 (u + kc2) (v + sc2) kc sc n1 Z1 M1) : zX own cc nL d pc L Sk n Z M u v kc sc n1 Z1 M1 := by
  subst hq
  subst hSk
  intro G p l e s m a b t c H o ls S C hG hH hz hP hS hs hl
  have hstk : (As.reverse ++ .ref x :: st).map (xc G) = (As.map (xc G)).reverse ++ .ref (xad G x) :: st.map (xc G) := by simp [List.map_append, List.map_reverse, xc]
  rw [hstk]
  refine W.sz (fun hsz => ?_)
  have hHs := zsz hG h0 hn hP hH hsz
  refine va_callv (va_runIN (As := As.map (xc G)) (rest := st.map (xc G)) (b := xad G x) ⟨C.1, C.2.1, C.2.2.1, C.2.2.2.2.1, C.2.2.2.2.2.1⟩ (hM S G l hG hz) ⟨va_cnB nn C.2.2.2.2.2.1 (xG_ws (x := y) (cx := cc) (nx := 0) (rx := none) w5) rfl rfl rfl (C.2.2.2.2.2.2.2.2.2.1 _ _ _ _ w1) (C.2.2.2.2.2.1 _ w4) hdsc ⟨hr, by show 8 + (maxL + 11) + 48 * d2 ≤ 48 * d; omega⟩, hy, C.2.2.2.2.2.1 _ w2⟩ ⟨zPc_blind S G _ n Z M, fun U hU hW => ⟨rfl, by rw [hU]; exact hHs, by rw [hU]; exact hP, va_K.moved hW.alike C.2.2.2.2.2.2.2.1, xN_go hW C.2.2.2.2.2.2.2.2.2.1, va_AO.moved hW.alike C.2.2.2.2.2.2.2.2.2.2⟩⟩ rfl (by rw [List.length_map]; exact hlen) hl.1 rfl (lv_room (by rw [xcat]; exact hst)) hd ⟨hu, hv⟩) hS (fun _ _ h => h) (fun _ h => h) (fun u2 t2 H1 o1 ht hvm hpo hB hz1 hk1 hS1 => ?_)
  obtain ⟨hz2, hP2⟩ := hB
  rw [ht] at hP2
  exact k G p l e s m a b t c H1 o1 ls S C hG (by omega) hz2 hP2 hS1 hs hl
theorem z_ret (hd : decode cc pc = .ok (.return_, 1)) (hn : n = n1) (hZ : Z = Z1) (hM : M = M1) (hu : u = kc) (hv : v = sc) : zX own cc nL d pc L [] n Z M u v kc sc n1 Z1 M1 := by
  subst hn; subst hZ; subst hM; subst hu; subst hv
  intro G p l e s m a b t c H o ls S C hG hH hz hP hS hs hl
  exact W.vret C.1 C.2.1 C.2.2.2.1 (fun w hw hW => ⟨⟨(), rfl, trivial, hz, by show va_P _ _ _ _; rw [hw]; exact hP⟩, hS.F hw⟩) hS.2.2 hd C.2.2.2.2.2.2.1
/-- Arrays.fill over one cell -/
theorem z_fillM (l : Launch) (D : va_G) (cA : ClassId) (a N : Nat) (hN : N < 2 ^ 31) (f : Nat → Int32) (x : Int32) : Met l yJ7_fill_53178 (.code yJ7_fill_53178 cJ7_fill_53178 4 none :: xTs) (xR 1) (va_Pc [.ref a, .int x] (fun U => va_P D vwCl [(a, .inl (cA, N, .inl f))] U.heap ∧ va_K D vwCl [(cA, .int)] U)) (va_Qv (fun _ : Unit => True) (fun _ t => va_P D vwCl [(a, .inl (cA, N, .inl (fun j => if j < N then x else f j)))] t.heap) (fun q => q = a)) 0 0 (fun q => q = a) := by
  refine va_MetF (cc := cJ7_fill_53178) (maxL := 4) (ret := none) (by decide +kernel) rfl ?_
  intro p e s m args below meth c s₁ B hml hv
  obtain ⟨rfl, hP, hK⟩ := hv
  have hx := B.exec
  have hb := B.bytes
  have hr := B.returns
  have hlocks := B.notSynchronized
  have hD : ∀ g : Nat → Int32, va_D (fun q => q = a) [(a, .inl (cA, N, .inl g))] := fun g => by
    refine ⟨fun i j p q hi hj _ => ?_, fun k q hk => ?_⟩
    · have h1 := (List.getElem?_eq_some_iff.mp hi).1
      have h2 := (List.getElem?_eq_some_iff.mp hj).1
      simp at h1 h2
      omega
    · have h1 := (List.getElem?_eq_some_iff.mp hk).1
      simp at h1
      subst h1
      simp at hk
      rw [← hk]
  have hS : va_S (fun q => q = a) s.heap s.heap [] := va_S.rf
  have hl := lv_entry ([.ref a, .int x]) (n := 4) (Nat.le_of_ble_eq_true rfl)
  rw [lg_entry_eq]
  generalize (lg_sl ([.ref a, .int x]) ++ List.replicate (4 - (lg_sl ([.ref a, .int x])).length) Slot.unset).toArray = ls at hl ⊢
  have hl : lv_has ls 4 [(0, .ref a), (1, .int x)] := hl
  refine lv_iconst (v := 0) hx hb dJ7_fill_53178_0 (by decide) ?_
  refine lv_istore_n hx hb dJ7_fill_53178_1 rfl hl (by decide) rfl (fun ls hl => ?_)
  have hl : lv_has ls 4 [(2, .int 0), (0, .ref a), (1, .int x)] := hl
  refine lv_aload_n hx hb dJ7_fill_53178_2 rfl (lv_at hl 1 rfl) ?_
  refine va_alen hx hb hK hP 0 0 rfl rfl rfl dJ7_fill_53178_3 ?_
  refine lv_istore_n hx hb dJ7_fill_53178_4 rfl hl (by decide) rfl (fun ls hl => ?_)
  have hl : lv_has ls 4 [(3, .int (nI N)), (2, .int (nI 0)), (0, .ref a), (1, .int x)] := hl
  have loop : ∀ (r i : Nat) (g : Nat → Int32) (H : Heap) (o : List Loc) (ls : Array Slot), i + r = N → (∀ j, g j = if j < i then x else f j) → va_P D vwCl [(a, .inl (cA, N, .inl g))] H → va_S (fun q => q = a) s.heap H o → lv_has ls 4 [(0, .ref a), (1, .int x), (2, .int (nI i)), (3, .int (nI N))] →
      W p l e (xR 1) s m #[.ref a, .int x] below meth c H o 0 0 (MQ below (va_Qv (fun _ : Unit => True) (fun _ t => va_P D vwCl [(a, .inl (cA, N, .inl (fun j => if j < N then x else f j)))] t.heap) (fun q => q = a)) #[.ref a, .int x] s 0 0 (fun q => q = a)) (F0 m 5 ls []) := by
    intro r
    induction r with
    | zero =>
      intro i g H o ls hi hg hP hS hl
      have hi : i = N := by omega
      subst hi
      refine lv_iload_n hx hb dJ7_fill_53178_5 rfl (lv_at hl 2 rfl) ?_
      refine lv_iload_n hx hb dJ7_fill_53178_6 rfl (lv_at hl 3 rfl) ?_
      refine lv_icmp_ge hx hb dJ7_fill_53178_7 (tgt := 20) rfl (fun _ => ?_) (fun h => absurd (nI_le (Nat.le_refl i) hN) h)
      have e : g = fun j => if j < i then x else f j := funext hg
      exact W.vret hx hb hr (fun t ht hW => ⟨⟨(), rfl, trivial, by show va_P _ _ _ _; rw [ht, ← e]; exact hP⟩, hS.F ht⟩) hS.2.2 dJ7_fill_53178_20
    | succ r ih =>
      intro i g H o ls hi hg hP hS hl
      refine lv_iload_n hx hb dJ7_fill_53178_5 rfl (lv_at hl 2 rfl) ?_
      refine lv_iload_n hx hb dJ7_fill_53178_6 rfl (lv_at hl 3 rfl) ?_
      refine lv_icmp_ge hx hb dJ7_fill_53178_7 (tgt := 20) rfl (fun h => absurd h (nI_ge (by omega) hN)) (fun _ => ?_)
      refine lv_aload_n hx hb dJ7_fill_53178_10 rfl (lv_at hl 0 rfl) ?_
      refine lv_iload_n hx hb dJ7_fill_53178_11 rfl (lv_at hl 2 rfl) ?_
      refine lv_iload_n hx hb dJ7_fill_53178_12 rfl (lv_at hl 1 rfl) ?_
      refine va_iast hx hb hK hP (hD g) hS 0 0 rfl rfl (vp_in_nI (by omega) hN) dJ7_fill_53178_13 (fun H1 o1 hP1 _ hS1 => ?_)
      refine lv_iinc (k := 2) hx hb dJ7_fill_53178_14 hl rfl rfl (by decide) rfl (fun ls hl => ?_)
      have hl : lv_has ls 4 [(2, .int (nI i + Int32.ofInt 1)), (0, .ref a), (1, .int x), (3, .int (nI N))] := hl
      have e1 : nI i + Int32.ofInt 1 = nI (i + 1) := by rw [nI_succ]; rfl
      rw [e1] at hl
      refine lv_goto hx hb dJ7_fill_53178_17 (tgt := 5) rfl ?_
      refine ih (i + 1) (upd g (nI i).toNatClampNeg x) H1 o1 ls (by omega) (fun j => ?_) hP1 hS1 (lv_weak hl (fun q hq => ?_))
      · rw [nI_clamp (by omega)]
        by_cases e : j = i
        · subst e
          simp [upd]
        · have e2 : (j < i + 1) = (j < i) := by
            apply propext
            omega
          simp [upd, e, hg j, e2]
      · simp only [List.mem_cons, List.not_mem_nil, or_false] at hq ⊢
        rcases hq with h | h | h | h
        · exact Or.inr (Or.inl h)
        · exact Or.inr (Or.inr (Or.inl h))
        · exact Or.inl h
        · exact Or.inr (Or.inr (Or.inr h))
  refine loop N 0 f s.heap [] ls (by omega) (fun j => by simp) hP hS (lv_weak hl (fun q hq => ?_))
  simp only [List.mem_cons, List.not_mem_nil, or_false] at hq ⊢
  rcases hq with h | h | h | h
  · exact Or.inr (Or.inr (Or.inl h))
  · exact Or.inr (Or.inr (Or.inr h))
  · exact Or.inr (Or.inl h)
  · exact Or.inl h
theorem z_fill {ix x N : Nat} {y : Int32} (hd : decode cc pc = .ok (.invokestatic ix, 3)) (w1 : Cond.methodLink own ix yJ7_fill_53178 ∈ xTs) (w2 : Cond.static yJ7_fill_53178 ∈ xTs) (w4 : Cond.initialized "java/util/Arrays" ∈ xTs) (w5 : Cond.code yJ7_fill_53178 cJ7_fill_53178 4 none ∈ xTs) (hk : SHk x = 13 ∧ SHn x = N) (hx : x < n) (hn : n ≤ 192) (hNb : N ≤ 10000) (hr : 1 < d) (hst : (st.map fun v => v.category).sum ≤ 8) (huc : u ≤ kc) (hvc : v ≤ sc) (q : Nat) (hq : pc + 3 = q) (k : zX own cc nL d q L st n Z (xuC M x (fun j => if j < N then y else M x j)) u v kc sc n1 Z1 M1) : zX own cc nL d pc L (.int y :: .ref x :: st) n Z M u v kc sc n1 Z1 M1 := by
  subst hq
  intro G p l e s m a b t c H o ls S C hG hH hz hP hS hs hl
  have e0 := wz_get G n Z M hx
  rw [ze_i hk.1, hk.2] at e0
  have hPa : va_P G.1 vwCl [(xad G x, .inl (G.2.1.1, N, .inl (M x)))] H := by
    intro k q hq
    have h1 := (List.getElem?_eq_some_iff.mp hq).1
    simp at h1
    subst h1
    simp at hq
    rw [← hq]
    exact hP x _ e0
  have hKa : ∀ U : State, s.WarmedH U.vm → va_K G.1 vwCl [(G.2.1.1, .int)] U := fun U hW => va_K.moved hW.alike (C.2.2.2.2.2.2.2.1.sub [0] rfl)
  have hxS : S ≤ xad G x := by rw [hG x (by omega)]; omega
  refine va_callv (va_runS (As := [.ref (xad G x), .int y]) (rest := st.map (xc G)) ⟨C.1, C.2.1, C.2.2.1, C.2.2.2.2.1, C.2.2.2.2.2.1⟩ (z_fillM l G.1 G.2.1.1 (xad G x) N (by omega) (M x) y) ⟨callB_of 2 C.2.2.2.2.2.1 (xG_ws (x := yJ7_fill_53178) (cx := cc) (nx := 0) (rx := none) w5) rfl rfl rfl (C.2.2.2.2.2.1 _ w4) (C.2.2.2.2.2.1 _ w1) (by decide +kernel) ⟨hr, by show 8 + (4 + 11) + 48 * 1 ≤ 48 * d; omega⟩, C.2.2.2.2.2.1 _ w2⟩ ⟨fun a U g mk h => ?_, fun U hU hW => ⟨rfl, by rw [hU]; exact hPa, hKa U hW⟩⟩ rfl rfl hl.1 rfl (lv_room (by rw [xcat]; exact hst)) hd ⟨Nat.le_trans (Nat.le_of_eq (Nat.add_zero _)) huc, Nat.le_trans (Nat.le_of_eq (Nat.add_zero _)) hvc⟩) hS (fun q _ h => by rw [h]; exact hxS) (fun q h => by rw [h]; exact hxS) (fun u2 t2 H1 o1 ht hvm hpo hB hz1 hk1 hS1 => ?_)
  · obtain ⟨h0, h1, h2⟩ := h
    exact ⟨h0, h1, va_K.moved (u := U) (U := U.calling g mk a) (Vm.Alike.refl U.vm) h2⟩
  · rw [ht] at hB
    refine k G p l e s m a b t c H1 o1 ls S C hG hH hz ?_ hS1 hs hl
    intro k q hq
    obtain ⟨h1, rfl⟩ := wz_key G n Z _ hq
    by_cases ek : k = x
    · subst ek
      have h2 := hB 0 _ rfl
      simp only [xuC, if_true]
      rw [ze_i hk.1, hk.2]
      exact h2
    · have h2 := hP k _ (wz_get G n Z M h1)
      have e3 : xuC M x (fun j => if j < N then y else M x j) k = M k := by simp [xuC, ek]
      rw [e3]
      refine h2.kept (hk1 _ h2.lt ?_)
      show ¬ xad G k = xad G x
      rw [hG k (by omega), hG x (by omega)]
      omega
end ZR
