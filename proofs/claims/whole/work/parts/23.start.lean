theorem kt_over : (Jvm.Cond.arrayOver (Jvm.ClassFile.FieldType.object "PillarSaints$World")) ∈ lw_tbl := xt_tbl (by unfold tables_1; exact List.mem_append_right _ (List.mem_append_left _ (xnth_mem 43 rfl)))
theorem kt_s0 : (Jvm.Cond.stringRef "PillarSaints$Reader" (105 : Nat) "eats dies leans when or and not age faith doctrine hunger place tall weather above day ") ∈ lw_tbl := xt_tbl (by unfold tables_1; exact List.mem_append_right _ (List.mem_append_right _ (List.mem_append_left _ (xnth_mem 197 rfl))))
theorem kt_s1 : (Jvm.Cond.stringRef "PillarSaints$Reader" (107 : Nat) "day is ") ∈ lw_tbl := xt_tbl (by unfold tables_1; exact List.mem_append_right _ (List.mem_append_right _ (List.mem_append_left _ (xnth_mem 198 rfl))))
theorem kt_s2 : (Jvm.Cond.stringRef "PillarSaints$Reader" (109 : Nat) "on loaves say down build curse ") ∈ lw_tbl := xt_tbl (by unfold tables_1; exact List.mem_append_right _ (List.mem_append_right _ (List.mem_append_left _ (xnth_mem 199 rfl))))
theorem kt_s3 : (Jvm.Cond.stringRef "PillarSaints$Reader" (111 : Nat) "and so ") ∈ lw_tbl := xt_tbl (by unfold tables_1; exact List.mem_append_right _ (List.mem_append_right _ (List.mem_append_left _ (xnth_mem 200 rfl))))
theorem kt_cs : (Jvm.Cond.laysStatic "java/lang/String" "COMPACT_STRINGS" "Z") ∈ lw_tbl := xt_tbl (by unfold tables_1; exact List.mem_append_right _ (List.mem_append_right _ (List.mem_append_left _ (xnth_mem 230 rfl))))
theorem kt_fm : (Jvm.Cond.laysStatic "jdk/internal/util/Preconditions" "SIOOBE_FORMATTER" "Ljava/util/function/BiFunction;") ∈ lw_tbl := xt_tbl (by unfold tables_1; exact List.mem_append_right _ (List.mem_append_right _ (List.mem_append_right _ (List.mem_append_left _ (xnth_mem 6 rfl)))))
def sTm (i : Nat) : Term := .string "PillarSaints$Reader" (105 + 2 * i)
theorem start_str {s : State} {b : Nat} (hgv : (Jvm.Cond.and given_1 narrow_1).before #[Value.ref b] s = true) {A : Nat → Prop} (hA : ∀ a : Nat, a < s.heap.size → ¬ A a) : ∃ adK adV : Nat → Nat, vk_S 4 xSL xSB adK adV A s s.heap ∧ ∀ i : Nat, i < 4 → (sTm i).eval #[Value.ref b] s none [] s = some (.ref (adK i)) := by
  have hs := flat_of_before _ hgv
  refine vk_Sof (args := #[Value.ref b]) (tm := sTm) (by decide) (fun i hi => hs _ ?_) (fun i hi => hs _ ?_) (fun i hi => hs _ ?_) (fun i hi => hs _ ?_) (fun i hi j hj => hs _ ?_) (fun i j hi hj hne => ?_) hA
  · have : ∀ i, i < 4 → Cond.exactly (sTm i) "java/lang/String" ∈ flatC (Jvm.Cond.and given_1 narrow_1) := by decide +kernel
    exact this i hi
  · have : ∀ i, i < 4 → Cond.eq (.field (sTm i) "java/lang/String" "coder" "B") (.int 0) ∈ flatC (Jvm.Cond.and given_1 narrow_1) := by decide +kernel
    exact this i hi
  · have : ∀ i, i < 4 → Cond.arrayOf (.field (sTm i) "java/lang/String" "value" "[B") .byte ∈ flatC (Jvm.Cond.and given_1 narrow_1) := by decide +kernel
    exact this i hi
  · have : ∀ i, i < 4 → Cond.eq (.length (.field (sTm i) "java/lang/String" "value" "[B")) (.int (Int32.ofNat (xSL.getD i 0))) ∈ flatC (Jvm.Cond.and given_1 narrow_1) := by decide +kernel
    exact this i hi
  · have : ∀ i, i < 4 → ∀ j, j < xSL.getD i 0 → Cond.eq (.elem (.field (sTm i) "java/lang/String" "value" "[B") (.int (Int32.ofNat j))) (.int ((xSB.getD i []).getD j 0)) ∈ flatC (Jvm.Cond.and given_1 narrow_1) := by decide +kernel
    exact this i hi j hj
  · have : ∀ i, i < 4 → ∀ j, j < 4 → i ≠ j → Cond.not (Cond.eq (sTm i) (sTm j)) ∈ flatC (Jvm.Cond.and given_1 narrow_1) ∨ Cond.not (Cond.eq (sTm j) (sTm i)) ∈ flatC (Jvm.Cond.and given_1 narrow_1) := by decide +kernel
    rcases this i hi j hj hne with h | h
    · exact Or.inl (hs _ h)
    · exact Or.inr (hs _ h)
theorem start_cls {s : State} {b : Nat} (ht : ∀ w ∈ xTs, w.before #[Value.ref b] s = true) : ∃ (dC : Nat → ClassId) (dI : Nat → Nat → Nat), ∀ (k : Nat) (q : vw_C), vwCl[k]? = some q → u_Kn s q.1 q.2.1 q.2.2 (dC k) (dI k) := by
  have h0 : ∀ k : Nat, ∃ x : ClassId × (Nat → Nat), ∀ q : vw_C, vwCl[k]? = some q → u_Kn s q.1 q.2.1 q.2.2 x.1 x.2 := by
    intro k
    match k with
    | 0 => exact let ⟨a, b, h⟩ := u_known (C := RX0) (T := TX0) (N := 6) (n := 6) ht kf0 (ht _ kw1_31); ⟨(a, b), fun q hq => by cases hq; exact h⟩
    | 1 => exact let ⟨a, b, h⟩ := u_known (C := RX1) (T := TX1) (N := 2) (n := 2) ht kf1 (ht _ kw2_134); ⟨(a, b), fun q hq => by cases hq; exact h⟩
    | 2 => exact let ⟨a, b, h⟩ := u_known (C := RX2) (T := TX2) (N := 8) (n := 8) ht kf2 (ht _ kw1_138); ⟨(a, b), fun q hq => by cases hq; exact h⟩
    | 3 => exact let ⟨a, b, h⟩ := u_known (C := RX3) (T := TX3) (N := 2) (n := 2) ht kf3 (ht _ kw2_37); ⟨(a, b), fun q hq => by cases hq; exact h⟩
    | 4 => exact let ⟨a, b, h⟩ := u_known (C := RX4) (T := TX4) (N := 5) (n := 5) ht kf4 (ht _ kw1_188); ⟨(a, b), fun q hq => by cases hq; exact h⟩
    | 5 => exact let ⟨a, b, h⟩ := u_known (C := RX5) (T := TX5) (N := 12) (n := 12) ht kf5 (ht _ kw2_54); ⟨(a, b), fun q hq => by cases hq; exact h⟩
    | 6 => exact let ⟨a, b, h⟩ := u_known (C := RX6) (T := TX6) (N := 3) (n := 3) ht kf6 (ht _ kw1_170); ⟨(a, b), fun q hq => by cases hq; exact h⟩
    | 7 => exact let ⟨a, b, h⟩ := u_known (C := RX7) (T := TX7) (N := 3) (n := 3) ht kf7 (ht _ kw1_212); ⟨(a, b), fun q hq => by cases hq; exact h⟩
    | 8 => exact let ⟨a, b, h⟩ := u_known (C := RX8) (T := TX8) (N := 4) (n := 4) ht kf8 (ht _ kw2_68); ⟨(a, b), fun q hq => by cases hq; exact h⟩
    | 9 => exact let ⟨a, b, h⟩ := u_known (C := RX9) (T := TX9) (N := 19) (n := 19) ht kf9 (ht _ kw1_37); ⟨(a, b), fun q hq => by cases hq; exact h⟩
    | 10 => exact let ⟨a, b, h⟩ := u_known (C := RX10) (T := TX10) (N := 4) (n := 4) ht kf10 (ht _ kw1_230); ⟨(a, b), fun q hq => by cases hq; exact h⟩
    | 11 => exact let ⟨a, b, h⟩ := u_known (C := RX11) (T := TX11) (N := 9) (n := 9) ht kf11 (ht _ kw1_23); ⟨(a, b), fun q hq => by cases hq; exact h⟩
    | 12 => exact let ⟨a, b, h⟩ := u_known (C := RX12) (T := TX12) (N := 50) (n := 50) ht kf12 (ht _ kw5_154); ⟨(a, b), fun q hq => by cases hq; exact h⟩
    | k + 13 => exact ⟨(0, fun _ => 0), fun q hq => by simp [vwCl] at hq⟩
  obtain ⟨f, hf⟩ := Classical.axiomOfChoice h0
  exact ⟨fun k => (f k).1, fun k => (f k).2, hf⟩
theorem wz_xw {G : xGt} {Z : Nat → Nat → Bool} {M : Mem} (h : ∀ c, c < 192 → ∀ j, j < SHn c → SHk c < 13 → xoff (SHk c) j ≠ 0 → Z c j = true) : wz G 192 Z M = xw G M := by
  unfold wz xw
  show (List.range 192).map _ = (List.range 192).map _
  apply List.map_congr_left
  intro c hc
  have hc := List.mem_range.mp hc
  congr 1
  by_cases h1 : SHk c < 13
  · rw [ze_o rfl h1, xe_o rfl h1]
    congr 2
    apply List.map_congr_left
    intro j hj
    have hj := List.mem_range.mp hj
    unfold zfv xfv
    by_cases h2 : xoff (SHk c) j = 0
    · rw [if_pos h2, if_pos h2]
    · rw [if_neg h2, if_neg h2, if_pos (h c hc j hj h1 h2)]
  · simp only [zent, xent]
    have h3 : SHk c = 13 ∨ SHk c = 14 ∨ SHk c = 15 := by
      have : ∀ c, c < 192 → ¬ SHk c < 13 → SHk c = 13 ∨ SHk c = 14 ∨ SHk c = 15 := by decide +kernel
      exact this c hc h1
    rcases h3 with h3 | h3 | h3 <;> simp [h3]
def xM00 : Mem := fun _ _ => 0
def xZ00 : Nat → Nat → Bool := fun _ _ => false
def xM1 : Mem := zM_X11 0 (xuC xM00 0 (fun _ => 0))
def xZ1 : Nat → Nat → Bool := zZ_X11 0 xZ00
/-- the memory behind both constructors -/
def xM0 : Mem := zM_X12 166 (xuC xM1 166 (fun _ => 0))
def xZ0 : Nat → Nat → Bool := zZ_X12 166 xZ1
theorem xZ0_all : ∀ c, c < 192 → ∀ j, j < SHn c → SHk c < 13 → xoff (SHk c) j ≠ 0 → xZ0 c j = true := by decide +kernel
set_option maxHeartbeats 4000000 in
theorem whole_of {Inv : Mem → Prop} (hq : lqAll Inv) (hI : Inv xM0) {p : Program} {e : Env} {s : State} {m : MethodId} {below : List Frame} {meth : Method} {c : Code} (l : Launch) {b L : Nat} {xs : Nat → Int32} (hL : L ≤ 3072) (C0 : lw_At p s m meth c b L xs) : W p l e room_1 s m #[Value.ref b] below meth c s.heap [] 0 0 (lw_Z below #[Value.ref b] s) (entryFrame m ([Value.ref b] : List Value).toArray 4) := by
  obtain ⟨hx, hb, hr, hml, hown, hts, hX, hbl, hlocks, hgv⟩ := id C0
  have hown : s.vm.findClass RL = some m.cls := hown
  have ht : ∀ w ∈ xTs, w.before #[Value.ref b] s = true := fun w h => hts w (xTs_tb h)
  have hA : ∀ a : Nat, a < s.heap.size → ¬ (fun q : Nat => s.heap.size ≤ q) a := fun a h => Nat.not_le.mpr h
  obtain ⟨dC, dI, hKc⟩ := start_cls ht
  obtain ⟨cI, kI, pI, fI, gI, tI⟩ := Cond.arrayClass_spec (ht _ kw1_136)
  obtain ⟨cB, kB, pB, fB, gB, tB⟩ := Cond.arrayClass_spec (ht _ kw2_176)
  have hover : va_AO "PillarSaints$World" s := va_AO.of (hts _ kt_over)
  obtain ⟨pO, cO, kO, fO, -, gO, tO, nO⟩ := Cond.arrayOver_spec hover
  obtain ⟨adK, adV, hStr, hEv⟩ := start_str hgv hA
  have hs := flat_of_before _ hgv
  have hCS : va_Z "java/lang/String" "COMPACT_STRINGS" "Z" (.int 1) (fun q : Nat => s.heap.size ≤ q) s s.heap := va_Zof (hts _ kt_cs) (ht _ kw1_17) (va_eqi (hs _ (by decide +kernel))) hA
  have hFm : va_Zq "jdk/internal/util/Preconditions" "SIOOBE_FORMATTER" "Ljava/util/function/BiFunction;" (fun q : Nat => s.heap.size ≤ q) s s.heap := va_Zqof (hts _ kt_fm) (ht _ kw1_19) (hs _ (by decide +kernel)) hA
  obtain ⟨tf, hFm2⟩ : ∃ tf : Nat, va_Z "jdk/internal/util/Preconditions" "SIOOBE_FORMATTER" "Ljava/util/function/BiFunction;" .null (fun q : Nat => s.heap.size ≤ q) s s.heap ∨ va_Z "jdk/internal/util/Preconditions" "SIOOBE_FORMATTER" "Ljava/util/function/BiFunction;" (.ref tf) (fun q : Nat => s.heap.size ≤ q) s s.heap := by
    rcases hFm with h | ⟨t, h⟩
    · exact ⟨0, Or.inl h⟩
    · exact ⟨t, Or.inr h⟩
  obtain ⟨G, hG1, hG2, hGad⟩ : ∃ G : xGt, G.1 = (dC, dI) ∧ G.2.1 = (cI, cB, cO) ∧ ∀ c, xad G c = if c < 192 then s.heap.size + c else if c < 1004 then adK (c - 1000) else if c < 2004 then adV (c - 2000) else if c = 3000 then tf else b := ⟨((dC, dI), (cI, cB, cO), fun c => if c < 192 then s.heap.size + c else if c < 1004 then adK (c - 1000) else if c < 2004 then adV (c - 2000) else if c = 3000 then tf else b, ()), rfl, rfl, fun _ => rfl⟩
  have hG : zG s.heap.size G := fun c hc => by rw [hGad, if_pos hc]
  have hxA : ∀ q, xA G q → s.heap.size ≤ q := fun q h => zG_A hG h
  have eK : ∀ k, k < 4 → xad G (1000 + k) = adK k := fun k hk => by
    rw [hGad, if_neg (by omega), if_pos (by omega), Nat.add_sub_cancel_left]
  have eV : ∀ k, k < 4 → xad G (2000 + k) = adV k := fun k hk => by
    rw [hGad, if_neg (by omega), if_neg (by omega), if_pos (by omega), Nat.add_sub_cancel_left]
  have e30 : xad G 3000 = tf := by rw [hGad]; rfl
  have e40 : xad G 4000 = b := by rw [hGad]; rfl
  have hKK : va_K G.1 vwCl (xT G) s := by
    refine ⟨by rw [hG1]; exact hKc, ?_⟩
    intro k q hk
    unfold xT at hk
    rw [hG2] at hk
    match k, hk with
    | 0, hk => cases hk; exact ⟨fun n z => ⟨fun k h => (by cases h), kI, gI, pI, tI⟩, fI⟩
    | 1, hk => cases hk; exact ⟨fun n z => ⟨fun k h => (by cases h), kB, gB, pB, tB⟩, fB⟩
    | 2, hk => cases hk; exact ⟨fun n z => ⟨fun k h => (by cases h), kO, gO, pO, tO⟩, kO, pO, gO, tO, fO, nO⟩
    | k + 3, hk => simp at hk
  have hNN : xN s := fun a i y h hm => va_Nw.of rfl (hts _ (xt_tbl hm))
  have hXS : xStr G s := by
    have hS1 := hStr.narrow hxA
    refine ⟨⟨fun i hi => ?_, fun i j hi hj h => ?_⟩, hCS.narrow hxA, ?_, ?_, ?_, ?_, ?_⟩
    · simp only [eK i hi, eV i hi]
      exact hS1.1 i hi
    · simp only [eK i hi, eK j hj] at h
      exact hS1.2 i j hi hj h
    · rw [show xad G 1000 = adK 0 from eK 0 (by decide)]
      exact vk_R.of (A := #[Value.ref b]) (hts _ kt_s0) (hEv 0 (by decide))
    · rw [show xad G 1001 = adK 1 from eK 1 (by decide)]
      exact vk_R.of (A := #[Value.ref b]) (hts _ kt_s1) (hEv 1 (by decide))
    · rw [show xad G 1002 = adK 2 from eK 2 (by decide)]
      exact vk_R.of (A := #[Value.ref b]) (hts _ kt_s2) (hEv 2 (by decide))
    · rw [show xad G 1003 = adK 3 from eK 3 (by decide)]
      exact vk_R.of (A := #[Value.ref b]) (hts _ kt_s3) (hEv 3 (by decide))
    · rw [e30]
      rcases hFm2 with h | h
      · exact Or.inl (h.narrow hxA)
      · exact Or.inr (h.narrow hxA)
  have LC : lC b L xs G p s m meth c := ⟨hx, hb, hml, hr, hown, ht, hlocks, hKK, hG, hNN, hXS, hX, hbl, e40⟩
  have hl := lv_entry ([.ref b]) (n := 4) (Nat.le_of_ble_eq_true rfl)
  rw [lg_entry_eq]
  generalize (lg_sl ([.ref b]) ++ List.replicate (4 - (lg_sl ([.ref b])).length) Slot.unset).toArray = ls at hl ⊢
  have hl : lv_has ls 4 [(0, .ref b)] := hl
  have hS : va_S (fun q : Nat => s.heap.size ≤ q) s.heap s.heap [] := va_S.rf
  -- new PillarSaints
  have hKn := hKK.1 11 _ rfl
  refine W.newcK hx hb hown (ht _ kw1_22) (ht _ kw1_23) (ht _ kw1_1) rfl dL_law_0 (by decide) (by decide) hKn.2.1 rfl fun H1 kC hkC e1 z1 o1 => ?_
  have en : s.heap.size = xad G 0 := (hG 0 (by decide)).symm
  have hP1 : va_P G.1 vwCl (wz G 1 xZ00 (xuC xM00 0 (fun _ => 0))) H1 := by
    refine wz_push (S := s.heap.size) (n := 0) (H := s.heap) hG (by decide) (fun k q hk => by simp [wz] at hk) rfl (fun q hq => o1 q hq) ?_
    rw [ze_o (k := 11) (by decide) (by decide), show SHn 0 = 9 by decide]
    refine ⟨_, rfl, ?_⟩
    rw [← en]
    refine (u_born tyX11 ht kf11 hKn hkC e1 tyX11_ok).to (fun j hj => ?_)
    show defaultValue (tyX11 j) = vp_V _ j
    unfold vp_V
    rw [List.getD_eq_getElem?_getD, zf_get hj]
    exact zdf11 _ j hj
  have hS1 : va_S (fun q : Nat => s.heap.size ≤ q) s.heap H1 [] := ⟨by omega, fun x h1 h2 => o1 x h1, fun _ h => by cases h⟩
  refine lv_dup hx hb dL_law_3 rfl ?_
  have hz0 : zfr 1 xZ00 := fun _ _ _ => rfl
  have hpre : ∀ (n : Nat) (Z : Nat → Nat → Bool) (M : Mem) (H : Heap) (As : List Value), H.size = s.heap.size + n → va_P G.1 vwCl (wz G n Z M) H → PreS s H (zPc s.heap.size G As n Z M) (As.map (xc G)) := fun n Z M H As hH hP => ⟨zPc_blind _ G As n Z M, fun U hU hW => ⟨rfl, by rw [hU]; exact hH, by rw [hU]; exact hP, va_K.moved hW.alike hKK, xN_go hW hNN, va_AO.moved hW.alike hover⟩⟩
  rw [en]
  refine va_callv (va_runI (As := []) (rest := [.ref (xad G 0)]) (b := xad G 0) ⟨hx, hb, hml, hown, ht⟩ (zc_X11 (by decide) s.heap.size G l hG hz0) (cwI 0 ht (xG_ws (x := yX11_init) (cx := code) (nx := 0) (rx := none) kw1_26) rfl rfl rfl (ht _ kw1_1) (ht _ kw1_24) (ht _ kw1_25) rfl (by decide +kernel) ⟨Nat.le_of_ble_eq_true rfl, Nat.le_of_ble_eq_true rfl⟩) (hpre 1 _ _ H1 [.ref 0] (by omega) hP1) rfl rfl hl.1 rfl (lv_room (Nat.le_of_ble_eq_true rfl)) dL_law_4 ⟨by decide, by decide⟩) hS1 (fun _ _ h => h) (fun _ h => h) (fun u2 t2 H2 o2 ht2 hvm hpo hB hz1 hk1 hS2 => ?_)
  obtain ⟨hz2, hP2⟩ := hB
  rw [ht2] at hP2
  refine lv_astore_n (lv' := [(1, .ref (xad G 0)), (0, .ref b)]) hx hb dL_law_7 rfl hl (by decide) rfl (fun ls hl => ?_)
  refine W.sz (fun hsz => ?_)
  have hHs : H2.size = s.heap.size + 166 := zsz (s := s) (u := 166) hG (by decide) (by decide) hP2 rfl hsz
  -- new PillarSaintsModel
  have hKn := hKK.1 12 _ rfl
  refine W.newcK hx hb hown (ht _ kw5_153) (ht _ kw5_154) (ht _ kw1_14) rfl dL_law_8 (by decide) (by decide) hKn.2.1 rfl fun H3 kC hkC e1 z1 o1 => ?_
  have en : H2.size = xad G 166 := hHs.trans (hG 166 (by decide)).symm
  have hP3 : va_P G.1 vwCl (wz G 167 xZ1 (xuC xM1 166 (fun _ => 0))) H3 := by
    refine wz_push (S := s.heap.size) (n := 166) (H := H2) hG (by decide) hP2 hHs (fun q hq => o1 q (by omega)) ?_
    rw [ze_o (k := 12) (by decide) (by decide), show SHn 166 = 50 by decide]
    refine ⟨_, rfl, ?_⟩
    rw [← en]
    refine (u_born tyX12 ht kf12 hKn hkC e1 tyX12_ok).to (fun j hj => ?_)
    show defaultValue (tyX12 j) = vp_V _ j
    unfold vp_V
    rw [List.getD_eq_getElem?_getD, zf_get hj]
    have hf : xZ1 166 j = false := hz2 166 (by decide) j
    simp only [zfv, hf]
    exact zdf12 _ j hj
  have hS3 : va_S (fun q : Nat => s.heap.size ≤ q) s.heap H3 o2 := ⟨by omega, fun x h1 h2 => (o1 x (by omega)).trans (hS2.2.1 x h1 h2), hS2.2.2⟩
  refine lv_dup hx hb dL_law_11 rfl ?_
  have hz3 : zfr 167 xZ1 := zfr_up hz2
  rw [en]
  refine va_callv (va_runI (As := []) (rest := [.ref (xad G 166)]) (b := xad G 166) ⟨hx, hb, hml, hown, ht⟩ (zc_X12 (by decide) s.heap.size G l hG hz3) (cwI 0 ht (xG_ws (x := yX12_init) (cx := code) (nx := 0) (rx := none) kw5_157) rfl rfl rfl (ht _ kw1_14) (ht _ kw5_155) (ht _ kw5_156) rfl (by decide +kernel) ⟨Nat.le_of_ble_eq_true rfl, Nat.le_of_ble_eq_true rfl⟩) (hpre 167 _ _ H3 [.ref 166] (by omega) hP3) rfl rfl hl.1 rfl (lv_room (Nat.le_of_ble_eq_true rfl)) dL_law_12 ⟨by decide, by decide⟩) hS3 (fun _ _ h => h) (fun _ h => h) (fun u4 t4 H4 o4 ht4 hvm4 hpo4 hB4 hz4 hk4 hS4 => ?_)
  obtain ⟨hz5, hP5⟩ := hB4
  rw [ht4] at hP5
  refine lv_astore_n (lv' := [(2, .ref (xad G 166)), (1, .ref (xad G 0)), (0, .ref b)]) hx hb dL_law_15 rfl hl (by decide) rfl (fun ls hl => ?_)
  have hP6 : va_P G.1 vwCl (xw G xM0) H4 := by
    rw [← wz_xw xZ0_all]
    exact hP5
  have key : lX b L xs 16 [(0, .ref 4000), (1, .ref 0), (2, .ref 166)] [] xM0 := by
    refine l_iconst (v := 0) dL_law_16 (by decide) 17 rfl ?_
    refine l_istore_n dL_law_17 (by decide) [(0, .ref 4000), (1, .ref 0), (2, .ref 166), (3, .int 0)] rfl 18 rfl ?_
    exact law_loop hq hL (L + 6) 0 (by omega) (by omega) xM0 hI
  refine key G p l e s m below meth c H4 o4 ls LC hP6 hS4 (lv_weak hl (fun q hq => ?_))
  have e4 : List.map (xl G) [(0, .ref 4000), (1, .ref 0), (2, .ref 166)] = [(0, .ref b), (1, .ref (xad G 0)), (2, .ref (xad G 166))] := by
    show [(0, Value.ref (xad G 4000)), (1, Value.ref (xad G 0)), (2, Value.ref (xad G 166))] = _
    rw [e40]
  rw [e4] at hq
  simp only [List.mem_cons, List.not_mem_nil, or_false] at hq ⊢
  rcases hq with h | h | h
  · exact Or.inr (Or.inr h)
  · exact Or.inr (Or.inl h)
  · exact Or.inl h
