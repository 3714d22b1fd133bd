def FX9_isSaint (Q : Bool → Prop) (l0 : Nat) (l1 : Int32) (M : Mem) : Prop :=
  ((l1 < 0 → Q false) ∧ (¬ l1 < 0 → (((M l0 11) ≤ l1 → Q false) ∧ (¬ (M l0 11) ≤ l1 → Q true))))
theorem eX9_isSaint {Q : Bool → Prop} {l0 : Nat} {l1 : Int32} {M : Mem} (hk_l0 : SHk l0 = 9) (h : FX9_isSaint Q l0 l1 M) : xX RX9 cX9_isSaint 2 (some .boolean) 1 0 [(0, .ref l0), (1, .int l1)] [] M (xQb (xP M Q)) := by
  unfold FX9_isSaint at h
  refine x_iload_n dX9_isSaint_0 rfl 1 rfl ?_
  refine x_if_lt dX9_isSaint_1 16 4 rfl rfl (fun hc => ?_) (fun hc => ?_)
  · have h := h.1 hc
    refine x_iconst dX9_isSaint_16 kc_0 17 rfl ?_
    exact x_zret (z := false) dX9_isSaint_17 ⟨rfl, h⟩
  · have h := h.2 hc
    refine x_iload_n dX9_isSaint_4 rfl 5 rfl ?_
    refine x_aload_n dX9_isSaint_5 rfl 6 rfl ?_
    refine gf9_11 dX9_isSaint_6 9 rfl hk_l0 kw1_72 ?_
    refine x_icmp_ge dX9_isSaint_9 16 12 rfl rfl (fun hc => ?_) (fun hc => ?_)
    · have h := h.1 hc
      refine x_iconst dX9_isSaint_16 kc_0 17 rfl ?_
      exact x_zret (z := false) dX9_isSaint_17 ⟨rfl, h⟩
    · have h := h.2 hc
      refine x_iconst dX9_isSaint_12 kc_1 13 rfl ?_
      refine x_goto dX9_isSaint_13 17 rfl ?_
      exact x_zret (z := true) dX9_isSaint_17 ⟨rfl, h⟩
theorem cX9_isSaint_ {Q : Bool → Prop} {l0 : Nat} {l1 : Int32} {M : Mem} (hk_l0 : SHk l0 = 9) (h : FX9_isSaint Q l0 l1 M) : xM yX9_isSaint cX9_isSaint 2 (some .boolean) 1 [.ref l0, .int l1] M (xQb (xP M Q)) := xM_of (by decide) (Nat.le_of_ble_eq_true rfl) (eX9_isSaint hk_l0 h)
theorem kX9_isSaint {own : String} {cc : ByteArray} {nL : Nat} {rt : Option FieldType} {d pc ix : Nat} {L : List (Nat × Value)} {st : List Value} {M : Mem} {Rt : xGt → Array Value → State → Outcome → State → Prop} {Q : Bool → Prop} {l0 : Nat} {l1 : Int32} (hd : decode cc pc = .ok (.invokevirtual ix, 3)) (q : Nat) (hq : pc + 3 = q) (hk_l0 : SHk l0 = 9) (w1 : Cond.methodLink own ix yX9_isSaint ∈ xTs) (hr : 1 < d) (hst : (st.map fun v => v.category).sum ≤ 8) (h : FX9_isSaint Q l0 l1 M) (k : ∀ (r : Bool), Q r → xX own cc nL rt d q L (.int (bI r) :: st) M Rt) : xX own cc nL rt d pc L (.int l1 :: .ref l0 :: st) M Rt :=
  x_callV_b (n := 1) (As := [.int l1]) hd q hq hk_l0 (by decide) rfl rfl w1 kw2_234 kw2_235 kw1_3 kw2_236 (by decide +kernel) rfl hr (by decide) hst _ rfl (cX9_isSaint_ hk_l0 h) (fun r N hN => by obtain ⟨rfl, hN⟩ := hN; exact k r hN)

def lbX9_pillarOf_2 (Q : Int32 → Prop) (l0 : Nat) (l1 : Int32) (M : Mem) (B2 : Int32 → Prop) (l2 : Int32) : Prop :=
  (((M l0 10) ≤ l2 → Q (-1)) ∧ (¬ (M l0 10) ≤ l2 → vp_in l2 10 ∧ ((¬ (M (l0 + 2) (ix l2)) = l1 → B2 (l2 + 1)) ∧ ((M (l0 + 2) (ix l2)) = l1 → ((l1 = (-1) → B2 (l2 + 1)) ∧ (¬ l1 = (-1) → Q l2))))))
def NX9_pillarOf_2 (Q : Int32 → Prop) (l0 : Nat) (l1 : Int32) (l2 : Int32) (M : Mem) : Prop := xlp (fun (B : Int32 → Prop) a => lbX9_pillarOf_2 Q l0 l1 M (fun l2 => B (l2)) a) (l2)
theorem nX9_pillarOf_2 {Q : Int32 → Prop} {l0 : Nat} {l1 : Int32} {l2 : Int32} {M : Mem} (hk_l0 : SHk l0 = 9) (h : NX9_pillarOf_2 Q l0 l1 l2 M) : xX RX9 cX9_pillarOf 3 (some .int) 1 2 [(0, .ref l0), (1, .int l1), (2, .int l2)] [] M (xQi (xP M Q)) := by
  obtain ⟨n, h⟩ := h
  have hB2 : ∀ (n : Nat) (l2 : Int32), xlpn (fun (B : Int32 → Prop) a => lbX9_pillarOf_2 Q l0 l1 M (fun l2 => B (l2)) a) n (l2) → xX RX9 cX9_pillarOf 3 (some .int) 1 2 [(0, .ref l0), (1, .int l1), (2, .int l2)] [] M (xQi (xP M Q)) := by
    intro n
    induction n with
    | zero => intro l2 h; exact False.elim h
    | succ n ih =>
      intro l2 h
      have hB2 := ih
      have h : lbX9_pillarOf_2 Q l0 l1 M (fun l2 => xlpn (fun (B : Int32 → Prop) a => lbX9_pillarOf_2 Q l0 l1 M (fun l2 => B (l2)) a) n (l2)) l2 := h
      unfold lbX9_pillarOf_2 at h
      refine x_iload_n dX9_pillarOf_2 rfl 3 rfl ?_
      refine x_aload_n dX9_pillarOf_3 rfl 4 rfl ?_
      refine gf9_10 dX9_pillarOf_4 7 rfl hk_l0 kw1_68 ?_
      refine x_icmp_ge dX9_pillarOf_7 33 10 rfl rfl (fun hc => ?_) (fun hc => ?_)
      · have h := h.1 hc
        refine x_iconst dX9_pillarOf_33 kc_m1 34 rfl ?_
        exact x_iret dX9_pillarOf_34 ⟨rfl, h⟩
      · have h := h.2 hc
        refine x_aload_n dX9_pillarOf_10 rfl 11 rfl ?_
        refine gf9_2 dX9_pillarOf_11 14 rfl hk_l0 kw1_50 ?_
        refine x_iload_n dX9_pillarOf_14 rfl 15 rfl ?_
        obtain ⟨hin, h⟩ := h
        refine x_iaload dX9_pillarOf_15 (ly9_2 hk_l0) hin 16 rfl ?_
        refine x_iload_n dX9_pillarOf_16 rfl 17 rfl ?_
        refine x_icmp_ne dX9_pillarOf_17 27 20 rfl rfl (fun hc => ?_) (fun hc => ?_)
        · have h := h.1 hc
          refine x_iinc dX9_pillarOf_27 rfl (congrArg (l2 + ·) kc_1) (Nat.le_of_ble_eq_true rfl) [(0, .ref l0), (1, .int l1), (2, .int (l2 + 1))] rfl 30 rfl ?_
          refine x_goto dX9_pillarOf_30 2 rfl ?_
          exact hB2 _ h
        · have h := h.2 hc
          refine x_iload_n dX9_pillarOf_20 rfl 21 rfl ?_
          refine x_iconst dX9_pillarOf_21 kc_m1 22 rfl ?_
          refine x_icmp_eq dX9_pillarOf_22 27 25 rfl rfl (fun hc => ?_) (fun hc => ?_)
          · have h := h.1 hc
            refine x_iinc dX9_pillarOf_27 rfl (congrArg (l2 + ·) kc_1) (Nat.le_of_ble_eq_true rfl) [(0, .ref l0), (1, .int l1), (2, .int (l2 + 1))] rfl 30 rfl ?_
            refine x_goto dX9_pillarOf_30 2 rfl ?_
            exact hB2 _ h
          · have h := h.2 hc
            refine x_iload_n dX9_pillarOf_25 rfl 26 rfl ?_
            exact x_iret dX9_pillarOf_26 ⟨rfl, h⟩
  exact hB2 n l2 h
def FX9_pillarOf (Q : Int32 → Prop) (l0 : Nat) (l1 : Int32) (M : Mem) : Prop :=
  NX9_pillarOf_2 Q l0 l1 0 M
theorem eX9_pillarOf {Q : Int32 → Prop} {l0 : Nat} {l1 : Int32} {M : Mem} (hk_l0 : SHk l0 = 9) (h : FX9_pillarOf Q l0 l1 M) : xX RX9 cX9_pillarOf 3 (some .int) 1 0 [(0, .ref l0), (1, .int l1)] [] M (xQi (xP M Q)) := by
  unfold FX9_pillarOf at h
  refine x_iconst dX9_pillarOf_0 kc_0 1 rfl ?_
  refine x_istore_n dX9_pillarOf_1 (Nat.le_of_ble_eq_true rfl) [(0, .ref l0), (1, .int l1), (2, .int 0)] rfl 2 rfl ?_
  exact nX9_pillarOf_2 hk_l0 h
theorem cX9_pillarOf_ {Q : Int32 → Prop} {l0 : Nat} {l1 : Int32} {M : Mem} (hk_l0 : SHk l0 = 9) (h : FX9_pillarOf Q l0 l1 M) : xM yX9_pillarOf cX9_pillarOf 3 (some .int) 1 [.ref l0, .int l1] M (xQi (xP M Q)) := xM_of (by decide) (Nat.le_of_ble_eq_true rfl) (eX9_pillarOf hk_l0 h)
theorem kX9_pillarOf {own : String} {cc : ByteArray} {nL : Nat} {rt : Option FieldType} {d pc ix : Nat} {L : List (Nat × Value)} {st : List Value} {M : Mem} {Rt : xGt → Array Value → State → Outcome → State → Prop} {Q : Int32 → Prop} {l0 : Nat} {l1 : Int32} (hd : decode cc pc = .ok (.invokevirtual ix, 3)) (q : Nat) (hq : pc + 3 = q) (hk_l0 : SHk l0 = 9) (w1 : Cond.methodLink own ix yX9_pillarOf ∈ xTs) (hr : 1 < d) (hst : (st.map fun v => v.category).sum ≤ 8) (h : FX9_pillarOf Q l0 l1 M) (k : ∀ (r : Int32), Q r → xX own cc nL rt d q L (.int r :: st) M Rt) : xX own cc nL rt d pc L (.int l1 :: .ref l0 :: st) M Rt :=
  x_callV_i (n := 1) (As := [.int l1]) hd q hq hk_l0 (by decide) rfl rfl w1 kw3_10 kw3_11 kw1_3 kw3_12 (by decide +kernel) rfl hr (by decide) hst _ rfl (cX9_pillarOf_ hk_l0 h) (fun r N hN => by obtain ⟨rfl, hN⟩ := hN; exact k r hN)

def FX9_isPillar (Q : Bool → Prop) (l0 : Nat) (l1 : Int32) (M : Mem) : Prop :=
  ((l1 < 0 → Q false) ∧ (¬ l1 < 0 → (((M l0 10) ≤ l1 → Q false) ∧ (¬ (M l0 10) ≤ l1 → Q true))))
theorem eX9_isPillar {Q : Bool → Prop} {l0 : Nat} {l1 : Int32} {M : Mem} (hk_l0 : SHk l0 = 9) (h : FX9_isPillar Q l0 l1 M) : xX RX9 cX9_isPillar 2 (some .boolean) 1 0 [(0, .ref l0), (1, .int l1)] [] M (xQb (xP M Q)) := by
  unfold FX9_isPillar at h
  refine x_iload_n dX9_isPillar_0 rfl 1 rfl ?_
  refine x_if_lt dX9_isPillar_1 16 4 rfl rfl (fun hc => ?_) (fun hc => ?_)
  · have h := h.1 hc
    refine x_iconst dX9_isPillar_16 kc_0 17 rfl ?_
    exact x_zret (z := false) dX9_isPillar_17 ⟨rfl, h⟩
  · have h := h.2 hc
    refine x_iload_n dX9_isPillar_4 rfl 5 rfl ?_
    refine x_aload_n dX9_isPillar_5 rfl 6 rfl ?_
    refine gf9_10 dX9_isPillar_6 9 rfl hk_l0 kw1_68 ?_
    refine x_icmp_ge dX9_isPillar_9 16 12 rfl rfl (fun hc => ?_) (fun hc => ?_)
    · have h := h.1 hc
      refine x_iconst dX9_isPillar_16 kc_0 17 rfl ?_
      exact x_zret (z := false) dX9_isPillar_17 ⟨rfl, h⟩
    · have h := h.2 hc
      refine x_iconst dX9_isPillar_12 kc_1 13 rfl ?_
      refine x_goto dX9_isPillar_13 17 rfl ?_
      exact x_zret (z := true) dX9_isPillar_17 ⟨rfl, h⟩
theorem cX9_isPillar_ {Q : Bool → Prop} {l0 : Nat} {l1 : Int32} {M : Mem} (hk_l0 : SHk l0 = 9) (h : FX9_isPillar Q l0 l1 M) : xM yX9_isPillar cX9_isPillar 2 (some .boolean) 1 [.ref l0, .int l1] M (xQb (xP M Q)) := xM_of (by decide) (Nat.le_of_ble_eq_true rfl) (eX9_isPillar hk_l0 h)
theorem kX9_isPillar {own : String} {cc : ByteArray} {nL : Nat} {rt : Option FieldType} {d pc ix : Nat} {L : List (Nat × Value)} {st : List Value} {M : Mem} {Rt : xGt → Array Value → State → Outcome → State → Prop} {Q : Bool → Prop} {l0 : Nat} {l1 : Int32} (hd : decode cc pc = .ok (.invokevirtual ix, 3)) (q : Nat) (hq : pc + 3 = q) (hk_l0 : SHk l0 = 9) (w1 : Cond.methodLink own ix yX9_isPillar ∈ xTs) (hr : 1 < d) (hst : (st.map fun v => v.category).sum ≤ 8) (h : FX9_isPillar Q l0 l1 M) (k : ∀ (r : Bool), Q r → xX own cc nL rt d q L (.int (bI r) :: st) M Rt) : xX own cc nL rt d pc L (.int l1 :: .ref l0 :: st) M Rt :=
  x_callV_b (n := 1) (As := [.int l1]) hd q hq hk_l0 (by decide) rfl rfl w1 kw3_14 kw3_15 kw1_3 kw3_16 (by decide +kernel) rfl hr (by decide) hst _ rfl (cX9_isPillar_ hk_l0 h) (fun r N hN => by obtain ⟨rfl, hN⟩ := hN; exact k r hN)

def FX9_sitterOn (Q : Int32 → Prop) (l0 : Nat) (l1 : Int32) (M : Mem) : Prop :=
  FX9_isPillar (fun (r1 : Bool) => ((r1 = false → Q (-1)) ∧ (r1 = true → vp_in l1 10 ∧ Q (M (l0 + 2) (ix l1))))) l0 l1 M
theorem eX9_sitterOn {Q : Int32 → Prop} {l0 : Nat} {l1 : Int32} {M : Mem} (hk_l0 : SHk l0 = 9) (h : FX9_sitterOn Q l0 l1 M) : xX RX9 cX9_sitterOn 2 (some .int) 2 0 [(0, .ref l0), (1, .int l1)] [] M (xQi (xP M Q)) := by
  unfold FX9_sitterOn at h
  refine x_aload_n dX9_sitterOn_0 rfl 1 rfl ?_
  refine x_iload_n dX9_sitterOn_1 rfl 2 rfl ?_
  refine kX9_isPillar dX9_sitterOn_2 5 rfl hk_l0 kw3_13 (Nat.le_of_ble_eq_true rfl) (Nat.le_of_ble_eq_true rfl) h (fun r1 h => ?_)
  refine x_if_eq_b dX9_sitterOn_5 17 8 rfl rfl (fun hc => ?_) (fun hc => ?_)
  · have h := h.1 hc
    refine x_iconst dX9_sitterOn_17 kc_m1 18 rfl ?_
    exact x_iret dX9_sitterOn_18 ⟨rfl, h⟩
  · have h := h.2 hc
    refine x_aload_n dX9_sitterOn_8 rfl 9 rfl ?_
    refine gf9_2 dX9_sitterOn_9 12 rfl hk_l0 kw1_50 ?_
    refine x_iload_n dX9_sitterOn_12 rfl 13 rfl ?_
    obtain ⟨hin, h⟩ := h
    refine x_iaload dX9_sitterOn_13 (ly9_2 hk_l0) hin 14 rfl ?_
    refine x_goto dX9_sitterOn_14 18 rfl ?_
    exact x_iret dX9_sitterOn_18 ⟨rfl, h⟩
theorem cX9_sitterOn_ {Q : Int32 → Prop} {l0 : Nat} {l1 : Int32} {M : Mem} (hk_l0 : SHk l0 = 9) (h : FX9_sitterOn Q l0 l1 M) : xM yX9_sitterOn cX9_sitterOn 2 (some .int) 2 [.ref l0, .int l1] M (xQi (xP M Q)) := xM_of (by decide) (Nat.le_of_ble_eq_true rfl) (eX9_sitterOn hk_l0 h)
theorem kX9_sitterOn {own : String} {cc : ByteArray} {nL : Nat} {rt : Option FieldType} {d pc ix : Nat} {L : List (Nat × Value)} {st : List Value} {M : Mem} {Rt : xGt → Array Value → State → Outcome → State → Prop} {Q : Int32 → Prop} {l0 : Nat} {l1 : Int32} (hd : decode cc pc = .ok (.invokevirtual ix, 3)) (q : Nat) (hq : pc + 3 = q) (hk_l0 : SHk l0 = 9) (w1 : Cond.methodLink own ix yX9_sitterOn ∈ xTs) (hr : 2 < d) (hst : (st.map fun v => v.category).sum ≤ 8) (h : FX9_sitterOn Q l0 l1 M) (k : ∀ (r : Int32), Q r → xX own cc nL rt d q L (.int r :: st) M Rt) : xX own cc nL rt d pc L (.int l1 :: .ref l0 :: st) M Rt :=
  x_callV_i (n := 1) (As := [.int l1]) hd q hq hk_l0 (by decide) rfl rfl w1 kw3_84 kw3_85 kw1_3 kw3_86 (by decide +kernel) rfl hr (by decide) hst _ rfl (cX9_sitterOn_ hk_l0 h) (fun r N hN => by obtain ⟨rfl, hN⟩ := hN; exact k r hN)

def lbX9_leaveGround_25 (Q : Mem → Prop) (l0 : Nat) (B25 : Int32 → Mem → Prop) (l2 : Int32) (M : Mem) : Prop :=
  (((M l0 9) ≤ l2 → Q M) ∧ (¬ (M l0 9) ≤ l2 → vp_in (l2 + 1) 14 ∧ vp_in l2 14 ∧ ∀ M1 : Mem, M1 = xu M (l0 + 8) (ix l2) (M (l0 + 8) (ix (l2 + 1))) → B25 (l2 + 1) M1))
def NX9_leaveGround_25 (Q : Mem → Prop) (l0 : Nat) (l2 : Int32) (M : Mem) : Prop := xlp (fun (B : Int32 × Mem → Prop) a => lbX9_leaveGround_25 Q l0 (fun l2 M => B (l2, M)) a.1 a.2) (l2, M)
theorem nX9_leaveGround_25 {Q : Mem → Prop} {l0 : Nat} {l2 : Int32} {M : Mem} (hk_l0 : SHk l0 = 9) (h : NX9_leaveGround_25 Q l0 l2 M) : xX RX9 cX9_leaveGround 3 none 1 25 [(0, .ref l0), (2, .int l2)] [] M (xQv Q) := by
  obtain ⟨n, h⟩ := h
  have hB25 : ∀ (n : Nat) (l2 : Int32) (M : Mem), xlpn (fun (B : Int32 × Mem → Prop) a => lbX9_leaveGround_25 Q l0 (fun l2 M => B (l2, M)) a.1 a.2) n (l2, M) → xX RX9 cX9_leaveGround 3 none 1 25 [(0, .ref l0), (2, .int l2)] [] M (xQv Q) := by
    intro n
    induction n with
    | zero => intro l2 M h; exact False.elim h
    | succ n ih =>
      intro l2 M h
      have hB25 := ih
      have h : lbX9_leaveGround_25 Q l0 (fun l2 M => xlpn (fun (B : Int32 × Mem → Prop) a => lbX9_leaveGround_25 Q l0 (fun l2 M => B (l2, M)) a.1 a.2) n (l2, M)) l2 M := h
      unfold lbX9_leaveGround_25 at h
      refine x_iload_n dX9_leaveGround_25 rfl 26 rfl ?_
      refine x_aload_n dX9_leaveGround_26 rfl 27 rfl ?_
      refine gf9_9 dX9_leaveGround_27 30 rfl hk_l0 kw1_66 ?_
      refine x_icmp_ge dX9_leaveGround_30 53 33 rfl rfl (fun hc => ?_) (fun hc => ?_)
      · have h := h.1 hc
        exact x_vret dX9_leaveGround_53 h
      · have h := h.2 hc
        refine x_aload_n dX9_leaveGround_33 rfl 34 rfl ?_
        refine gf9_8 dX9_leaveGround_34 37 rfl hk_l0 kw1_65 ?_
        refine x_iload_n dX9_leaveGround_37 rfl 38 rfl ?_
        refine x_aload_n dX9_leaveGround_38 rfl 39 rfl ?_
        refine gf9_8 dX9_leaveGround_39 42 rfl hk_l0 kw1_65 ?_
        refine x_iload_n dX9_leaveGround_42 rfl 43 rfl ?_
        refine x_iconst dX9_leaveGround_43 kc_1 44 rfl ?_
        refine x_iadd dX9_leaveGround_44 45 rfl ?_
        obtain ⟨hin, h⟩ := h
        refine x_iaload dX9_leaveGround_45 (ly9_8 hk_l0) hin 46 rfl ?_
        obtain ⟨hin, h⟩ := h
        refine x_iastore dX9_leaveGround_46 (ly9_8 hk_l0) hin 47 rfl (x_mem (fun M1 hM1 => ?_))
        have h := h M1 hM1
        refine x_iinc dX9_leaveGround_47 rfl (congrArg (l2 + ·) kc_1) (Nat.le_of_ble_eq_true rfl) [(0, .ref l0), (2, .int (l2 + 1))] rfl 50 rfl ?_
        refine x_goto dX9_leaveGround_50 25 rfl ?_
        exact hB25 _ _ h
  exact hB25 n l2 M h
def FX9_leaveGround (Q : Mem → Prop) (l0 : Nat) (l1 : Int32) (M : Mem) : Prop :=
  ((l1 < 0 → Q M) ∧ (¬ l1 < 0 → ((l1 < (M l0 9) → ∀ M2 : Mem, M2 = xu M l0 9 ((M l0 9) - 1) → NX9_leaveGround_25 Q l0 l1 M2) ∧ (¬ l1 < (M l0 9) → Q M))))
theorem eX9_leaveGround {Q : Mem → Prop} {l0 : Nat} {l1 : Int32} {M : Mem} (hk_l0 : SHk l0 = 9) (h : FX9_leaveGround Q l0 l1 M) : xX RX9 cX9_leaveGround 3 none 1 0 [(0, .ref l0), (1, .int l1)] [] M (xQv Q) := by
  unfold FX9_leaveGround at h
  refine x_iload_n dX9_leaveGround_0 rfl 1 rfl ?_
  refine x_if_lt dX9_leaveGround_1 12 4 rfl rfl (fun hc => ?_) (fun hc => ?_)
  · have h := h.1 hc
    exact x_vret dX9_leaveGround_12 h
  · have h := h.2 hc
    refine x_iload_n dX9_leaveGround_4 rfl 5 rfl ?_
    refine x_aload_n dX9_leaveGround_5 rfl 6 rfl ?_
    refine gf9_9 dX9_leaveGround_6 9 rfl hk_l0 kw1_66 ?_
    refine x_icmp_lt dX9_leaveGround_9 13 12 rfl rfl (fun hc => ?_) (fun hc => ?_)
    · have h := h.1 hc
      refine x_aload_n dX9_leaveGround_13 rfl 14 rfl ?_
      refine x_dup dX9_leaveGround_14 rfl 15 rfl ?_
      refine gf9_9 dX9_leaveGround_15 18 rfl hk_l0 kw1_66 ?_
      refine x_iconst dX9_leaveGround_18 kc_1 19 rfl ?_
      refine x_isub dX9_leaveGround_19 20 rfl ?_
      refine pf9_9 dX9_leaveGround_20 23 rfl hk_l0 kw1_66 (x_mem (fun M2 hM2 => ?_))
      have h := h M2 hM2
      refine x_iload_n dX9_leaveGround_23 rfl 24 rfl ?_
      refine x_istore_n dX9_leaveGround_24 (Nat.le_of_ble_eq_true rfl) [(0, .ref l0), (1, .int l1), (2, .int l1)] rfl 25 rfl ?_
      refine x_weak [(0, .ref l0), (2, .int l1)] [0, 2] rfl ?_
      exact nX9_leaveGround_25 hk_l0 h
    · have h := h.2 hc
      exact x_vret dX9_leaveGround_12 h
theorem cX9_leaveGround_ {Q : Mem → Prop} {l0 : Nat} {l1 : Int32} {M : Mem} (hk_l0 : SHk l0 = 9) (h : FX9_leaveGround Q l0 l1 M) : xM yX9_leaveGround cX9_leaveGround 3 none 1 [.ref l0, .int l1] M (xQv Q) := xM_of (by decide) (Nat.le_of_ble_eq_true rfl) (eX9_leaveGround hk_l0 h)
theorem kX9_leaveGround {own : String} {cc : ByteArray} {nL : Nat} {rt : Option FieldType} {d pc ix : Nat} {L : List (Nat × Value)} {st : List Value} {M : Mem} {Rt : xGt → Array Value → State → Outcome → State → Prop} {Q : Mem → Prop} {l0 : Nat} {l1 : Int32} (hd : decode cc pc = .ok (.invokevirtual ix, 3)) (q : Nat) (hq : pc + 3 = q) (hk_l0 : SHk l0 = 9) (w1 : Cond.methodLink own ix yX9_leaveGround ∈ xTs) (hr : 1 < d) (hst : (st.map fun v => v.category).sum ≤ 8) (h : FX9_leaveGround Q l0 l1 M) (k : ∀ (N : Mem), Q N → xX own cc nL rt d q L st N Rt) : xX own cc nL rt d pc L (.int l1 :: .ref l0 :: st) M Rt :=
  x_callV_v (n := 1) (As := [.int l1]) hd q hq hk_l0 (by decide) rfl rfl w1 kw2_203 ks1_1 kw1_3 kw2_204 (by decide +kernel) rfl hr (by decide) hst _ rfl (cX9_leaveGround_ hk_l0 h) k

def FX9_isDead (Q : Bool → Prop) (l0 : Nat) (l1 : Int32) (M : Mem) : Prop :=
  (((((M l0 12) >>> (l1 &&& 31)) &&& 1) = 0 → Q false) ∧ (¬ (((M l0 12) >>> (l1 &&& 31)) &&& 1) = 0 → Q true))
theorem eX9_isDead {Q : Bool → Prop} {l0 : Nat} {l1 : Int32} {M : Mem} (hk_l0 : SHk l0 = 9) (h : FX9_isDead Q l0 l1 M) : xX RX9 cX9_isDead 2 (some .boolean) 1 0 [(0, .ref l0), (1, .int l1)] [] M (xQb (xP M Q)) := by
  unfold FX9_isDead at h
  refine x_aload_n dX9_isDead_0 rfl 1 rfl ?_
  refine gf9_12 dX9_isDead_1 4 rfl hk_l0 kw1_76 ?_
  refine x_iload_n dX9_isDead_4 rfl 5 rfl ?_
  refine x_ishr dX9_isDead_5 6 rfl ?_
  refine x_iconst dX9_isDead_6 kc_1 7 rfl ?_
  refine x_iand dX9_isDead_7 8 rfl ?_
  refine x_if_eq dX9_isDead_8 15 11 rfl rfl (fun hc => ?_) (fun hc => ?_)
  · have h := h.1 hc
    refine x_iconst dX9_isDead_15 kc_0 16 rfl ?_
    exact x_zret (z := false) dX9_isDead_16 ⟨rfl, h⟩
  · have h := h.2 hc
    refine x_iconst dX9_isDead_11 kc_1 12 rfl ?_
    refine x_goto dX9_isDead_12 16 rfl ?_
    exact x_zret (z := true) dX9_isDead_16 ⟨rfl, h⟩
theorem cX9_isDead_ {Q : Bool → Prop} {l0 : Nat} {l1 : Int32} {M : Mem} (hk_l0 : SHk l0 = 9) (h : FX9_isDead Q l0 l1 M) : xM yX9_isDead cX9_isDead 2 (some .boolean) 1 [.ref l0, .int l1] M (xQb (xP M Q)) := xM_of (by decide) (Nat.le_of_ble_eq_true rfl) (eX9_isDead hk_l0 h)
theorem kX9_isDead {own : String} {cc : ByteArray} {nL : Nat} {rt : Option FieldType} {d pc ix : Nat} {L : List (Nat × Value)} {st : List Value} {M : Mem} {Rt : xGt → Array Value → State → Outcome → State → Prop} {Q : Bool → Prop} {l0 : Nat} {l1 : Int32} (hd : decode cc pc = .ok (.invokevirtual ix, 3)) (q : Nat) (hq : pc + 3 = q) (hk_l0 : SHk l0 = 9) (w1 : Cond.methodLink own ix yX9_isDead ∈ xTs) (hr : 1 < d) (hst : (st.map fun v => v.category).sum ≤ 8) (h : FX9_isDead Q l0 l1 M) (k : ∀ (r : Bool), Q r → xX own cc nL rt d q L (.int (bI r) :: st) M Rt) : xX own cc nL rt d pc L (.int l1 :: .ref l0 :: st) M Rt :=
  x_callV_b (n := 1) (As := [.int l1]) hd q hq hk_l0 (by decide) rfl rfl w1 kw3_72 kw3_73 kw1_3 kw3_74 (by decide +kernel) rfl hr (by decide) hst _ rfl (cX9_isDead_ hk_l0 h) (fun r N hN => by obtain ⟨rfl, hN⟩ := hN; exact k r hN)

def FX9_note (Q : Mem → Prop) (l0 : Nat) (l1 : Int32) (l2 : Int32) (l3 : Int32) (M : Mem) : Prop :=
  (((M l0 18) < 0 → Q M) ∧ (¬ (M l0 18) < 0 → (((((M l0 18) * 4) + 3) < (Int32.ofNat (SHn (l0 + 9))) → vp_in ((M l0 18) * 4) (SHn (l0 + 9)) ∧ ∀ M1 : Mem, M1 = xu M (l0 + 9) (ix ((M l0 18) * 4)) (M l0 15) → vp_in (((M l0 18) * 4) + 1) (SHn (l0 + 9)) ∧ ∀ M2 : Mem, M2 = xu M1 (l0 + 9) (ix (((M l0 18) * 4) + 1)) l1 → vp_in (((M l0 18) * 4) + 2) (SHn (l0 + 9)) ∧ ∀ M3 : Mem, M3 = xu M2 (l0 + 9) (ix (((M l0 18) * 4) + 2)) l2 → vp_in (((M l0 18) * 4) + 3) (SHn (l0 + 9)) ∧ ∀ M4 : Mem, M4 = xu M3 (l0 + 9) (ix (((M l0 18) * 4) + 3)) l3 → ∀ M5 : Mem, M5 = xu M4 l0 18 ((M4 l0 18) + 1) → Q M5) ∧ (¬ (((M l0 18) * 4) + 3) < (Int32.ofNat (SHn (l0 + 9))) → Q M))))
theorem eX9_note {Q : Mem → Prop} {l0 : Nat} {l1 : Int32} {l2 : Int32} {l3 : Int32} {M : Mem} (hk_l0 : SHk l0 = 9) (h : FX9_note Q l0 l1 l2 l3 M) : xX RX9 cX9_note 5 none 1 0 [(0, .ref l0), (1, .int l1), (2, .int l2), (3, .int l3)] [] M (xQv Q) := by
  unfold FX9_note at h
  refine x_aload_n dX9_note_0 rfl 1 rfl ?_
  refine gf9_18 dX9_note_1 4 rfl hk_l0 kw1_95 ?_
  refine x_iconst dX9_note_4 kc_4 5 rfl ?_
  refine x_imul dX9_note_5 6 rfl ?_
  refine x_istore dX9_note_6 (Nat.le_of_ble_eq_true rfl) [(0, .ref l0), (1, .int l1), (2, .int l2), (3, .int l3), (4, .int ((M l0 18) * 4))] rfl 8 rfl ?_
  refine x_aload_n dX9_note_8 rfl 9 rfl ?_
  refine gf9_18 dX9_note_9 12 rfl hk_l0 kw1_95 ?_
  refine x_if_lt dX9_note_12 27 15 rfl rfl (fun hc => ?_) (fun hc => ?_)
  · have h := h.1 hc
    exact x_vret dX9_note_27 h
  · have h := h.2 hc
    refine x_iload dX9_note_15 rfl 17 rfl ?_
    refine x_iconst dX9_note_17 kc_3 18 rfl ?_
    refine x_iadd dX9_note_18 19 rfl ?_
    refine x_aload_n dX9_note_19 rfl 20 rfl ?_
    refine gf9_0 dX9_note_20 23 rfl hk_l0 kw1_45 ?_
    refine x_alen dX9_note_23 ⟨ly9_0 hk_l0, rfl⟩ rfl 24 rfl ?_
    refine x_icmp_lt dX9_note_24 28 27 rfl rfl (fun hc => ?_) (fun hc => ?_)
    · have h := h.1 hc
      refine x_aload_n dX9_note_28 rfl 29 rfl ?_
      refine gf9_0 dX9_note_29 32 rfl hk_l0 kw1_45 ?_
      refine x_iload dX9_note_32 rfl 34 rfl ?_
      refine x_aload_n dX9_note_34 rfl 35 rfl ?_
      refine gf9_15 dX9_note_35 38 rfl hk_l0 kw1_85 ?_
      obtain ⟨hin, h⟩ := h
      refine x_iastore dX9_note_38 ⟨ly9_0 hk_l0, rfl⟩ hin 39 rfl (x_mem (fun M1 hM1 => ?_))
      have h := h M1 hM1
      refine x_aload_n dX9_note_39 rfl 40 rfl ?_
      refine gf9_0 dX9_note_40 43 rfl hk_l0 kw1_45 ?_
      refine x_iload dX9_note_43 rfl 45 rfl ?_
      refine x_iconst dX9_note_45 kc_1 46 rfl ?_
      refine x_iadd dX9_note_46 47 rfl ?_
      refine x_iload_n dX9_note_47 rfl 48 rfl ?_
      obtain ⟨hin, h⟩ := h
      refine x_iastore dX9_note_48 ⟨ly9_0 hk_l0, rfl⟩ hin 49 rfl (x_mem (fun M2 hM2 => ?_))
      have h := h M2 hM2
      refine x_aload_n dX9_note_49 rfl 50 rfl ?_
      refine gf9_0 dX9_note_50 53 rfl hk_l0 kw1_45 ?_
      refine x_iload dX9_note_53 rfl 55 rfl ?_
      refine x_iconst dX9_note_55 kc_2 56 rfl ?_
      refine x_iadd dX9_note_56 57 rfl ?_
      refine x_iload_n dX9_note_57 rfl 58 rfl ?_
      obtain ⟨hin, h⟩ := h
      refine x_iastore dX9_note_58 ⟨ly9_0 hk_l0, rfl⟩ hin 59 rfl (x_mem (fun M3 hM3 => ?_))
      have h := h M3 hM3
      refine x_aload_n dX9_note_59 rfl 60 rfl ?_
      refine gf9_0 dX9_note_60 63 rfl hk_l0 kw1_45 ?_
      refine x_iload dX9_note_63 rfl 65 rfl ?_
      refine x_iconst dX9_note_65 kc_3 66 rfl ?_
      refine x_iadd dX9_note_66 67 rfl ?_
      refine x_iload_n dX9_note_67 rfl 68 rfl ?_
      obtain ⟨hin, h⟩ := h
      refine x_iastore dX9_note_68 ⟨ly9_0 hk_l0, rfl⟩ hin 69 rfl (x_mem (fun M4 hM4 => ?_))
      have h := h M4 hM4
      refine x_aload_n dX9_note_69 rfl 70 rfl ?_
      refine x_dup dX9_note_70 rfl 71 rfl ?_
      refine gf9_18 dX9_note_71 74 rfl hk_l0 kw1_95 ?_
      refine x_iconst dX9_note_74 kc_1 75 rfl ?_
      refine x_iadd dX9_note_75 76 rfl ?_
      refine pf9_18 dX9_note_76 79 rfl hk_l0 kw1_95 (x_mem (fun M5 hM5 => ?_))
      have h := h M5 hM5
      exact x_vret dX9_note_79 h
    · have h := h.2 hc
      exact x_vret dX9_note_27 h
theorem cX9_note_ {Q : Mem → Prop} {l0 : Nat} {l1 : Int32} {l2 : Int32} {l3 : Int32} {M : Mem} (hk_l0 : SHk l0 = 9) (h : FX9_note Q l0 l1 l2 l3 M) : xM yX9_note cX9_note 5 none 1 [.ref l0, .int l1, .int l2, .int l3] M (xQv Q) := xM_of (by decide) (Nat.le_of_ble_eq_true rfl) (eX9_note hk_l0 h)
theorem kX9_note {own : String} {cc : ByteArray} {nL : Nat} {rt : Option FieldType} {d pc ix : Nat} {L : List (Nat × Value)} {st : List Value} {M : Mem} {Rt : xGt → Array Value → State → Outcome → State → Prop} {Q : Mem → Prop} {l0 : Nat} {l1 : Int32} {l2 : Int32} {l3 : Int32} (hd : decode cc pc = .ok (.invokevirtual ix, 3)) (q : Nat) (hq : pc + 3 = q) (hk_l0 : SHk l0 = 9) (w1 : Cond.methodLink own ix yX9_note ∈ xTs) (hr : 1 < d) (hst : (st.map fun v => v.category).sum ≤ 8) (h : FX9_note Q l0 l1 l2 l3 M) (k : ∀ (N : Mem), Q N → xX own cc nL rt d q L st N Rt) : xX own cc nL rt d pc L (.int l3 :: .int l2 :: .int l1 :: .ref l0 :: st) M Rt :=
  x_callV_v (n := 3) (As := [.int l1, .int l2, .int l3]) hd q hq hk_l0 (by decide) rfl rfl w1 kw2_206 kw2_207 kw1_3 kw2_208 (by decide +kernel) rfl hr (by decide) hst _ rfl (cX9_note_ hk_l0 h) k

def lbX9_nextBelow_4 (Q : Int32 → Mem → Prop) (l0 : Nat) (M : Mem) (B4 : Int32 → Prop) (l2 : Int32) : Prop :=
  ((l2 < 0 → ((¬ (M l0 9) = 0 → FX9_leaveGround (fun (M1 : Mem) => Q (M (l0 + 8) 0) M1) l0 0 M) ∧ ((M l0 9) = 0 → Q (-1) M))) ∧ (¬ l2 < 0 → vp_in l2 10 ∧ (((M (l0 + 2) (ix l2)) = (-1) → B4 (l2 + (-1))) ∧ (¬ (M (l0 + 2) (ix l2)) = (-1) → vp_in l2 10 ∧ ∀ M2 : Mem, M2 = xu M (l0 + 2) (ix l2) (-1) → Q (M (l0 + 2) (ix l2)) M2))))
def NX9_nextBelow_4 (Q : Int32 → Mem → Prop) (l0 : Nat) (l2 : Int32) (M : Mem) : Prop := xlp (fun (B : Int32 → Prop) a => lbX9_nextBelow_4 Q l0 M (fun l2 => B (l2)) a) (l2)
theorem nX9_nextBelow_4 {Q : Int32 → Mem → Prop} {l0 : Nat} {l2 : Int32} {M : Mem} (hk_l0 : SHk l0 = 9) (h : NX9_nextBelow_4 Q l0 l2 M) : xX RX9 cX9_nextBelow 4 (some .int) 2 4 [(0, .ref l0), (2, .int l2)] [] M (xQi Q) := by
  obtain ⟨n, h⟩ := h
  have hB4 : ∀ (n : Nat) (l2 : Int32), xlpn (fun (B : Int32 → Prop) a => lbX9_nextBelow_4 Q l0 M (fun l2 => B (l2)) a) n (l2) → xX RX9 cX9_nextBelow 4 (some .int) 2 4 [(0, .ref l0), (2, .int l2)] [] M (xQi Q) := by
    intro n
    induction n with
    | zero => intro l2 h; exact False.elim h
    | succ n ih =>
      intro l2 h
      have hB4 := ih
      have h : lbX9_nextBelow_4 Q l0 M (fun l2 => xlpn (fun (B : Int32 → Prop) a => lbX9_nextBelow_4 Q l0 M (fun l2 => B (l2)) a) n (l2)) l2 := h
      unfold lbX9_nextBelow_4 at h
      refine x_iload_n dX9_nextBelow_4 rfl 5 rfl ?_
      refine x_if_lt dX9_nextBelow_5 35 8 rfl rfl (fun hc => ?_) (fun hc => ?_)
      · have h := h.1 hc
        refine x_aload_n dX9_nextBelow_35 rfl 36 rfl ?_
        refine gf9_9 dX9_nextBelow_36 39 rfl hk_l0 kw1_66 ?_
        refine x_if_ne dX9_nextBelow_39 44 42 rfl rfl (fun hc => ?_) (fun hc => ?_)
        · have h := h.1 hc
          refine x_aload_n dX9_nextBelow_44 rfl 45 rfl ?_
          refine gf9_8 dX9_nextBelow_45 48 rfl hk_l0 kw1_65 ?_
          refine x_iconst dX9_nextBelow_48 kc_0 49 rfl ?_
          refine x_iaload dX9_nextBelow_49 (ly9_8 hk_l0) (by unfold vp_in; decide) 50 rfl ?_
          refine x_istore_n dX9_nextBelow_50 (Nat.le_of_ble_eq_true rfl) [(0, .ref l0), (2, .int (M (l0 + 8) 0))] rfl 51 rfl ?_
          refine x_aload_n dX9_nextBelow_51 rfl 52 rfl ?_
          refine x_iconst dX9_nextBelow_52 kc_0 53 rfl ?_
          refine kX9_leaveGround dX9_nextBelow_53 56 rfl hk_l0 kw2_201 (Nat.le_of_ble_eq_true rfl) (Nat.le_of_ble_eq_true rfl) h (fun M1 h => ?_)
          refine x_iload_n dX9_nextBelow_56 rfl 57 rfl ?_
          exact x_iret dX9_nextBelow_57 h
        · have h := h.2 hc
          refine x_iconst dX9_nextBelow_42 kc_m1 43 rfl ?_
          exact x_iret dX9_nextBelow_43 h
      · have h := h.2 hc
        refine x_aload_n dX9_nextBelow_8 rfl 9 rfl ?_
        refine gf9_2 dX9_nextBelow_9 12 rfl hk_l0 kw1_50 ?_
        refine x_iload_n dX9_nextBelow_12 rfl 13 rfl ?_
        obtain ⟨hin, h⟩ := h
        refine x_iaload dX9_nextBelow_13 (ly9_2 hk_l0) hin 14 rfl ?_
        refine x_istore_n dX9_nextBelow_14 (Nat.le_of_ble_eq_true rfl) [(0, .ref l0), (2, .int l2), (3, .int (M (l0 + 2) (ix l2)))] rfl 15 rfl ?_
        refine x_iload_n dX9_nextBelow_15 rfl 16 rfl ?_
        refine x_iconst dX9_nextBelow_16 kc_m1 17 rfl ?_
        refine x_icmp_eq dX9_nextBelow_17 29 20 rfl rfl (fun hc => ?_) (fun hc => ?_)
        · have h := h.1 hc
          refine x_iinc dX9_nextBelow_29 rfl (congrArg (l2 + ·) kc_m1) (Nat.le_of_ble_eq_true rfl) [(0, .ref l0), (2, .int (l2 + (-1))), (3, .int (M (l0 + 2) (ix l2)))] rfl 32 rfl ?_
          refine x_goto dX9_nextBelow_32 4 rfl ?_
          refine x_weak [(0, .ref l0), (2, .int (l2 + (-1)))] [0, 1] rfl ?_
          exact hB4 _ h
        · have h := h.2 hc
          refine x_aload_n dX9_nextBelow_20 rfl 21 rfl ?_
          refine gf9_2 dX9_nextBelow_21 24 rfl hk_l0 kw1_50 ?_
          refine x_iload_n dX9_nextBelow_24 rfl 25 rfl ?_
          refine x_iconst dX9_nextBelow_25 kc_m1 26 rfl ?_
          obtain ⟨hin, h⟩ := h
          refine x_iastore dX9_nextBelow_26 (ly9_2 hk_l0) hin 27 rfl (x_mem (fun M2 hM2 => ?_))
          have h := h M2 hM2
          refine x_iload_n dX9_nextBelow_27 rfl 28 rfl ?_
          exact x_iret dX9_nextBelow_28 h
  exact hB4 n l2 h
def FX9_nextBelow (Q : Int32 → Mem → Prop) (l0 : Nat) (l1 : Int32) (M : Mem) : Prop :=
  NX9_nextBelow_4 Q l0 (l1 - 1) M
theorem eX9_nextBelow {Q : Int32 → Mem → Prop} {l0 : Nat} {l1 : Int32} {M : Mem} (hk_l0 : SHk l0 = 9) (h : FX9_nextBelow Q l0 l1 M) : xX RX9 cX9_nextBelow 4 (some .int) 2 0 [(0, .ref l0), (1, .int l1)] [] M (xQi Q) := by
  unfold FX9_nextBelow at h
  refine x_iload_n dX9_nextBelow_0 rfl 1 rfl ?_
  refine x_iconst dX9_nextBelow_1 kc_1 2 rfl ?_
  refine x_isub dX9_nextBelow_2 3 rfl ?_
  refine x_istore_n dX9_nextBelow_3 (Nat.le_of_ble_eq_true rfl) [(0, .ref l0), (1, .int l1), (2, .int (l1 - 1))] rfl 4 rfl ?_
  refine x_weak [(0, .ref l0), (2, .int (l1 - 1))] [0, 2] rfl ?_
  exact nX9_nextBelow_4 hk_l0 h
theorem cX9_nextBelow_ {Q : Int32 → Mem → Prop} {l0 : Nat} {l1 : Int32} {M : Mem} (hk_l0 : SHk l0 = 9) (h : FX9_nextBelow Q l0 l1 M) : xM yX9_nextBelow cX9_nextBelow 4 (some .int) 2 [.ref l0, .int l1] M (xQi Q) := xM_of (by decide) (Nat.le_of_ble_eq_true rfl) (eX9_nextBelow hk_l0 h)
theorem kX9_nextBelow {own : String} {cc : ByteArray} {nL : Nat} {rt : Option FieldType} {d pc ix : Nat} {L : List (Nat × Value)} {st : List Value} {M : Mem} {Rt : xGt → Array Value → State → Outcome → State → Prop} {Q : Int32 → Mem → Prop} {l0 : Nat} {l1 : Int32} (hd : decode cc pc = .ok (.invokevirtual ix, 3)) (q : Nat) (hq : pc + 3 = q) (hk_l0 : SHk l0 = 9) (w1 : Cond.methodLink own ix yX9_nextBelow ∈ xTs) (hr : 2 < d) (hst : (st.map fun v => v.category).sum ≤ 8) (h : FX9_nextBelow Q l0 l1 M) (k : ∀ (r : Int32) (N : Mem), Q r N → xX own cc nL rt d q L (.int r :: st) N Rt) : xX own cc nL rt d pc L (.int l1 :: .ref l0 :: st) M Rt :=
  x_callV_i (n := 1) (As := [.int l1]) hd q hq hk_l0 (by decide) rfl rfl w1 kw2_199 ks1_0 kw1_3 kw2_200 (by decide +kernel) rfl hr (by decide) hst _ rfl (cX9_nextBelow_ hk_l0 h) k

def lbX9_climb_7 (Q : Mem → Prop) (l0 : Nat) (B7 : Int32 → Mem → Prop) (l1 : Int32) (M : Mem) : Prop :=
  ((l1 < 0 → Q M) ∧ (¬ l1 < 0 → vp_in l1 10 ∧ ((¬ (M (l0 + 2) (ix l1)) = (-1) → B7 (l1 + (-1)) M) ∧ ((M (l0 + 2) (ix l1)) = (-1) → FX9_nextBelow (fun (r2 : Int32) (M1 : Mem) => ((¬ r2 = (-1) → vp_in l1 10 ∧ ∀ M3 : Mem, M3 = xu M1 (l0 + 2) (ix l1) r2 → FX9_note (fun (M4 : Mem) => B7 (l1 + (-1)) M4) l0 2 r2 l1 M3) ∧ (r2 = (-1) → Q M1))) l0 l1 M))))
def NX9_climb_7 (Q : Mem → Prop) (l0 : Nat) (l1 : Int32) (M : Mem) : Prop := xlp (fun (B : Int32 × Mem → Prop) a => lbX9_climb_7 Q l0 (fun l1 M => B (l1, M)) a.1 a.2) (l1, M)
theorem nX9_climb_7 {Q : Mem → Prop} {l0 : Nat} {l1 : Int32} {M : Mem} (hk_l0 : SHk l0 = 9) (h : NX9_climb_7 Q l0 l1 M) : xX RX9 cX9_climb 3 none 3 7 [(0, .ref l0), (1, .int l1)] [] M (xQv Q) := by
  obtain ⟨n, h⟩ := h
  have hB7 : ∀ (n : Nat) (l1 : Int32) (M : Mem), xlpn (fun (B : Int32 × Mem → Prop) a => lbX9_climb_7 Q l0 (fun l1 M => B (l1, M)) a.1 a.2) n (l1, M) → xX RX9 cX9_climb 3 none 3 7 [(0, .ref l0), (1, .int l1)] [] M (xQv Q) := by
    intro n
    induction n with
    | zero => intro l1 M h; exact False.elim h
    | succ n ih =>
      intro l1 M h
      have hB7 := ih
      have h : lbX9_climb_7 Q l0 (fun l1 M => xlpn (fun (B : Int32 × Mem → Prop) a => lbX9_climb_7 Q l0 (fun l1 M => B (l1, M)) a.1 a.2) n (l1, M)) l1 M := h
      unfold lbX9_climb_7 at h
      refine x_iload_n dX9_climb_7 rfl 8 rfl ?_
      refine x_if_lt dX9_climb_8 53 11 rfl rfl (fun hc => ?_) (fun hc => ?_)
      · have h := h.1 hc
        exact x_vret dX9_climb_53 h
      · have h := h.2 hc
        refine x_aload_n dX9_climb_11 rfl 12 rfl ?_
        refine gf9_2 dX9_climb_12 15 rfl hk_l0 kw1_50 ?_
        refine x_iload_n dX9_climb_15 rfl 16 rfl ?_
        obtain ⟨hin, h⟩ := h
        refine x_iaload dX9_climb_16 (ly9_2 hk_l0) hin 17 rfl ?_
        refine x_iconst dX9_climb_17 kc_m1 18 rfl ?_
        refine x_icmp_ne dX9_climb_18 47 21 rfl rfl (fun hc => ?_) (fun hc => ?_)
        · have h := h.1 hc
          refine x_iinc dX9_climb_47 rfl (congrArg (l1 + ·) kc_m1) (Nat.le_of_ble_eq_true rfl) [(0, .ref l0), (1, .int (l1 + (-1)))] rfl 50 rfl ?_
          refine x_goto dX9_climb_50 7 rfl ?_
          exact hB7 _ _ h
        · have h := h.2 hc
          refine x_aload_n dX9_climb_21 rfl 22 rfl ?_
          refine x_iload_n dX9_climb_22 rfl 23 rfl ?_
          refine kX9_nextBelow dX9_climb_23 26 rfl hk_l0 kw2_197 (Nat.le_of_ble_eq_true rfl) (Nat.le_of_ble_eq_true rfl) h (fun r2 M1 h => ?_)
          refine x_istore_n dX9_climb_26 (Nat.le_of_ble_eq_true rfl) [(0, .ref l0), (1, .int l1), (2, .int r2)] rfl 27 rfl ?_
          refine x_iload_n dX9_climb_27 rfl 28 rfl ?_
          refine x_iconst dX9_climb_28 kc_m1 29 rfl ?_
          refine x_icmp_ne dX9_climb_29 33 32 rfl rfl (fun hc => ?_) (fun hc => ?_)
          · have h := h.1 hc
            refine x_aload_n dX9_climb_33 rfl 34 rfl ?_
            refine gf9_2 dX9_climb_34 37 rfl hk_l0 kw1_50 ?_
            refine x_iload_n dX9_climb_37 rfl 38 rfl ?_
            refine x_iload_n dX9_climb_38 rfl 39 rfl ?_
            obtain ⟨hin, h⟩ := h
            refine x_iastore dX9_climb_39 (ly9_2 hk_l0) hin 40 rfl (x_mem (fun M3 hM3 => ?_))
            have h := h M3 hM3
            refine x_aload_n dX9_climb_40 rfl 41 rfl ?_
            refine x_iconst dX9_climb_41 kc_2 42 rfl ?_
            refine x_iload_n dX9_climb_42 rfl 43 rfl ?_
            refine x_iload_n dX9_climb_43 rfl 44 rfl ?_
            refine kX9_note dX9_climb_44 47 rfl hk_l0 kw2_205 (Nat.le_of_ble_eq_true rfl) (Nat.le_of_ble_eq_true rfl) h (fun M4 h => ?_)
            refine x_iinc dX9_climb_47 rfl (congrArg (l1 + ·) kc_m1) (Nat.le_of_ble_eq_true rfl) [(0, .ref l0), (1, .int (l1 + (-1))), (2, .int r2)] rfl 50 rfl ?_
            refine x_goto dX9_climb_50 7 rfl ?_
            refine x_weak [(0, .ref l0), (1, .int (l1 + (-1)))] [0, 1] rfl ?_
            exact hB7 _ _ h
          · have h := h.2 hc
            exact x_vret dX9_climb_32 h
  exact hB7 n l1 M h
def FX9_climb (Q : Mem → Prop) (l0 : Nat) (M : Mem) : Prop :=
  NX9_climb_7 Q l0 ((M l0 10) - 1) M
theorem eX9_climb {Q : Mem → Prop} {l0 : Nat} {M : Mem} (hk_l0 : SHk l0 = 9) (h : FX9_climb Q l0 M) : xX RX9 cX9_climb 3 none 3 0 [(0, .ref l0)] [] M (xQv Q) := by
  unfold FX9_climb at h
  refine x_aload_n dX9_climb_0 rfl 1 rfl ?_
  refine gf9_10 dX9_climb_1 4 rfl hk_l0 kw1_68 ?_
  refine x_iconst dX9_climb_4 kc_1 5 rfl ?_
  refine x_isub dX9_climb_5 6 rfl ?_
  refine x_istore_n dX9_climb_6 (Nat.le_of_ble_eq_true rfl) [(0, .ref l0), (1, .int ((M l0 10) - 1))] rfl 7 rfl ?_
  exact nX9_climb_7 hk_l0 h
theorem cX9_climb_ {Q : Mem → Prop} {l0 : Nat} {M : Mem} (hk_l0 : SHk l0 = 9) (h : FX9_climb Q l0 M) : xM yX9_climb cX9_climb 3 none 3 [.ref l0] M (xQv Q) := xM_of (by decide) (Nat.le_of_ble_eq_true rfl) (eX9_climb hk_l0 h)
theorem kX9_climb {own : String} {cc : ByteArray} {nL : Nat} {rt : Option FieldType} {d pc ix : Nat} {L : List (Nat × Value)} {st : List Value} {M : Mem} {Rt : xGt → Array Value → State → Outcome → State → Prop} {Q : Mem → Prop} {l0 : Nat} (hd : decode cc pc = .ok (.invokevirtual ix, 3)) (q : Nat) (hq : pc + 3 = q) (hk_l0 : SHk l0 = 9) (w1 : Cond.methodLink own ix yX9_climb ∈ xTs) (hr : 3 < d) (hst : (st.map fun v => v.category).sum ≤ 8) (h : FX9_climb Q l0 M) (k : ∀ (N : Mem), Q N → xX own cc nL rt d q L st N Rt) : xX own cc nL rt d pc L (.ref l0 :: st) M Rt :=
  x_callV_v (n := 0) (As := []) hd q hq hk_l0 (by decide) rfl rfl w1 kw2_194 kw2_195 kw1_3 kw2_196 (by decide +kernel) rfl hr (by decide) hst _ rfl (cX9_climb_ hk_l0 h) k
