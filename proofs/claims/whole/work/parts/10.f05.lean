def NX9_storks_71 (Q : Int32 → Prop) (B4 : Int32 → Int32 → Prop) (l0 : Nat) (l1 : Int32) (l2 : Int32) (l3 : Int32) (s0 : Int32) (M : Mem) : Prop :=
  ((l3 = 0 → B4 l1 (l2 + 1)) ∧ (¬ l3 = 0 → ((s0 = 0 → B4 l1 (l2 + 1)) ∧ (¬ s0 = 0 → ∀ y1 : Int32, y1 = l1 ||| ((1 : Int32) <<< (l2 &&& 31)) → B4 y1 (l2 + 1)))))
theorem nX9_storks_71 {Q : Int32 → Prop} {B4 : Int32 → Int32 → Prop} {l0 : Nat} {l1 : Int32} {l2 : Int32} {l3 : Int32} {s0 : Int32} {M : Mem} (hB4 : ∀ (l1 : Int32) (l2 : Int32), B4 l1 l2 → xX RX9 cX9_storks 5 (some .int) 1 4 [(0, .ref l0), (1, .int l1), (2, .int l2)] [] M (xQi (xP M Q))) (hk_l0 : SHk l0 = 9) (h : NX9_storks_71 Q B4 l0 l1 l2 l3 s0 M) : xX RX9 cX9_storks 5 (some .int) 1 71 [(0, .ref l0), (1, .int l1), (2, .int l2), (3, .int l3)] [.int s0] M (xQi (xP M Q)) := by
  unfold NX9_storks_71 at h
  refine x_istore dX9_storks_71 (Nat.le_of_ble_eq_true rfl) [(0, .ref l0), (1, .int l1), (2, .int l2), (3, .int l3), (4, .int s0)] rfl 73 rfl ?_
  refine x_iload_n dX9_storks_73 rfl 74 rfl ?_
  refine x_if_eq dX9_storks_74 88 77 rfl rfl (fun hc => ?_) (fun hc => ?_)
  · have h := h.1 hc
    refine x_iinc dX9_storks_88 rfl (congrArg (l2 + ·) kc_1) (Nat.le_of_ble_eq_true rfl) [(0, .ref l0), (1, .int l1), (2, .int (l2 + 1)), (3, .int l3), (4, .int s0)] rfl 91 rfl ?_
    refine x_goto dX9_storks_91 4 rfl ?_
    refine x_weak [(0, .ref l0), (1, .int l1), (2, .int (l2 + 1))] [0, 1, 2] rfl ?_
    exact hB4 _ _ h
  · have h := h.2 hc
    refine x_iload dX9_storks_77 rfl 79 rfl ?_
    refine x_if_eq dX9_storks_79 88 82 rfl rfl (fun hc => ?_) (fun hc => ?_)
    · have h := h.1 hc
      refine x_iinc dX9_storks_88 rfl (congrArg (l2 + ·) kc_1) (Nat.le_of_ble_eq_true rfl) [(0, .ref l0), (1, .int l1), (2, .int (l2 + 1)), (3, .int l3), (4, .int s0)] rfl 91 rfl ?_
      refine x_goto dX9_storks_91 4 rfl ?_
      refine x_weak [(0, .ref l0), (1, .int l1), (2, .int (l2 + 1))] [0, 1, 2] rfl ?_
      exact hB4 _ _ h
    · have h := h.2 hc
      refine x_iload_n dX9_storks_82 rfl 83 rfl ?_
      refine x_iconst dX9_storks_83 kc_1 84 rfl ?_
      refine x_iload_n dX9_storks_84 rfl 85 rfl ?_
      refine x_ishl dX9_storks_85 86 rfl ?_
      refine x_ior dX9_storks_86 87 rfl ?_
      refine x_top (fun y1 hy1 => ?_)
      have h := h y1 hy1
      refine x_istore_n dX9_storks_87 (Nat.le_of_ble_eq_true rfl) [(0, .ref l0), (1, .int y1), (2, .int l2), (3, .int l3), (4, .int s0)] rfl 88 rfl ?_
      refine x_iinc dX9_storks_88 rfl (congrArg (l2 + ·) kc_1) (Nat.le_of_ble_eq_true rfl) [(0, .ref l0), (1, .int y1), (2, .int (l2 + 1)), (3, .int l3), (4, .int s0)] rfl 91 rfl ?_
      refine x_goto dX9_storks_91 4 rfl ?_
      refine x_weak [(0, .ref l0), (1, .int y1), (2, .int (l2 + 1))] [0, 1, 2] rfl ?_
      exact hB4 _ _ h
def NX9_storks_66 (Q : Int32 → Prop) (B4 : Int32 → Int32 → Prop) (l0 : Nat) (l1 : Int32) (l2 : Int32) (l3 : Int32) (M : Mem) : Prop :=
  NX9_storks_71 Q B4 l0 l1 l2 l3 1 M
theorem nX9_storks_66 {Q : Int32 → Prop} {B4 : Int32 → Int32 → Prop} {l0 : Nat} {l1 : Int32} {l2 : Int32} {l3 : Int32} {M : Mem} (hB4 : ∀ (l1 : Int32) (l2 : Int32), B4 l1 l2 → xX RX9 cX9_storks 5 (some .int) 1 4 [(0, .ref l0), (1, .int l1), (2, .int l2)] [] M (xQi (xP M Q))) (hk_l0 : SHk l0 = 9) (h : NX9_storks_66 Q B4 l0 l1 l2 l3 M) : xX RX9 cX9_storks 5 (some .int) 1 66 [(0, .ref l0), (1, .int l1), (2, .int l2), (3, .int l3)] [] M (xQi (xP M Q)) := by
  unfold NX9_storks_66 at h
  refine x_iconst dX9_storks_66 kc_1 67 rfl ?_
  refine x_goto dX9_storks_67 71 rfl ?_
  exact nX9_storks_71 hB4 hk_l0 h
def NX9_storks_38 (Q : Int32 → Prop) (B4 : Int32 → Int32 → Prop) (l0 : Nat) (l1 : Int32) (l2 : Int32) (s0 : Int32) (M : Mem) : Prop :=
  (((M l0 10) ≤ (l2 + 1) → NX9_storks_66 Q B4 l0 l1 l2 s0 M) ∧ (¬ (M l0 10) ≤ (l2 + 1) → vp_in l2 10 ∧ vp_in (l2 + 1) 10 ∧ (((M (l0 + 1) (ix l2)) ≤ (M (l0 + 1) (ix (l2 + 1))) → NX9_storks_71 Q B4 l0 l1 l2 s0 0 M) ∧ (¬ (M (l0 + 1) (ix l2)) ≤ (M (l0 + 1) (ix (l2 + 1))) → NX9_storks_66 Q B4 l0 l1 l2 s0 M))))
theorem nX9_storks_38 {Q : Int32 → Prop} {B4 : Int32 → Int32 → Prop} {l0 : Nat} {l1 : Int32} {l2 : Int32} {s0 : Int32} {M : Mem} (hB4 : ∀ (l1 : Int32) (l2 : Int32), B4 l1 l2 → xX RX9 cX9_storks 5 (some .int) 1 4 [(0, .ref l0), (1, .int l1), (2, .int l2)] [] M (xQi (xP M Q))) (hk_l0 : SHk l0 = 9) (h : NX9_storks_38 Q B4 l0 l1 l2 s0 M) : xX RX9 cX9_storks 5 (some .int) 1 38 [(0, .ref l0), (1, .int l1), (2, .int l2)] [.int s0] M (xQi (xP M Q)) := by
  unfold NX9_storks_38 at h
  refine x_istore_n dX9_storks_38 (Nat.le_of_ble_eq_true rfl) [(0, .ref l0), (1, .int l1), (2, .int l2), (3, .int s0)] rfl 39 rfl ?_
  refine x_iload_n dX9_storks_39 rfl 40 rfl ?_
  refine x_iconst dX9_storks_40 kc_1 41 rfl ?_
  refine x_iadd dX9_storks_41 42 rfl ?_
  refine x_aload_n dX9_storks_42 rfl 43 rfl ?_
  refine gf9_10 dX9_storks_43 46 rfl hk_l0 kw1_68 ?_
  refine x_icmp_ge dX9_storks_46 66 49 rfl rfl (fun hc => ?_) (fun hc => ?_)
  · have h := h.1 hc
    exact nX9_storks_66 hB4 hk_l0 h
  · have h := h.2 hc
    refine x_aload_n dX9_storks_49 rfl 50 rfl ?_
    refine gf9_1 dX9_storks_50 53 rfl hk_l0 kw1_46 ?_
    refine x_iload_n dX9_storks_53 rfl 54 rfl ?_
    obtain ⟨hin, h⟩ := h
    refine x_iaload dX9_storks_54 (ly9_1 hk_l0) hin 55 rfl ?_
    refine x_aload_n dX9_storks_55 rfl 56 rfl ?_
    refine gf9_1 dX9_storks_56 59 rfl hk_l0 kw1_46 ?_
    refine x_iload_n dX9_storks_59 rfl 60 rfl ?_
    refine x_iconst dX9_storks_60 kc_1 61 rfl ?_
    refine x_iadd dX9_storks_61 62 rfl ?_
    obtain ⟨hin, h⟩ := h
    refine x_iaload dX9_storks_62 (ly9_1 hk_l0) hin 63 rfl ?_
    refine x_icmp_le dX9_storks_63 70 66 rfl rfl (fun hc => ?_) (fun hc => ?_)
    · have h := h.1 hc
      refine x_iconst dX9_storks_70 kc_0 71 rfl ?_
      exact nX9_storks_71 hB4 hk_l0 h
    · have h := h.2 hc
      exact nX9_storks_66 hB4 hk_l0 h
def NX9_storks_33 (Q : Int32 → Prop) (B4 : Int32 → Int32 → Prop) (l0 : Nat) (l1 : Int32) (l2 : Int32) (M : Mem) : Prop :=
  NX9_storks_38 Q B4 l0 l1 l2 1 M
theorem nX9_storks_33 {Q : Int32 → Prop} {B4 : Int32 → Int32 → Prop} {l0 : Nat} {l1 : Int32} {l2 : Int32} {M : Mem} (hB4 : ∀ (l1 : Int32) (l2 : Int32), B4 l1 l2 → xX RX9 cX9_storks 5 (some .int) 1 4 [(0, .ref l0), (1, .int l1), (2, .int l2)] [] M (xQi (xP M Q))) (hk_l0 : SHk l0 = 9) (h : NX9_storks_33 Q B4 l0 l1 l2 M) : xX RX9 cX9_storks 5 (some .int) 1 33 [(0, .ref l0), (1, .int l1), (2, .int l2)] [] M (xQi (xP M Q)) := by
  unfold NX9_storks_33 at h
  refine x_iconst dX9_storks_33 kc_1 34 rfl ?_
  refine x_goto dX9_storks_34 38 rfl ?_
  exact nX9_storks_38 hB4 hk_l0 h
def lbX9_storks_4 (Q : Int32 → Prop) (l0 : Nat) (M : Mem) (B4 : Int32 → Int32 → Prop) (l1 : Int32) (l2 : Int32) : Prop :=
  (((M l0 10) ≤ l2 → Q l1) ∧ (¬ (M l0 10) ≤ l2 → ((l2 = 0 → NX9_storks_33 Q B4 l0 l1 l2 M) ∧ (¬ l2 = 0 → vp_in l2 10 ∧ vp_in (l2 - 1) 10 ∧ (((M (l0 + 1) (ix l2)) ≤ (M (l0 + 1) (ix (l2 - 1))) → NX9_storks_38 Q B4 l0 l1 l2 0 M) ∧ (¬ (M (l0 + 1) (ix l2)) ≤ (M (l0 + 1) (ix (l2 - 1))) → NX9_storks_33 Q B4 l0 l1 l2 M))))))
def NX9_storks_4 (Q : Int32 → Prop) (l0 : Nat) (l1 : Int32) (l2 : Int32) (M : Mem) : Prop := xlp (fun (B : Int32 × Int32 → Prop) a => lbX9_storks_4 Q l0 M (fun l1 l2 => B (l1, l2)) a.1 a.2) (l1, l2)
theorem nX9_storks_4 {Q : Int32 → Prop} {l0 : Nat} {l1 : Int32} {l2 : Int32} {M : Mem} (hk_l0 : SHk l0 = 9) (h : NX9_storks_4 Q l0 l1 l2 M) : xX RX9 cX9_storks 5 (some .int) 1 4 [(0, .ref l0), (1, .int l1), (2, .int l2)] [] M (xQi (xP M Q)) := by
  obtain ⟨n, h⟩ := h
  have hB4 : ∀ (n : Nat) (l1 : Int32) (l2 : Int32), xlpn (fun (B : Int32 × Int32 → Prop) a => lbX9_storks_4 Q l0 M (fun l1 l2 => B (l1, l2)) a.1 a.2) n (l1, l2) → xX RX9 cX9_storks 5 (some .int) 1 4 [(0, .ref l0), (1, .int l1), (2, .int l2)] [] M (xQi (xP M Q)) := by
    intro n
    induction n with
    | zero => intro l1 l2 h; exact False.elim h
    | succ n ih =>
      intro l1 l2 h
      have hB4 := ih
      have h : lbX9_storks_4 Q l0 M (fun l1 l2 => xlpn (fun (B : Int32 × Int32 → Prop) a => lbX9_storks_4 Q l0 M (fun l1 l2 => B (l1, l2)) a.1 a.2) n (l1, l2)) l1 l2 := h
      unfold lbX9_storks_4 at h
      refine x_iload_n dX9_storks_4 rfl 5 rfl ?_
      refine x_aload_n dX9_storks_5 rfl 6 rfl ?_
      refine gf9_10 dX9_storks_6 9 rfl hk_l0 kw1_68 ?_
      refine x_icmp_ge dX9_storks_9 94 12 rfl rfl (fun hc => ?_) (fun hc => ?_)
      · have h := h.1 hc
        refine x_iload_n dX9_storks_94 rfl 95 rfl ?_
        exact x_iret dX9_storks_95 ⟨rfl, h⟩
      · have h := h.2 hc
        refine x_iload_n dX9_storks_12 rfl 13 rfl ?_
        refine x_if_eq dX9_storks_13 33 16 rfl rfl (fun hc => ?_) (fun hc => ?_)
        · have h := h.1 hc
          exact nX9_storks_33 hB4 hk_l0 h
        · have h := h.2 hc
          refine x_aload_n dX9_storks_16 rfl 17 rfl ?_
          refine gf9_1 dX9_storks_17 20 rfl hk_l0 kw1_46 ?_
          refine x_iload_n dX9_storks_20 rfl 21 rfl ?_
          obtain ⟨hin, h⟩ := h
          refine x_iaload dX9_storks_21 (ly9_1 hk_l0) hin 22 rfl ?_
          refine x_aload_n dX9_storks_22 rfl 23 rfl ?_
          refine gf9_1 dX9_storks_23 26 rfl hk_l0 kw1_46 ?_
          refine x_iload_n dX9_storks_26 rfl 27 rfl ?_
          refine x_iconst dX9_storks_27 kc_1 28 rfl ?_
          refine x_isub dX9_storks_28 29 rfl ?_
          obtain ⟨hin, h⟩ := h
          refine x_iaload dX9_storks_29 (ly9_1 hk_l0) hin 30 rfl ?_
          refine x_icmp_le dX9_storks_30 37 33 rfl rfl (fun hc => ?_) (fun hc => ?_)
          · have h := h.1 hc
            refine x_iconst dX9_storks_37 kc_0 38 rfl ?_
            exact nX9_storks_38 hB4 hk_l0 h
          · have h := h.2 hc
            exact nX9_storks_33 hB4 hk_l0 h
  exact hB4 n l1 l2 h
def FX9_storks (Q : Int32 → Prop) (l0 : Nat) (M : Mem) : Prop :=
  NX9_storks_4 Q l0 0 0 M
theorem eX9_storks {Q : Int32 → Prop} {l0 : Nat} {M : Mem} (hk_l0 : SHk l0 = 9) (h : FX9_storks Q l0 M) : xX RX9 cX9_storks 5 (some .int) 1 0 [(0, .ref l0)] [] M (xQi (xP M Q)) := by
  unfold FX9_storks at h
  refine x_iconst dX9_storks_0 kc_0 1 rfl ?_
  refine x_istore_n dX9_storks_1 (Nat.le_of_ble_eq_true rfl) [(0, .ref l0), (1, .int 0)] rfl 2 rfl ?_
  refine x_iconst dX9_storks_2 kc_0 3 rfl ?_
  refine x_istore_n dX9_storks_3 (Nat.le_of_ble_eq_true rfl) [(0, .ref l0), (1, .int 0), (2, .int 0)] rfl 4 rfl ?_
  exact nX9_storks_4 hk_l0 h
theorem cX9_storks_ {Q : Int32 → Prop} {l0 : Nat} {M : Mem} (hk_l0 : SHk l0 = 9) (h : FX9_storks Q l0 M) : xM yX9_storks cX9_storks 5 (some .int) 1 [.ref l0] M (xQi (xP M Q)) := xM_of (by decide +kernel) (Nat.le_of_ble_eq_true rfl) (eX9_storks hk_l0 h)
theorem kX9_storks {own : String} {cc : ByteArray} {nL : Nat} {rt : Option FieldType} {d pc ix : Nat} {L : List (Nat × Value)} {st : List Value} {M : Mem} {Rt : xGt → Array Value → State → Outcome → State → Prop} {Q : Int32 → Prop} {l0 : Nat} (hd : decode cc pc = .ok (.invokevirtual ix, 3)) (q : Nat) (hq : pc + 3 = q) (hk_l0 : SHk l0 = 9) (w1 : Cond.methodLink own ix yX9_storks ∈ xTs) (hr : 1 < d) (hst : (st.map fun v => v.category).sum ≤ 8) (h : FX9_storks Q l0 M) (k : ∀ (r : Int32), Q r → xX own cc nL rt d q L (.int r :: st) M Rt) : xX own cc nL rt d pc L (.ref l0 :: st) M Rt :=
  x_callV_i (n := 0) (As := []) hd q hq hk_l0 (by decide) rfl rfl w1 kw5_44 kw5_45 kw1_3 kw5_46 (by decide +kernel) rfl hr (by decide) hst _ rfl (cX9_storks_ hk_l0 h) (fun r N hN => by obtain ⟨rfl, hN⟩ := hN; exact k r hN)
def lbX9_hearOneAnother_50 (Q : Bool → Prop) (l0 : Nat) (l3 : Int32) (l4 : Int32) (M : Mem) (B50 : Int32 → Prop) (l5 : Int32) : Prop :=
  ((l4 ≤ l5 → Q true) ∧ (¬ l4 ≤ l5 → vp_in l5 10 ∧ (((M (l0 + 1) (ix l5)) < l3 → B50 (l5 + 1)) ∧ (¬ (M (l0 + 1) (ix l5)) < l3 → Q false))))
def NX9_hearOneAnother_50 (Q : Bool → Prop) (l0 : Nat) (l3 : Int32) (l4 : Int32) (l5 : Int32) (M : Mem) : Prop := xlp (fun (B : Int32 → Prop) a => lbX9_hearOneAnother_50 Q l0 l3 l4 M (fun l5 => B (l5)) a) (l5)
theorem nX9_hearOneAnother_50 {Q : Bool → Prop} {l0 : Nat} {l3 : Int32} {l4 : Int32} {l5 : Int32} {M : Mem} (hk_l0 : SHk l0 = 9) (h : NX9_hearOneAnother_50 Q l0 l3 l4 l5 M) : xX RX9 cX9_hearOneAnother 6 (some .boolean) 2 50 [(0, .ref l0), (3, .int l3), (4, .int l4), (5, .int l5)] [] M (xQb (xP M Q)) := by
  obtain ⟨n, h⟩ := h
  have hB50 : ∀ (n : Nat) (l5 : Int32), xlpn (fun (B : Int32 → Prop) a => lbX9_hearOneAnother_50 Q l0 l3 l4 M (fun l5 => B (l5)) a) n (l5) → xX RX9 cX9_hearOneAnother 6 (some .boolean) 2 50 [(0, .ref l0), (3, .int l3), (4, .int l4), (5, .int l5)] [] M (xQb (xP M Q)) := by
    intro n
    induction n with
    | zero => intro l5 h; exact False.elim h
    | succ n ih =>
      intro l5 h
      have hB50 := ih
      have h : lbX9_hearOneAnother_50 Q l0 l3 l4 M (fun l5 => xlpn (fun (B : Int32 → Prop) a => lbX9_hearOneAnother_50 Q l0 l3 l4 M (fun l5 => B (l5)) a) n (l5)) l5 := h
      unfold lbX9_hearOneAnother_50 at h
      refine x_iload dX9_hearOneAnother_50 rfl 52 rfl ?_
      refine x_iload dX9_hearOneAnother_52 rfl 54 rfl ?_
      refine x_icmp_ge dX9_hearOneAnother_54 76 57 rfl rfl (fun hc => ?_) (fun hc => ?_)
      · have h := h.1 hc
        refine x_iconst dX9_hearOneAnother_76 kc_1 77 rfl ?_
        exact x_zret (z := true) dX9_hearOneAnother_77 ⟨rfl, h⟩
      · have h := h.2 hc
        refine x_aload_n dX9_hearOneAnother_57 rfl 58 rfl ?_
        refine gf9_1 dX9_hearOneAnother_58 61 rfl hk_l0 kw1_46 ?_
        refine x_iload dX9_hearOneAnother_61 rfl 63 rfl ?_
        obtain ⟨hin, h⟩ := h
        refine x_iaload dX9_hearOneAnother_63 (ly9_1 hk_l0) hin 64 rfl ?_
        refine x_iload_n dX9_hearOneAnother_64 rfl 65 rfl ?_
        refine x_icmp_lt dX9_hearOneAnother_65 70 68 rfl rfl (fun hc => ?_) (fun hc => ?_)
        · have h := h.1 hc
          refine x_iinc dX9_hearOneAnother_70 rfl (congrArg (l5 + ·) kc_1) (Nat.le_of_ble_eq_true rfl) [(0, .ref l0), (3, .int l3), (4, .int l4), (5, .int (l5 + 1))] rfl 73 rfl ?_
          refine x_goto dX9_hearOneAnother_73 50 rfl ?_
          exact hB50 _ h
        · have h := h.2 hc
          refine x_iconst dX9_hearOneAnother_68 kc_0 69 rfl ?_
          exact x_zret (z := false) dX9_hearOneAnother_69 ⟨rfl, h⟩
  exact hB50 n l5 h
def FX9_hearOneAnother (Q : Bool → Prop) (l0 : Nat) (l1 : Int32) (l2 : Int32) (M : Mem) : Prop :=
  FX9_isPillar (fun (r1 : Bool) => ((r1 = false → Q false) ∧ (r1 = true → FX9_isPillar (fun (r2 : Bool) => ((r2 = true → vp_in l1 10 ∧ vp_in l2 10 ∧ FJ9_min_7cf53 (fun (r3 : Int32) => FJ9_max_7cf53 (fun (r4 : Int32) => FJ9_min_7cf53 (fun (r5 : Int32) => NX9_hearOneAnother_50 Q l0 r3 r4 (r5 + 1) M) l1 l2 M) l1 l2 M) (M (l0 + 1) (ix l1)) (M (l0 + 1) (ix l2)) M) ∧ (r2 = false → Q false))) l0 l2 M))) l0 l1 M
theorem eX9_hearOneAnother {Q : Bool → Prop} {l0 : Nat} {l1 : Int32} {l2 : Int32} {M : Mem} (hk_l0 : SHk l0 = 9) (h : FX9_hearOneAnother Q l0 l1 l2 M) : xX RX9 cX9_hearOneAnother 6 (some .boolean) 2 0 [(0, .ref l0), (1, .int l1), (2, .int l2)] [] M (xQb (xP M Q)) := by
  unfold FX9_hearOneAnother at h
  refine x_aload_n dX9_hearOneAnother_0 rfl 1 rfl ?_
  refine x_iload_n dX9_hearOneAnother_1 rfl 2 rfl ?_
  refine kX9_isPillar dX9_hearOneAnother_2 5 rfl hk_l0 kw3_13 (Nat.le_of_ble_eq_true rfl) (Nat.le_of_ble_eq_true rfl) h (fun r1 h => ?_)
  refine x_if_eq_b dX9_hearOneAnother_5 16 8 rfl rfl (fun hc => ?_) (fun hc => ?_)
  · have h := h.1 hc
    refine x_iconst dX9_hearOneAnother_16 kc_0 17 rfl ?_
    exact x_zret (z := false) dX9_hearOneAnother_17 ⟨rfl, h⟩
  · have h := h.2 hc
    refine x_aload_n dX9_hearOneAnother_8 rfl 9 rfl ?_
    refine x_iload_n dX9_hearOneAnother_9 rfl 10 rfl ?_
    refine kX9_isPillar dX9_hearOneAnother_10 13 rfl hk_l0 kw3_13 (Nat.le_of_ble_eq_true rfl) (Nat.le_of_ble_eq_true rfl) h (fun r2 h => ?_)
    refine x_if_ne_b dX9_hearOneAnother_13 18 16 rfl rfl (fun hc => ?_) (fun hc => ?_)
    · have h := h.1 hc
      refine x_aload_n dX9_hearOneAnother_18 rfl 19 rfl ?_
      refine gf9_1 dX9_hearOneAnother_19 22 rfl hk_l0 kw1_46 ?_
      refine x_iload_n dX9_hearOneAnother_22 rfl 23 rfl ?_
      obtain ⟨hin, h⟩ := h
      refine x_iaload dX9_hearOneAnother_23 (ly9_1 hk_l0) hin 24 rfl ?_
      refine x_aload_n dX9_hearOneAnother_24 rfl 25 rfl ?_
      refine gf9_1 dX9_hearOneAnother_25 28 rfl hk_l0 kw1_46 ?_
      refine x_iload_n dX9_hearOneAnother_28 rfl 29 rfl ?_
      obtain ⟨hin, h⟩ := h
      refine x_iaload dX9_hearOneAnother_29 (ly9_1 hk_l0) hin 30 rfl ?_
      refine kJ9_min_7cf53 dX9_hearOneAnother_30 33 rfl kw3_29 (Nat.le_of_ble_eq_true rfl) (Nat.le_of_ble_eq_true rfl) h (fun r3 h => ?_)
      refine x_istore_n dX9_hearOneAnother_33 (Nat.le_of_ble_eq_true rfl) [(0, .ref l0), (1, .int l1), (2, .int l2), (3, .int r3)] rfl 34 rfl ?_
      refine x_iload_n dX9_hearOneAnother_34 rfl 35 rfl ?_
      refine x_iload_n dX9_hearOneAnother_35 rfl 36 rfl ?_
      refine kJ9_max_7cf53 dX9_hearOneAnother_36 39 rfl kw3_127 (Nat.le_of_ble_eq_true rfl) (Nat.le_of_ble_eq_true rfl) h (fun r4 h => ?_)
      refine x_istore dX9_hearOneAnother_39 (Nat.le_of_ble_eq_true rfl) [(0, .ref l0), (1, .int l1), (2, .int l2), (3, .int r3), (4, .int r4)] rfl 41 rfl ?_
      refine x_iload_n dX9_hearOneAnother_41 rfl 42 rfl ?_
      refine x_iload_n dX9_hearOneAnother_42 rfl 43 rfl ?_
      refine kJ9_min_7cf53 dX9_hearOneAnother_43 46 rfl kw3_29 (Nat.le_of_ble_eq_true rfl) (Nat.le_of_ble_eq_true rfl) h (fun r5 h => ?_)
      refine x_iconst dX9_hearOneAnother_46 kc_1 47 rfl ?_
      refine x_iadd dX9_hearOneAnother_47 48 rfl ?_
      refine x_istore dX9_hearOneAnother_48 (Nat.le_of_ble_eq_true rfl) [(0, .ref l0), (1, .int l1), (2, .int l2), (3, .int r3), (4, .int r4), (5, .int (r5 + 1))] rfl 50 rfl ?_
      refine x_weak [(0, .ref l0), (3, .int r3), (4, .int r4), (5, .int (r5 + 1))] [0, 3, 4, 5] rfl ?_
      exact nX9_hearOneAnother_50 hk_l0 h
    · have h := h.2 hc
      refine x_iconst dX9_hearOneAnother_16 kc_0 17 rfl ?_
      exact x_zret (z := false) dX9_hearOneAnother_17 ⟨rfl, h⟩
theorem cX9_hearOneAnother_ {Q : Bool → Prop} {l0 : Nat} {l1 : Int32} {l2 : Int32} {M : Mem} (hk_l0 : SHk l0 = 9) (h : FX9_hearOneAnother Q l0 l1 l2 M) : xM yX9_hearOneAnother cX9_hearOneAnother 6 (some .boolean) 2 [.ref l0, .int l1, .int l2] M (xQb (xP M Q)) := xM_of (by decide +kernel) (Nat.le_of_ble_eq_true rfl) (eX9_hearOneAnother hk_l0 h)
theorem kX9_hearOneAnother {own : String} {cc : ByteArray} {nL : Nat} {rt : Option FieldType} {d pc ix : Nat} {L : List (Nat × Value)} {st : List Value} {M : Mem} {Rt : xGt → Array Value → State → Outcome → State → Prop} {Q : Bool → Prop} {l0 : Nat} {l1 : Int32} {l2 : Int32} (hd : decode cc pc = .ok (.invokevirtual ix, 3)) (q : Nat) (hq : pc + 3 = q) (hk_l0 : SHk l0 = 9) (w1 : Cond.methodLink own ix yX9_hearOneAnother ∈ xTs) (hr : 2 < d) (hst : (st.map fun v => v.category).sum ≤ 8) (h : FX9_hearOneAnother Q l0 l1 l2 M) (k : ∀ (r : Bool), Q r → xX own cc nL rt d q L (.int (bI r) :: st) M Rt) : xX own cc nL rt d pc L (.int l2 :: .int l1 :: .ref l0 :: st) M Rt :=
  x_callV_b (n := 2) (As := [.int l1, .int l2]) hd q hq hk_l0 (by decide) rfl rfl w1 kw5_52 kw5_53 kw1_3 kw5_54 (by decide +kernel) rfl hr (by decide) hst _ rfl (cX9_hearOneAnother_ hk_l0 h) (fun r N hN => by obtain ⟨rfl, hN⟩ := hN; exact k r hN)
def FX9_heap (Q : Int32 → Prop) (l0 : Nat) (l1 : Int32) (M : Mem) : Prop :=
  FX9_sitterOn (fun (r1 : Int32) => FX9_isSaint (fun (r2 : Bool) => ((r2 = false → Q 0) ∧ (r2 = true → vp_in r1 14 ∧ FJ9_abs_0f7a4 (fun (r3 : Int32) => Q r3) (M (l0 + 6) (ix r1)) M))) l0 r1 M) l0 l1 M
theorem eX9_heap {Q : Int32 → Prop} {l0 : Nat} {l1 : Int32} {M : Mem} (hk_l0 : SHk l0 = 9) (h : FX9_heap Q l0 l1 M) : xX RX9 cX9_heap 3 (some .int) 3 0 [(0, .ref l0), (1, .int l1)] [] M (xQi (xP M Q)) := by
  unfold FX9_heap at h
  refine x_aload_n dX9_heap_0 rfl 1 rfl ?_
  refine x_iload_n dX9_heap_1 rfl 2 rfl ?_
  refine kX9_sitterOn dX9_heap_2 5 rfl hk_l0 kw5_121 (Nat.le_of_ble_eq_true rfl) (Nat.le_of_ble_eq_true rfl) h (fun r1 h => ?_)
  refine x_istore_n dX9_heap_5 (Nat.le_of_ble_eq_true rfl) [(0, .ref l0), (1, .int l1), (2, .int r1)] rfl 6 rfl ?_
  refine x_aload_n dX9_heap_6 rfl 7 rfl ?_
  refine x_iload_n dX9_heap_7 rfl 8 rfl ?_
  refine kX9_isSaint dX9_heap_8 11 rfl hk_l0 kw2_233 (Nat.le_of_ble_eq_true rfl) (Nat.le_of_ble_eq_true rfl) h (fun r2 h => ?_)
  refine x_if_eq_b dX9_heap_11 26 14 rfl rfl (fun hc => ?_) (fun hc => ?_)
  · have h := h.1 hc
    refine x_iconst dX9_heap_26 kc_0 27 rfl ?_
    exact x_iret dX9_heap_27 ⟨rfl, h⟩
  · have h := h.2 hc
    refine x_aload_n dX9_heap_14 rfl 15 rfl ?_
    refine gf9_6 dX9_heap_15 18 rfl hk_l0 kw1_60 ?_
    refine x_iload_n dX9_heap_18 rfl 19 rfl ?_
    obtain ⟨hin, h⟩ := h
    refine x_iaload dX9_heap_19 (ly9_6 hk_l0) hin 20 rfl ?_
    refine kJ9_abs_0f7a4 dX9_heap_20 23 rfl kw5_0 (Nat.le_of_ble_eq_true rfl) (Nat.le_of_ble_eq_true rfl) h (fun r3 h => ?_)
    refine x_goto dX9_heap_23 27 rfl ?_
    exact x_iret dX9_heap_27 ⟨rfl, h⟩
theorem cX9_heap_ {Q : Int32 → Prop} {l0 : Nat} {l1 : Int32} {M : Mem} (hk_l0 : SHk l0 = 9) (h : FX9_heap Q l0 l1 M) : xM yX9_heap cX9_heap 3 (some .int) 3 [.ref l0, .int l1] M (xQi (xP M Q)) := xM_of (by decide +kernel) (Nat.le_of_ble_eq_true rfl) (eX9_heap hk_l0 h)
theorem kX9_heap {own : String} {cc : ByteArray} {nL : Nat} {rt : Option FieldType} {d pc ix : Nat} {L : List (Nat × Value)} {st : List Value} {M : Mem} {Rt : xGt → Array Value → State → Outcome → State → Prop} {Q : Int32 → Prop} {l0 : Nat} {l1 : Int32} (hd : decode cc pc = .ok (.invokevirtual ix, 3)) (q : Nat) (hq : pc + 3 = q) (hk_l0 : SHk l0 = 9) (w1 : Cond.methodLink own ix yX9_heap ∈ xTs) (hr : 3 < d) (hst : (st.map fun v => v.category).sum ≤ 8) (h : FX9_heap Q l0 l1 M) (k : ∀ (r : Int32), Q r → xX own cc nL rt d q L (.int r :: st) M Rt) : xX own cc nL rt d pc L (.int l1 :: .ref l0 :: st) M Rt :=
  x_callV_i (n := 1) (As := [.int l1]) hd q hq hk_l0 (by decide) rfl rfl w1 kw5_118 kw5_119 kw1_3 kw5_120 (by decide +kernel) rfl hr (by decide) hst _ rfl (cX9_heap_ hk_l0 h) (fun r N hN => by obtain ⟨rfl, hN⟩ := hN; exact k r hN)
def FX9_nimber (Q : Int32 → Prop) (l0 : Nat) (l1 : Int32) (l2 : Int32) (M : Mem) : Prop :=
  ((0 ≤ l1 → FX9_heap (fun (r1 : Int32) => FJ9_max_7cf53 (fun (r2 : Int32) => (¬ ((l1 + 2) : Int32) = 0) ∧ Q (r2 - r2 / (l1 + 2) * (l1 + 2))) 0 (r1 - l2) M) l0 l1 M) ∧ (¬ 0 ≤ l1 → Q 0))
theorem eX9_nimber {Q : Int32 → Prop} {l0 : Nat} {l1 : Int32} {l2 : Int32} {M : Mem} (hk_l0 : SHk l0 = 9) (h : FX9_nimber Q l0 l1 l2 M) : xX RX9 cX9_nimber 3 (some .int) 4 0 [(0, .ref l0), (1, .int l1), (2, .int l2)] [] M (xQi (xP M Q)) := by
  unfold FX9_nimber at h
  refine x_iload_n dX9_nimber_0 rfl 1 rfl ?_
  refine x_if_ge dX9_nimber_1 8 4 rfl rfl (fun hc => ?_) (fun hc => ?_)
  · have h := h.1 hc
    refine x_iconst dX9_nimber_8 kc_0 9 rfl ?_
    refine x_aload_n dX9_nimber_9 rfl 10 rfl ?_
    refine x_iload_n dX9_nimber_10 rfl 11 rfl ?_
    refine kX9_heap dX9_nimber_11 14 rfl hk_l0 kw5_117 (Nat.le_of_ble_eq_true rfl) (Nat.le_of_ble_eq_true rfl) h (fun r1 h => ?_)
    refine x_iload_n dX9_nimber_14 rfl 15 rfl ?_
    refine x_isub dX9_nimber_15 16 rfl ?_
    refine kJ9_max_7cf53 dX9_nimber_16 19 rfl kw3_127 (Nat.le_of_ble_eq_true rfl) (Nat.le_of_ble_eq_true rfl) h (fun r2 h => ?_)
    refine x_iload_n dX9_nimber_19 rfl 20 rfl ?_
    refine x_iconst dX9_nimber_20 kc_2 21 rfl ?_
    refine x_iadd dX9_nimber_21 22 rfl ?_
    obtain ⟨hne, h⟩ := h
    refine x_irem dX9_nimber_22 hne 23 rfl ?_
    exact x_iret dX9_nimber_23 ⟨rfl, h⟩
  · have h := h.2 hc
    refine x_iconst dX9_nimber_4 kc_0 5 rfl ?_
    refine x_goto dX9_nimber_5 23 rfl ?_
    exact x_iret dX9_nimber_23 ⟨rfl, h⟩
theorem cX9_nimber_ {Q : Int32 → Prop} {l0 : Nat} {l1 : Int32} {l2 : Int32} {M : Mem} (hk_l0 : SHk l0 = 9) (h : FX9_nimber Q l0 l1 l2 M) : xM yX9_nimber cX9_nimber 3 (some .int) 4 [.ref l0, .int l1, .int l2] M (xQi (xP M Q)) := xM_of (by decide +kernel) (Nat.le_of_ble_eq_true rfl) (eX9_nimber hk_l0 h)
theorem kX9_nimber {own : String} {cc : ByteArray} {nL : Nat} {rt : Option FieldType} {d pc ix : Nat} {L : List (Nat × Value)} {st : List Value} {M : Mem} {Rt : xGt → Array Value → State → Outcome → State → Prop} {Q : Int32 → Prop} {l0 : Nat} {l1 : Int32} {l2 : Int32} (hd : decode cc pc = .ok (.invokevirtual ix, 3)) (q : Nat) (hq : pc + 3 = q) (hk_l0 : SHk l0 = 9) (w1 : Cond.methodLink own ix yX9_nimber ∈ xTs) (hr : 4 < d) (hst : (st.map fun v => v.category).sum ≤ 8) (h : FX9_nimber Q l0 l1 l2 M) (k : ∀ (r : Int32), Q r → xX own cc nL rt d q L (.int r :: st) M Rt) : xX own cc nL rt d pc L (.int l2 :: .int l1 :: .ref l0 :: st) M Rt :=
  x_callV_i (n := 2) (As := [.int l1, .int l2]) hd q hq hk_l0 (by decide) rfl rfl w1 kw5_114 kw5_115 kw1_3 kw5_116 (by decide +kernel) rfl hr (by decide) hst _ rfl (cX9_nimber_ hk_l0 h) (fun r N hN => by obtain ⟨rfl, hN⟩ := hN; exact k r hN)
def FX10_tell (Q : Int32 → Mem → Prop) (l0 : Nat) (l1 : Int32) (l2 : Int32) (M : Mem) : Prop :=
  (((M l0 3) < 7 → vp_in (M l0 3) 7 ∧ ∀ M1 : Mem, M1 = xu M (l0 + 1) (ix (M l0 3)) l1 → vp_in (M1 l0 3) 7 ∧ ∀ M2 : Mem, M2 = xu M1 (l0 + 2) (ix (M1 l0 3)) l2 → ∀ M3 : Mem, M3 = xu M2 l0 3 ((M2 l0 3) + 1) → Q (M3 l0 3) M3) ∧ (¬ (M l0 3) < 7 → Q (-1) M))
theorem eX10_tell {Q : Int32 → Mem → Prop} {l0 : Nat} {l1 : Int32} {l2 : Int32} {M : Mem} (hk_l0 : SHk l0 = 10) (h : FX10_tell Q l0 l1 l2 M) : xX RX10 cX10_tell 3 (some .int) 1 0 [(0, .ref l0), (1, .int l1), (2, .int l2)] [] M (xQi Q) := by
  unfold FX10_tell at h
  refine x_aload_n dX10_tell_0 rfl 1 rfl ?_
  refine gf10_3 dX10_tell_1 4 rfl hk_l0 kw1_238 ?_
  refine x_bipush dX10_tell_4 kb_7 6 rfl ?_
  refine x_icmp_lt dX10_tell_6 11 9 rfl rfl (fun hc => ?_) (fun hc => ?_)
  · have h := h.1 hc
    refine x_aload_n dX10_tell_11 rfl 12 rfl ?_
    refine gf10_0 dX10_tell_12 15 rfl hk_l0 kw1_235 ?_
    refine x_aload_n dX10_tell_15 rfl 16 rfl ?_
    refine gf10_3 dX10_tell_16 19 rfl hk_l0 kw1_238 ?_
    refine x_iload_n dX10_tell_19 rfl 20 rfl ?_
    obtain ⟨hin, h⟩ := h
    refine x_iastore dX10_tell_20 (ly10_0 hk_l0) hin 21 rfl (x_mem (fun M1 hM1 => ?_))
    have h := h M1 hM1
    refine x_aload_n dX10_tell_21 rfl 22 rfl ?_
    refine gf10_1 dX10_tell_22 25 rfl hk_l0 kw1_236 ?_
    refine x_aload_n dX10_tell_25 rfl 26 rfl ?_
    refine gf10_3 dX10_tell_26 29 rfl hk_l0 kw1_238 ?_
    refine x_iload_n dX10_tell_29 rfl 30 rfl ?_
    obtain ⟨hin, h⟩ := h
    refine x_iastore dX10_tell_30 (ly10_1 hk_l0) hin 31 rfl (x_mem (fun M2 hM2 => ?_))
    have h := h M2 hM2
    refine x_aload_n dX10_tell_31 rfl 32 rfl ?_
    refine x_dup dX10_tell_32 rfl 33 rfl ?_
    refine gf10_3 dX10_tell_33 36 rfl hk_l0 kw1_238 ?_
    refine x_iconst dX10_tell_36 kc_1 37 rfl ?_
    refine x_iadd dX10_tell_37 38 rfl ?_
    refine pf10_3 dX10_tell_38 41 rfl hk_l0 kw1_238 (x_mem (fun M3 hM3 => ?_))
    have h := h M3 hM3
    refine x_aload_n dX10_tell_41 rfl 42 rfl ?_
    refine gf10_3 dX10_tell_42 45 rfl hk_l0 kw1_238 ?_
    exact x_iret dX10_tell_45 h
  · have h := h.2 hc
    refine x_iconst dX10_tell_9 kc_m1 10 rfl ?_
    exact x_iret dX10_tell_10 h
theorem cX10_tell_ {Q : Int32 → Mem → Prop} {l0 : Nat} {l1 : Int32} {l2 : Int32} {M : Mem} (hk_l0 : SHk l0 = 10) (h : FX10_tell Q l0 l1 l2 M) : xM yX10_tell cX10_tell 3 (some .int) 1 [.ref l0, .int l1, .int l2] M (xQi Q) := xM_of (by decide +kernel) (Nat.le_of_ble_eq_true rfl) (eX10_tell hk_l0 h)
theorem kX10_tell {own : String} {cc : ByteArray} {nL : Nat} {rt : Option FieldType} {d pc ix : Nat} {L : List (Nat × Value)} {st : List Value} {M : Mem} {Rt : xGt → Array Value → State → Outcome → State → Prop} {Q : Int32 → Mem → Prop} {l0 : Nat} {l1 : Int32} {l2 : Int32} (hd : decode cc pc = .ok (.invokevirtual ix, 3)) (q : Nat) (hq : pc + 3 = q) (hk_l0 : SHk l0 = 10) (w1 : Cond.methodLink own ix yX10_tell ∈ xTs) (hr : 1 < d) (hst : (st.map fun v => v.category).sum ≤ 8) (h : FX10_tell Q l0 l1 l2 M) (k : ∀ (r : Int32) (N : Mem), Q r N → xX own cc nL rt d q L (.int r :: st) N Rt) : xX own cc nL rt d pc L (.int l2 :: .int l1 :: .ref l0 :: st) M Rt :=
  x_callV_i (n := 2) (As := [.int l1, .int l2]) hd q hq hk_l0 (by decide) rfl rfl w1 kw5_61 kw5_62 kw1_9 kw5_63 (by decide +kernel) rfl hr (by decide) hst _ rfl (cX10_tell_ hk_l0 h) k
def FX10_isBefore (Q : Bool → Prop) (l0 : Nat) (l1 : Int32) (l2 : Int32) (M : Mem) : Prop :=
  ((l1 < 0 → Q false) ∧ (¬ l1 < 0 → ((l2 < 0 → Q false) ∧ (¬ l2 < 0 → (((M l0 3) ≤ l1 → Q false) ∧ (¬ (M l0 3) ≤ l1 → ((l2 < (M l0 3) → vp_in l1 7 ∧ vp_in l2 7 ∧ vp_in l2 7 ∧ vp_in l1 7 ∧ ((((M (l0 + 1) (ix l2)) * (M (l0 + 2) (ix l1))) ≤ ((M (l0 + 1) (ix l1)) * (M (l0 + 2) (ix l2))) → Q false) ∧ (¬ ((M (l0 + 1) (ix l2)) * (M (l0 + 2) (ix l1))) ≤ ((M (l0 + 1) (ix l1)) * (M (l0 + 2) (ix l2))) → Q true))) ∧ (¬ l2 < (M l0 3) → Q false))))))))
theorem eX10_isBefore {Q : Bool → Prop} {l0 : Nat} {l1 : Int32} {l2 : Int32} {M : Mem} (hk_l0 : SHk l0 = 10) (h : FX10_isBefore Q l0 l1 l2 M) : xX RX10 cX10_isBefore 3 (some .boolean) 1 0 [(0, .ref l0), (1, .int l1), (2, .int l2)] [] M (xQb (xP M Q)) := by
  unfold FX10_isBefore at h
  refine x_iload_n dX10_isBefore_0 rfl 1 rfl ?_
  refine x_if_lt dX10_isBefore_1 24 4 rfl rfl (fun hc => ?_) (fun hc => ?_)
  · have h := h.1 hc
    refine x_iconst dX10_isBefore_24 kc_0 25 rfl ?_
    exact x_zret (z := false) dX10_isBefore_25 ⟨rfl, h⟩
  · have h := h.2 hc
    refine x_iload_n dX10_isBefore_4 rfl 5 rfl ?_
    refine x_if_lt dX10_isBefore_5 24 8 rfl rfl (fun hc => ?_) (fun hc => ?_)
    · have h := h.1 hc
      refine x_iconst dX10_isBefore_24 kc_0 25 rfl ?_
      exact x_zret (z := false) dX10_isBefore_25 ⟨rfl, h⟩
    · have h := h.2 hc
      refine x_iload_n dX10_isBefore_8 rfl 9 rfl ?_
      refine x_aload_n dX10_isBefore_9 rfl 10 rfl ?_
      refine gf10_3 dX10_isBefore_10 13 rfl hk_l0 kw1_238 ?_
      refine x_icmp_ge dX10_isBefore_13 24 16 rfl rfl (fun hc => ?_) (fun hc => ?_)
      · have h := h.1 hc
        refine x_iconst dX10_isBefore_24 kc_0 25 rfl ?_
        exact x_zret (z := false) dX10_isBefore_25 ⟨rfl, h⟩
      · have h := h.2 hc
        refine x_iload_n dX10_isBefore_16 rfl 17 rfl ?_
        refine x_aload_n dX10_isBefore_17 rfl 18 rfl ?_
        refine gf10_3 dX10_isBefore_18 21 rfl hk_l0 kw1_238 ?_
        refine x_icmp_lt dX10_isBefore_21 26 24 rfl rfl (fun hc => ?_) (fun hc => ?_)
        · have h := h.1 hc
          refine x_aload_n dX10_isBefore_26 rfl 27 rfl ?_
          refine gf10_0 dX10_isBefore_27 30 rfl hk_l0 kw1_235 ?_
          refine x_iload_n dX10_isBefore_30 rfl 31 rfl ?_
          obtain ⟨hin, h⟩ := h
          refine x_iaload dX10_isBefore_31 (ly10_0 hk_l0) hin 32 rfl ?_
          refine x_aload_n dX10_isBefore_32 rfl 33 rfl ?_
          refine gf10_1 dX10_isBefore_33 36 rfl hk_l0 kw1_236 ?_
          refine x_iload_n dX10_isBefore_36 rfl 37 rfl ?_
          obtain ⟨hin, h⟩ := h
          refine x_iaload dX10_isBefore_37 (ly10_1 hk_l0) hin 38 rfl ?_
          refine x_imul dX10_isBefore_38 39 rfl ?_
          refine x_aload_n dX10_isBefore_39 rfl 40 rfl ?_
          refine gf10_0 dX10_isBefore_40 43 rfl hk_l0 kw1_235 ?_
          refine x_iload_n dX10_isBefore_43 rfl 44 rfl ?_
          obtain ⟨hin, h⟩ := h
          refine x_iaload dX10_isBefore_44 (ly10_0 hk_l0) hin 45 rfl ?_
          refine x_aload_n dX10_isBefore_45 rfl 46 rfl ?_
          refine gf10_1 dX10_isBefore_46 49 rfl hk_l0 kw1_236 ?_
          refine x_iload_n dX10_isBefore_49 rfl 50 rfl ?_
          obtain ⟨hin, h⟩ := h
          refine x_iaload dX10_isBefore_50 (ly10_1 hk_l0) hin 51 rfl ?_
          refine x_imul dX10_isBefore_51 52 rfl ?_
          refine x_icmp_ge dX10_isBefore_52 59 55 rfl rfl (fun hc => ?_) (fun hc => ?_)
          · have h := h.1 hc
            refine x_iconst dX10_isBefore_59 kc_0 60 rfl ?_
            exact x_zret (z := false) dX10_isBefore_60 ⟨rfl, h⟩
          · have h := h.2 hc
            refine x_iconst dX10_isBefore_55 kc_1 56 rfl ?_
            refine x_goto dX10_isBefore_56 60 rfl ?_
            exact x_zret (z := true) dX10_isBefore_60 ⟨rfl, h⟩
        · have h := h.2 hc
          refine x_iconst dX10_isBefore_24 kc_0 25 rfl ?_
          exact x_zret (z := false) dX10_isBefore_25 ⟨rfl, h⟩
theorem cX10_isBefore_ {Q : Bool → Prop} {l0 : Nat} {l1 : Int32} {l2 : Int32} {M : Mem} (hk_l0 : SHk l0 = 10) (h : FX10_isBefore Q l0 l1 l2 M) : xM yX10_isBefore cX10_isBefore 3 (some .boolean) 1 [.ref l0, .int l1, .int l2] M (xQb (xP M Q)) := xM_of (by decide +kernel) (Nat.le_of_ble_eq_true rfl) (eX10_isBefore hk_l0 h)
theorem kX10_isBefore {own : String} {cc : ByteArray} {nL : Nat} {rt : Option FieldType} {d pc ix : Nat} {L : List (Nat × Value)} {st : List Value} {M : Mem} {Rt : xGt → Array Value → State → Outcome → State → Prop} {Q : Bool → Prop} {l0 : Nat} {l1 : Int32} {l2 : Int32} (hd : decode cc pc = .ok (.invokevirtual ix, 3)) (q : Nat) (hq : pc + 3 = q) (hk_l0 : SHk l0 = 10) (w1 : Cond.methodLink own ix yX10_isBefore ∈ xTs) (hr : 1 < d) (hst : (st.map fun v => v.category).sum ≤ 8) (h : FX10_isBefore Q l0 l1 l2 M) (k : ∀ (r : Bool), Q r → xX own cc nL rt d q L (.int (bI r) :: st) M Rt) : xX own cc nL rt d pc L (.int l2 :: .int l1 :: .ref l0 :: st) M Rt :=
  x_callV_b (n := 2) (As := [.int l1, .int l2]) hd q hq hk_l0 (by decide) rfl rfl w1 kw5_78 ks2_15 kw1_9 kw5_79 (by decide +kernel) rfl hr (by decide) hst _ rfl (cX10_isBefore_ hk_l0 h) (fun r N hN => by obtain ⟨rfl, hN⟩ := hN; exact k r hN)
def NX10_arrange_58 (Q : Mem → Prop) (B2 : Int32 → Mem → Prop) (l0 : Nat) (l1 : Int32) (l2 : Int32) (M : Mem) : Prop :=
  vp_in l2 7 ∧ ∀ M1 : Mem, M1 = xu M (l0 + 3) (ix l2) l1 → B2 (l1 + 1) M1
theorem nX10_arrange_58 {Q : Mem → Prop} {B2 : Int32 → Mem → Prop} {l0 : Nat} {l1 : Int32} {l2 : Int32} {M : Mem} (hB2 : ∀ (l1 : Int32) (M : Mem), B2 l1 M → xX RX10 cX10_arrange 4 none 2 2 [(0, .ref l0), (1, .int l1)] [] M (xQv Q)) (hk_l0 : SHk l0 = 10) (h : NX10_arrange_58 Q B2 l0 l1 l2 M) : xX RX10 cX10_arrange 4 none 2 58 [(0, .ref l0), (1, .int l1), (2, .int l2)] [] M (xQv Q) := by
  unfold NX10_arrange_58 at h
  refine x_aload_n dX10_arrange_58 rfl 59 rfl ?_
  refine gf10_2 dX10_arrange_59 62 rfl hk_l0 kw1_237 ?_
  refine x_iload_n dX10_arrange_62 rfl 63 rfl ?_
  refine x_iload_n dX10_arrange_63 rfl 64 rfl ?_
  obtain ⟨hin, h⟩ := h
  refine x_iastore dX10_arrange_64 (ly10_2 hk_l0) hin 65 rfl (x_mem (fun M1 hM1 => ?_))
  have h := h M1 hM1
  refine x_iinc dX10_arrange_65 rfl (congrArg (l1 + ·) kc_1) (Nat.le_of_ble_eq_true rfl) [(0, .ref l0), (1, .int (l1 + 1)), (2, .int l2)] rfl 68 rfl ?_
  refine x_goto dX10_arrange_68 2 rfl ?_
  refine x_weak [(0, .ref l0), (1, .int (l1 + 1))] [0, 1] rfl ?_
  exact hB2 _ _ h
def lbX10_arrange_14 (Q : Mem → Prop) (B2 : Int32 → Mem → Prop) (l0 : Nat) (l1 : Int32) (B14 : Int32 → Int32 → Mem → Prop) (l2 : Int32) (l3 : Int32) (M : Mem) : Prop :=
  ((l3 ≤ 0 → NX10_arrange_58 Q B2 l0 l1 l2 M) ∧ (¬ l3 ≤ 0 → vp_in (l3 - 1) 7 ∧ FX10_isBefore (fun (r2 : Bool) => ((r2 = false → NX10_arrange_58 Q B2 l0 l1 l2 M) ∧ (r2 = true → vp_in (l3 - 1) 7 ∧ vp_in l3 7 ∧ ∀ M3 : Mem, M3 = xu M (l0 + 3) (ix l3) (M (l0 + 3) (ix (l3 - 1))) → B14 (l3 - 1) (l3 + (-1)) M3))) l0 l1 (M (l0 + 3) (ix (l3 - 1))) M))
def NX10_arrange_14 (Q : Mem → Prop) (B2 : Int32 → Mem → Prop) (l0 : Nat) (l1 : Int32) (l2 : Int32) (l3 : Int32) (M : Mem) : Prop := xlp (fun (B : Int32 × Int32 × Mem → Prop) a => lbX10_arrange_14 Q B2 l0 l1 (fun l2 l3 M => B (l2, l3, M)) a.1 a.2.1 a.2.2) (l2, l3, M)
theorem nX10_arrange_14 {Q : Mem → Prop} {B2 : Int32 → Mem → Prop} {l0 : Nat} {l1 : Int32} {l2 : Int32} {l3 : Int32} {M : Mem} (hB2 : ∀ (l1 : Int32) (M : Mem), B2 l1 M → xX RX10 cX10_arrange 4 none 2 2 [(0, .ref l0), (1, .int l1)] [] M (xQv Q)) (hk_l0 : SHk l0 = 10) (h : NX10_arrange_14 Q B2 l0 l1 l2 l3 M) : xX RX10 cX10_arrange 4 none 2 14 [(0, .ref l0), (1, .int l1), (2, .int l2), (3, .int l3)] [] M (xQv Q) := by
  obtain ⟨n, h⟩ := h
  have hB14 : ∀ (n : Nat) (l2 : Int32) (l3 : Int32) (M : Mem), xlpn (fun (B : Int32 × Int32 × Mem → Prop) a => lbX10_arrange_14 Q B2 l0 l1 (fun l2 l3 M => B (l2, l3, M)) a.1 a.2.1 a.2.2) n (l2, l3, M) → xX RX10 cX10_arrange 4 none 2 14 [(0, .ref l0), (1, .int l1), (2, .int l2), (3, .int l3)] [] M (xQv Q) := by
    intro n
    induction n with
    | zero => intro l2 l3 M h; exact False.elim h
    | succ n ih =>
      intro l2 l3 M h
      have hB14 := ih
      have h : lbX10_arrange_14 Q B2 l0 l1 (fun l2 l3 M => xlpn (fun (B : Int32 × Int32 × Mem → Prop) a => lbX10_arrange_14 Q B2 l0 l1 (fun l2 l3 M => B (l2, l3, M)) a.1 a.2.1 a.2.2) n (l2, l3, M)) l2 l3 M := h
      unfold lbX10_arrange_14 at h
      refine x_iload_n dX10_arrange_14 rfl 15 rfl ?_
      refine x_if_le dX10_arrange_15 58 18 rfl rfl (fun hc => ?_) (fun hc => ?_)
      · have h := h.1 hc
        refine x_weak [(0, .ref l0), (1, .int l1), (2, .int l2)] [0, 1, 2] rfl ?_
        exact nX10_arrange_58 hB2 hk_l0 h
      · have h := h.2 hc
        refine x_aload_n dX10_arrange_18 rfl 19 rfl ?_
        refine x_iload_n dX10_arrange_19 rfl 20 rfl ?_
        refine x_aload_n dX10_arrange_20 rfl 21 rfl ?_
        refine gf10_2 dX10_arrange_21 24 rfl hk_l0 kw1_237 ?_
        refine x_iload_n dX10_arrange_24 rfl 25 rfl ?_
        refine x_iconst dX10_arrange_25 kc_1 26 rfl ?_
        refine x_isub dX10_arrange_26 27 rfl ?_
        obtain ⟨hin, h⟩ := h
        refine x_iaload dX10_arrange_27 (ly10_2 hk_l0) hin 28 rfl ?_
        refine kX10_isBefore dX10_arrange_28 31 rfl hk_l0 kw5_76 (Nat.le_of_ble_eq_true rfl) (Nat.le_of_ble_eq_true rfl) h (fun r2 h => ?_)
        refine x_if_eq_b dX10_arrange_31 58 34 rfl rfl (fun hc => ?_) (fun hc => ?_)
        · have h := h.1 hc
          refine x_weak [(0, .ref l0), (1, .int l1), (2, .int l2)] [0, 1, 2] rfl ?_
          exact nX10_arrange_58 hB2 hk_l0 h
        · have h := h.2 hc
          refine x_aload_n dX10_arrange_34 rfl 35 rfl ?_
          refine gf10_2 dX10_arrange_35 38 rfl hk_l0 kw1_237 ?_
          refine x_iload_n dX10_arrange_38 rfl 39 rfl ?_
          refine x_aload_n dX10_arrange_39 rfl 40 rfl ?_
          refine gf10_2 dX10_arrange_40 43 rfl hk_l0 kw1_237 ?_
          refine x_iload_n dX10_arrange_43 rfl 44 rfl ?_
          refine x_iconst dX10_arrange_44 kc_1 45 rfl ?_
          refine x_isub dX10_arrange_45 46 rfl ?_
          obtain ⟨hin, h⟩ := h
          refine x_iaload dX10_arrange_46 (ly10_2 hk_l0) hin 47 rfl ?_
          obtain ⟨hin, h⟩ := h
          refine x_iastore dX10_arrange_47 (ly10_2 hk_l0) hin 48 rfl (x_mem (fun M3 hM3 => ?_))
          have h := h M3 hM3
          refine x_iload_n dX10_arrange_48 rfl 49 rfl ?_
          refine x_iconst dX10_arrange_49 kc_1 50 rfl ?_
          refine x_isub dX10_arrange_50 51 rfl ?_
          refine x_istore_n dX10_arrange_51 (Nat.le_of_ble_eq_true rfl) [(0, .ref l0), (1, .int l1), (2, .int (l3 - 1)), (3, .int l3)] rfl 52 rfl ?_
          refine x_iinc dX10_arrange_52 rfl (congrArg (l3 + ·) kc_m1) (Nat.le_of_ble_eq_true rfl) [(0, .ref l0), (1, .int l1), (2, .int (l3 - 1)), (3, .int (l3 + (-1)))] rfl 55 rfl ?_
          refine x_goto dX10_arrange_55 14 rfl ?_
          exact hB14 _ _ _ h
  exact hB14 n l2 l3 M h
def lbX10_arrange_2 (Q : Mem → Prop) (l0 : Nat) (B2 : Int32 → Mem → Prop) (l1 : Int32) (M : Mem) : Prop :=
  (((M l0 3) ≤ l1 → Q M) ∧ (¬ (M l0 3) ≤ l1 → NX10_arrange_14 Q B2 l0 l1 l1 l1 M))
def NX10_arrange_2 (Q : Mem → Prop) (l0 : Nat) (l1 : Int32) (M : Mem) : Prop := xlp (fun (B : Int32 × Mem → Prop) a => lbX10_arrange_2 Q l0 (fun l1 M => B (l1, M)) a.1 a.2) (l1, M)
theorem nX10_arrange_2 {Q : Mem → Prop} {l0 : Nat} {l1 : Int32} {M : Mem} (hk_l0 : SHk l0 = 10) (h : NX10_arrange_2 Q l0 l1 M) : xX RX10 cX10_arrange 4 none 2 2 [(0, .ref l0), (1, .int l1)] [] M (xQv Q) := by
  obtain ⟨n, h⟩ := h
  have hB2 : ∀ (n : Nat) (l1 : Int32) (M : Mem), xlpn (fun (B : Int32 × Mem → Prop) a => lbX10_arrange_2 Q l0 (fun l1 M => B (l1, M)) a.1 a.2) n (l1, M) → xX RX10 cX10_arrange 4 none 2 2 [(0, .ref l0), (1, .int l1)] [] M (xQv Q) := by
    intro n
    induction n with
    | zero => intro l1 M h; exact False.elim h
    | succ n ih =>
      intro l1 M h
      have hB2 := ih
      have h : lbX10_arrange_2 Q l0 (fun l1 M => xlpn (fun (B : Int32 × Mem → Prop) a => lbX10_arrange_2 Q l0 (fun l1 M => B (l1, M)) a.1 a.2) n (l1, M)) l1 M := h
      unfold lbX10_arrange_2 at h
      refine x_iload_n dX10_arrange_2 rfl 3 rfl ?_
      refine x_aload_n dX10_arrange_3 rfl 4 rfl ?_
      refine gf10_3 dX10_arrange_4 7 rfl hk_l0 kw1_238 ?_
      refine x_icmp_ge dX10_arrange_7 71 10 rfl rfl (fun hc => ?_) (fun hc => ?_)
      · have h := h.1 hc
        exact x_vret dX10_arrange_71 h
      · have h := h.2 hc
        refine x_iload_n dX10_arrange_10 rfl 11 rfl ?_
        refine x_istore_n dX10_arrange_11 (Nat.le_of_ble_eq_true rfl) [(0, .ref l0), (1, .int l1), (2, .int l1)] rfl 12 rfl ?_
        refine x_iload_n dX10_arrange_12 rfl 13 rfl ?_
        refine x_istore_n dX10_arrange_13 (Nat.le_of_ble_eq_true rfl) [(0, .ref l0), (1, .int l1), (2, .int l1), (3, .int l1)] rfl 14 rfl ?_
        exact nX10_arrange_14 hB2 hk_l0 h
  exact hB2 n l1 M h
def FX10_arrange (Q : Mem → Prop) (l0 : Nat) (M : Mem) : Prop :=
  NX10_arrange_2 Q l0 0 M
theorem eX10_arrange {Q : Mem → Prop} {l0 : Nat} {M : Mem} (hk_l0 : SHk l0 = 10) (h : FX10_arrange Q l0 M) : xX RX10 cX10_arrange 4 none 2 0 [(0, .ref l0)] [] M (xQv Q) := by
  unfold FX10_arrange at h
  refine x_iconst dX10_arrange_0 kc_0 1 rfl ?_
  refine x_istore_n dX10_arrange_1 (Nat.le_of_ble_eq_true rfl) [(0, .ref l0), (1, .int 0)] rfl 2 rfl ?_
  exact nX10_arrange_2 hk_l0 h
theorem cX10_arrange_ {Q : Mem → Prop} {l0 : Nat} {M : Mem} (hk_l0 : SHk l0 = 10) (h : FX10_arrange Q l0 M) : xM yX10_arrange cX10_arrange 4 none 2 [.ref l0] M (xQv Q) := xM_of (by decide +kernel) (Nat.le_of_ble_eq_true rfl) (eX10_arrange hk_l0 h)
theorem kX10_arrange {own : String} {cc : ByteArray} {nL : Nat} {rt : Option FieldType} {d pc ix : Nat} {L : List (Nat × Value)} {st : List Value} {M : Mem} {Rt : xGt → Array Value → State → Outcome → State → Prop} {Q : Mem → Prop} {l0 : Nat} (hd : decode cc pc = .ok (.invokevirtual ix, 3)) (q : Nat) (hq : pc + 3 = q) (hk_l0 : SHk l0 = 10) (w1 : Cond.methodLink own ix yX10_arrange ∈ xTs) (hr : 2 < d) (hst : (st.map fun v => v.category).sum ≤ 8) (h : FX10_arrange Q l0 M) (k : ∀ (N : Mem), Q N → xX own cc nL rt d q L st N Rt) : xX own cc nL rt d pc L (.ref l0 :: st) M Rt :=
  x_callV_v (n := 0) (As := []) hd q hq hk_l0 (by decide) rfl rfl w1 kw5_74 ks2_14 kw1_9 kw5_75 (by decide +kernel) rfl hr (by decide) hst _ rfl (cX10_arrange_ hk_l0 h) k
def lbX10_leastSum_10 (Q : Int32 → Mem → Prop) (l0 : Nat) (M : Mem) (B10 : Int32 → Int32 → Int32 → Prop) (l1 : Int32) (l2 : Int32) (l3 : Int32) : Prop :=
  (((M l0 3) ≤ l3 → Q l2 M) ∧ (¬ (M l0 3) ≤ l3 → vp_in l3 7 ∧ (((M (l0 + 3) (ix l3)) < 0 → B10 l1 l2 (l3 + 1)) ∧ (¬ (M (l0 + 3) (ix l3)) < 0 → (((M l0 3) ≤ (M (l0 + 3) (ix l3)) → B10 l1 l2 (l3 + 1)) ∧ (¬ (M l0 3) ≤ (M (l0 + 3) (ix l3)) → vp_in (M (l0 + 3) (ix l3)) 7 ∧ ∀ y1 : Int32, y1 = l1 + (M (l0 + 1) (ix (M (l0 + 3) (ix l3)))) → vp_in (M (l0 + 3) (ix l3)) 7 ∧ ∀ y2 : Int32, y2 = l2 + ((M (l0 + 2) (ix (M (l0 + 3) (ix l3)))) * y1) → B10 y1 y2 (l3 + 1)))))))
def NX10_leastSum_10 (Q : Int32 → Mem → Prop) (l0 : Nat) (l1 : Int32) (l2 : Int32) (l3 : Int32) (M : Mem) : Prop := xlp (fun (B : Int32 × Int32 × Int32 → Prop) a => lbX10_leastSum_10 Q l0 M (fun l1 l2 l3 => B (l1, l2, l3)) a.1 a.2.1 a.2.2) (l1, l2, l3)
theorem nX10_leastSum_10 {Q : Int32 → Mem → Prop} {l0 : Nat} {l1 : Int32} {l2 : Int32} {l3 : Int32} {M : Mem} (hk_l0 : SHk l0 = 10) (h : NX10_leastSum_10 Q l0 l1 l2 l3 M) : xX RX10 cX10_leastSum 5 (some .int) 3 10 [(0, .ref l0), (1, .int l1), (2, .int l2), (3, .int l3)] [] M (xQi Q) := by
  obtain ⟨n, h⟩ := h
  have hB10 : ∀ (n : Nat) (l1 : Int32) (l2 : Int32) (l3 : Int32), xlpn (fun (B : Int32 × Int32 × Int32 → Prop) a => lbX10_leastSum_10 Q l0 M (fun l1 l2 l3 => B (l1, l2, l3)) a.1 a.2.1 a.2.2) n (l1, l2, l3) → xX RX10 cX10_leastSum 5 (some .int) 3 10 [(0, .ref l0), (1, .int l1), (2, .int l2), (3, .int l3)] [] M (xQi Q) := by
    intro n
    induction n with
    | zero => intro l1 l2 l3 h; exact False.elim h
    | succ n ih =>
      intro l1 l2 l3 h
      have hB10 := ih
      have h : lbX10_leastSum_10 Q l0 M (fun l1 l2 l3 => xlpn (fun (B : Int32 × Int32 × Int32 → Prop) a => lbX10_leastSum_10 Q l0 M (fun l1 l2 l3 => B (l1, l2, l3)) a.1 a.2.1 a.2.2) n (l1, l2, l3)) l1 l2 l3 := h
      unfold lbX10_leastSum_10 at h
      refine x_iload_n dX10_leastSum_10 rfl 11 rfl ?_
      refine x_aload_n dX10_leastSum_11 rfl 12 rfl ?_
      refine gf10_3 dX10_leastSum_12 15 rfl hk_l0 kw1_238 ?_
      refine x_icmp_ge dX10_leastSum_15 68 18 rfl rfl (fun hc => ?_) (fun hc => ?_)
      · have h := h.1 hc
        refine x_iload_n dX10_leastSum_68 rfl 69 rfl ?_
        exact x_iret dX10_leastSum_69 h
      · have h := h.2 hc
        refine x_aload_n dX10_leastSum_18 rfl 19 rfl ?_
        refine gf10_2 dX10_leastSum_19 22 rfl hk_l0 kw1_237 ?_
        refine x_iload_n dX10_leastSum_22 rfl 23 rfl ?_
        obtain ⟨hin, h⟩ := h
        refine x_iaload dX10_leastSum_23 (ly10_2 hk_l0) hin 24 rfl ?_
        refine x_istore dX10_leastSum_24 (Nat.le_of_ble_eq_true rfl) [(0, .ref l0), (1, .int l1), (2, .int l2), (3, .int l3), (4, .int (M (l0 + 3) (ix l3)))] rfl 26 rfl ?_
        refine x_iload dX10_leastSum_26 rfl 28 rfl ?_
        refine x_if_lt dX10_leastSum_28 62 31 rfl rfl (fun hc => ?_) (fun hc => ?_)
        · have h := h.1 hc
          refine x_iinc dX10_leastSum_62 rfl (congrArg (l3 + ·) kc_1) (Nat.le_of_ble_eq_true rfl) [(0, .ref l0), (1, .int l1), (2, .int l2), (3, .int (l3 + 1)), (4, .int (M (l0 + 3) (ix l3)))] rfl 65 rfl ?_
          refine x_goto dX10_leastSum_65 10 rfl ?_
          refine x_weak [(0, .ref l0), (1, .int l1), (2, .int l2), (3, .int (l3 + 1))] [0, 1, 2, 3] rfl ?_
          exact hB10 _ _ _ h
        · have h := h.2 hc
          refine x_iload dX10_leastSum_31 rfl 33 rfl ?_
          refine x_aload_n dX10_leastSum_33 rfl 34 rfl ?_
          refine gf10_3 dX10_leastSum_34 37 rfl hk_l0 kw1_238 ?_
          refine x_icmp_ge dX10_leastSum_37 62 40 rfl rfl (fun hc => ?_) (fun hc => ?_)
          · have h := h.1 hc
            refine x_iinc dX10_leastSum_62 rfl (congrArg (l3 + ·) kc_1) (Nat.le_of_ble_eq_true rfl) [(0, .ref l0), (1, .int l1), (2, .int l2), (3, .int (l3 + 1)), (4, .int (M (l0 + 3) (ix l3)))] rfl 65 rfl ?_
            refine x_goto dX10_leastSum_65 10 rfl ?_
            refine x_weak [(0, .ref l0), (1, .int l1), (2, .int l2), (3, .int (l3 + 1))] [0, 1, 2, 3] rfl ?_
            exact hB10 _ _ _ h
          · have h := h.2 hc
            refine x_iload_n dX10_leastSum_40 rfl 41 rfl ?_
            refine x_aload_n dX10_leastSum_41 rfl 42 rfl ?_
            refine gf10_0 dX10_leastSum_42 45 rfl hk_l0 kw1_235 ?_
            refine x_iload dX10_leastSum_45 rfl 47 rfl ?_
            obtain ⟨hin, h⟩ := h
            refine x_iaload dX10_leastSum_47 (ly10_0 hk_l0) hin 48 rfl ?_
            refine x_iadd dX10_leastSum_48 49 rfl ?_
            refine x_top (fun y1 hy1 => ?_)
            have h := h y1 hy1
            refine x_istore_n dX10_leastSum_49 (Nat.le_of_ble_eq_true rfl) [(0, .ref l0), (1, .int y1), (2, .int l2), (3, .int l3), (4, .int (M (l0 + 3) (ix l3)))] rfl 50 rfl ?_
            refine x_iload_n dX10_leastSum_50 rfl 51 rfl ?_
            refine x_aload_n dX10_leastSum_51 rfl 52 rfl ?_
            refine gf10_1 dX10_leastSum_52 55 rfl hk_l0 kw1_236 ?_
            refine x_iload dX10_leastSum_55 rfl 57 rfl ?_
            obtain ⟨hin, h⟩ := h
            refine x_iaload dX10_leastSum_57 (ly10_1 hk_l0) hin 58 rfl ?_
            refine x_iload_n dX10_leastSum_58 rfl 59 rfl ?_
            refine x_imul dX10_leastSum_59 60 rfl ?_
            refine x_iadd dX10_leastSum_60 61 rfl ?_
            refine x_top (fun y2 hy2 => ?_)
            have h := h y2 hy2
            refine x_istore_n dX10_leastSum_61 (Nat.le_of_ble_eq_true rfl) [(0, .ref l0), (1, .int y1), (2, .int y2), (3, .int l3), (4, .int (M (l0 + 3) (ix l3)))] rfl 62 rfl ?_
            refine x_iinc dX10_leastSum_62 rfl (congrArg (l3 + ·) kc_1) (Nat.le_of_ble_eq_true rfl) [(0, .ref l0), (1, .int y1), (2, .int y2), (3, .int (l3 + 1)), (4, .int (M (l0 + 3) (ix l3)))] rfl 65 rfl ?_
            refine x_goto dX10_leastSum_65 10 rfl ?_
            refine x_weak [(0, .ref l0), (1, .int y1), (2, .int y2), (3, .int (l3 + 1))] [0, 1, 2, 3] rfl ?_
            exact hB10 _ _ _ h
  exact hB10 n l1 l2 l3 h
def FX10_leastSum (Q : Int32 → Mem → Prop) (l0 : Nat) (M : Mem) : Prop :=
  FX10_arrange (fun (M3 : Mem) => NX10_leastSum_10 Q l0 0 0 0 M3) l0 M
theorem eX10_leastSum {Q : Int32 → Mem → Prop} {l0 : Nat} {M : Mem} (hk_l0 : SHk l0 = 10) (h : FX10_leastSum Q l0 M) : xX RX10 cX10_leastSum 5 (some .int) 3 0 [(0, .ref l0)] [] M (xQi Q) := by
  unfold FX10_leastSum at h
  refine x_aload_n dX10_leastSum_0 rfl 1 rfl ?_
  refine kX10_arrange dX10_leastSum_1 4 rfl hk_l0 kw5_72 (Nat.le_of_ble_eq_true rfl) (Nat.le_of_ble_eq_true rfl) h (fun M3 h => ?_)
  refine x_iconst dX10_leastSum_4 kc_0 5 rfl ?_
  refine x_istore_n dX10_leastSum_5 (Nat.le_of_ble_eq_true rfl) [(0, .ref l0), (1, .int 0)] rfl 6 rfl ?_
  refine x_iconst dX10_leastSum_6 kc_0 7 rfl ?_
  refine x_istore_n dX10_leastSum_7 (Nat.le_of_ble_eq_true rfl) [(0, .ref l0), (1, .int 0), (2, .int 0)] rfl 8 rfl ?_
  refine x_iconst dX10_leastSum_8 kc_0 9 rfl ?_
  refine x_istore_n dX10_leastSum_9 (Nat.le_of_ble_eq_true rfl) [(0, .ref l0), (1, .int 0), (2, .int 0), (3, .int 0)] rfl 10 rfl ?_
  exact nX10_leastSum_10 hk_l0 h
theorem cX10_leastSum_ {Q : Int32 → Mem → Prop} {l0 : Nat} {M : Mem} (hk_l0 : SHk l0 = 10) (h : FX10_leastSum Q l0 M) : xM yX10_leastSum cX10_leastSum 5 (some .int) 3 [.ref l0] M (xQi Q) := xM_of (by decide +kernel) (Nat.le_of_ble_eq_true rfl) (eX10_leastSum hk_l0 h)
theorem kX10_leastSum {own : String} {cc : ByteArray} {nL : Nat} {rt : Option FieldType} {d pc ix : Nat} {L : List (Nat × Value)} {st : List Value} {M : Mem} {Rt : xGt → Array Value → State → Outcome → State → Prop} {Q : Int32 → Mem → Prop} {l0 : Nat} (hd : decode cc pc = .ok (.invokevirtual ix, 3)) (q : Nat) (hq : pc + 3 = q) (hk_l0 : SHk l0 = 10) (w1 : Cond.methodLink own ix yX10_leastSum ∈ xTs) (hr : 3 < d) (hst : (st.map fun v => v.category).sum ≤ 8) (h : FX10_leastSum Q l0 M) (k : ∀ (r : Int32) (N : Mem), Q r N → xX own cc nL rt d q L (.int r :: st) N Rt) : xX own cc nL rt d pc L (.ref l0 :: st) M Rt :=
  x_callV_i (n := 0) (As := []) hd q hq hk_l0 (by decide) rfl rfl w1 kw5_69 kw5_70 kw1_9 kw5_71 (by decide +kernel) rfl hr (by decide) hst _ rfl (cX10_leastSum_ hk_l0 h) k
def FX10_inOrder (Q : Int32 → Mem → Prop) (l0 : Nat) (l1 : Int32) (M : Mem) : Prop :=
  FX10_arrange (fun (M1 : Mem) => ((l1 < 0 → Q (-1) M1) ∧ (¬ l1 < 0 → (((M1 l0 3) ≤ l1 → Q (-1) M1) ∧ (¬ (M1 l0 3) ≤ l1 → vp_in l1 7 ∧ Q (M1 (l0 + 3) (ix l1)) M1))))) l0 M
theorem eX10_inOrder {Q : Int32 → Mem → Prop} {l0 : Nat} {l1 : Int32} {M : Mem} (hk_l0 : SHk l0 = 10) (h : FX10_inOrder Q l0 l1 M) : xX RX10 cX10_inOrder 2 (some .int) 3 0 [(0, .ref l0), (1, .int l1)] [] M (xQi Q) := by
  unfold FX10_inOrder at h
  refine x_aload_n dX10_inOrder_0 rfl 1 rfl ?_
  refine kX10_arrange dX10_inOrder_1 4 rfl hk_l0 kw5_72 (Nat.le_of_ble_eq_true rfl) (Nat.le_of_ble_eq_true rfl) h (fun M1 h => ?_)
  refine x_iload_n dX10_inOrder_4 rfl 5 rfl ?_
  refine x_if_lt dX10_inOrder_5 25 8 rfl rfl (fun hc => ?_) (fun hc => ?_)
  · have h := h.1 hc
    refine x_iconst dX10_inOrder_25 kc_m1 26 rfl ?_
    exact x_iret dX10_inOrder_26 h
  · have h := h.2 hc
    refine x_iload_n dX10_inOrder_8 rfl 9 rfl ?_
    refine x_aload_n dX10_inOrder_9 rfl 10 rfl ?_
    refine gf10_3 dX10_inOrder_10 13 rfl hk_l0 kw1_238 ?_
    refine x_icmp_ge dX10_inOrder_13 25 16 rfl rfl (fun hc => ?_) (fun hc => ?_)
    · have h := h.1 hc
      refine x_iconst dX10_inOrder_25 kc_m1 26 rfl ?_
      exact x_iret dX10_inOrder_26 h
    · have h := h.2 hc
      refine x_aload_n dX10_inOrder_16 rfl 17 rfl ?_
      refine gf10_2 dX10_inOrder_17 20 rfl hk_l0 kw1_237 ?_
      refine x_iload_n dX10_inOrder_20 rfl 21 rfl ?_
      obtain ⟨hin, h⟩ := h
      refine x_iaload dX10_inOrder_21 (ly10_2 hk_l0) hin 22 rfl ?_
      refine x_goto dX10_inOrder_22 26 rfl ?_
      exact x_iret dX10_inOrder_26 h
theorem cX10_inOrder_ {Q : Int32 → Mem → Prop} {l0 : Nat} {l1 : Int32} {M : Mem} (hk_l0 : SHk l0 = 10) (h : FX10_inOrder Q l0 l1 M) : xM yX10_inOrder cX10_inOrder 2 (some .int) 3 [.ref l0, .int l1] M (xQi Q) := xM_of (by decide +kernel) (Nat.le_of_ble_eq_true rfl) (eX10_inOrder hk_l0 h)
theorem kX10_inOrder {own : String} {cc : ByteArray} {nL : Nat} {rt : Option FieldType} {d pc ix : Nat} {L : List (Nat × Value)} {st : List Value} {M : Mem} {Rt : xGt → Array Value → State → Outcome → State → Prop} {Q : Int32 → Mem → Prop} {l0 : Nat} {l1 : Int32} (hd : decode cc pc = .ok (.invokevirtual ix, 3)) (q : Nat) (hq : pc + 3 = q) (hk_l0 : SHk l0 = 10) (w1 : Cond.methodLink own ix yX10_inOrder ∈ xTs) (hr : 3 < d) (hst : (st.map fun v => v.category).sum ≤ 8) (h : FX10_inOrder Q l0 l1 M) (k : ∀ (r : Int32) (N : Mem), Q r N → xX own cc nL rt d q L (.int r :: st) N Rt) : xX own cc nL rt d pc L (.int l1 :: .ref l0 :: st) M Rt :=
  x_callV_i (n := 1) (As := [.int l1]) hd q hq hk_l0 (by decide) rfl rfl w1 kw5_81 kw5_82 kw1_9 kw5_83 (by decide +kernel) rfl hr (by decide) hst _ rfl (cX10_inOrder_ hk_l0 h) k
def FX11_state (Q : Int32 → Mem → Prop) (l0 : Nat) (l1 : Int32) (M : Mem) : Prop :=
  ∀ y1 : Int32, y1 = M ((l0 + 1) + 1) 17 → FX3_forget (fun (M2 : Mem) => ∀ M3 : Mem, M3 = xu M2 ((l0 + 1) + 1) 17 l1 → Q y1 M3) (l0 + 77) M
theorem eX11_state {Q : Int32 → Mem → Prop} {l0 : Nat} {l1 : Int32} {M : Mem} (hk_l0 : SHk l0 = 11) (h : FX11_state Q l0 l1 M) : xX RX11 cX11_state 3 (some .int) 2 0 [(0, .ref l0), (1, .int l1)] [] M (xQi Q) := by
  unfold FX11_state at h
  refine x_aload_n dX11_state_0 rfl 1 rfl ?_
  refine gf11_0 dX11_state_1 4 rfl hk_l0 kw2_148 ?_
  refine gf0_0 dX11_state_4 7 rfl (ly11_0 hk_l0).1 kw2_10 ?_
  refine gf9_17 dX11_state_7 10 rfl (ly0_0 (ly11_0 hk_l0).1).1 kw1_93 ?_
  refine x_top (fun y1 hy1 => ?_)
  have h := h y1 hy1
  refine x_istore_n dX11_state_10 (Nat.le_of_ble_eq_true rfl) [(0, .ref l0), (1, .int l1), (2, .int y1)] rfl 11 rfl ?_
  refine x_aload_n dX11_state_11 rfl 12 rfl ?_
  refine gf11_3 dX11_state_12 15 rfl hk_l0 kw2_151 ?_
  refine kX3_forget dX11_state_15 18 rfl (ly11_3 hk_l0).1 kw2_181 (Nat.le_of_ble_eq_true rfl) (Nat.le_of_ble_eq_true rfl) h (fun M2 h => ?_)
  refine x_aload_n dX11_state_18 rfl 19 rfl ?_
  refine gf11_0 dX11_state_19 22 rfl hk_l0 kw2_148 ?_
  refine gf0_0 dX11_state_22 25 rfl (ly11_0 hk_l0).1 kw2_10 ?_
  refine x_iload_n dX11_state_25 rfl 26 rfl ?_
  refine pf9_17 dX11_state_26 29 rfl (ly0_0 (ly11_0 hk_l0).1).1 kw1_93 (x_mem (fun M3 hM3 => ?_))
  have h := h M3 hM3
  refine x_iload_n dX11_state_29 rfl 30 rfl ?_
  exact x_iret dX11_state_30 h
theorem cX11_state_ {Q : Int32 → Mem → Prop} {l0 : Nat} {l1 : Int32} {M : Mem} (hk_l0 : SHk l0 = 11) (h : FX11_state Q l0 l1 M) : xM yX11_state cX11_state 3 (some .int) 2 [.ref l0, .int l1] M (xQi Q) := xM_of (by decide +kernel) (Nat.le_of_ble_eq_true rfl) (eX11_state hk_l0 h)
theorem kX11_state {own : String} {cc : ByteArray} {nL : Nat} {rt : Option FieldType} {d pc ix : Nat} {L : List (Nat × Value)} {st : List Value} {M : Mem} {Rt : xGt → Array Value → State → Outcome → State → Prop} {Q : Int32 → Mem → Prop} {l0 : Nat} {l1 : Int32} (hd : decode cc pc = .ok (.invokevirtual ix, 3)) (q : Nat) (hq : pc + 3 = q) (hk_l0 : SHk l0 = 11) (w1 : Cond.methodLink own ix yX11_state ∈ xTs) (hr : 2 < d) (hst : (st.map fun v => v.category).sum ≤ 8) (h : FX11_state Q l0 l1 M) (k : ∀ (r : Int32) (N : Mem), Q r N → xX own cc nL rt d q L (.int r :: st) N Rt) : xX own cc nL rt d pc L (.int l1 :: .ref l0 :: st) M Rt :=
  x_callV_i (n := 1) (As := [.int l1]) hd q hq hk_l0 (by decide) rfl rfl w1 kw2_178 kw2_179 kw1_1 kw2_180 (by decide +kernel) rfl hr (by decide) hst _ rfl (cX11_state_ hk_l0 h) k
def FX11_pillar (Q : Int32 → Mem → Prop) (l0 : Nat) (l1 : Int32) (M : Mem) : Prop :=
  ((l1 < 1 → Q (-1) M) ∧ (¬ l1 < 1 → ((99 < l1 → Q (-1) M) ∧ (¬ 99 < l1 → (((M ((l0 + 1) + 1) 10) < 10 → FX3_forget (fun (M1 : Mem) => FX9_addPillar (fun (r3 : Int32) (M2 : Mem) => Q r3 M2) ((l0 + 1) + 1) l1 M1) (l0 + 77) M) ∧ (¬ (M ((l0 + 1) + 1) 10) < 10 → Q (-1) M))))))
theorem eX11_pillar {Q : Int32 → Mem → Prop} {l0 : Nat} {l1 : Int32} {M : Mem} (hk_l0 : SHk l0 = 11) (h : FX11_pillar Q l0 l1 M) : xX RX11 cX11_pillar 2 (some .int) 5 0 [(0, .ref l0), (1, .int l1)] [] M (xQi Q) := by
  unfold FX11_pillar at h
  refine x_iload_n dX11_pillar_0 rfl 1 rfl ?_
  refine x_iconst dX11_pillar_1 kc_1 2 rfl ?_
  refine x_icmp_lt dX11_pillar_2 26 5 rfl rfl (fun hc => ?_) (fun hc => ?_)
  · have h := h.1 hc
    refine x_iconst dX11_pillar_26 kc_m1 27 rfl ?_
    exact x_iret dX11_pillar_27 h
  · have h := h.2 hc
    refine x_iload_n dX11_pillar_5 rfl 6 rfl ?_
    refine x_bipush dX11_pillar_6 kb_99 8 rfl ?_
    refine x_icmp_gt dX11_pillar_8 26 11 rfl rfl (fun hc => ?_) (fun hc => ?_)
    · have h := h.1 hc
      refine x_iconst dX11_pillar_26 kc_m1 27 rfl ?_
      exact x_iret dX11_pillar_27 h
    · have h := h.2 hc
      refine x_aload_n dX11_pillar_11 rfl 12 rfl ?_
      refine gf11_0 dX11_pillar_12 15 rfl hk_l0 kw2_148 ?_
      refine gf0_0 dX11_pillar_15 18 rfl (ly11_0 hk_l0).1 kw2_10 ?_
      refine gf9_10 dX11_pillar_18 21 rfl (ly0_0 (ly11_0 hk_l0).1).1 kw1_69 ?_
      refine x_bipush dX11_pillar_21 kb_10 23 rfl ?_
      refine x_icmp_lt dX11_pillar_23 28 26 rfl rfl (fun hc => ?_) (fun hc => ?_)
      · have h := h.1 hc
        refine x_aload_n dX11_pillar_28 rfl 29 rfl ?_
        refine gf11_3 dX11_pillar_29 32 rfl hk_l0 kw2_151 ?_
        refine kX3_forget dX11_pillar_32 35 rfl (ly11_3 hk_l0).1 kw2_181 (Nat.le_of_ble_eq_true rfl) (Nat.le_of_ble_eq_true rfl) h (fun M1 h => ?_)
        refine x_aload_n dX11_pillar_35 rfl 36 rfl ?_
        refine gf11_0 dX11_pillar_36 39 rfl hk_l0 kw2_148 ?_
        refine gf0_0 dX11_pillar_39 42 rfl (ly11_0 hk_l0).1 kw2_10 ?_
        refine x_iload_n dX11_pillar_42 rfl 43 rfl ?_
        refine kX9_addPillar dX11_pillar_43 46 rfl (ly0_0 (ly11_0 hk_l0).1).1 kw2_189 (Nat.le_of_ble_eq_true rfl) (Nat.le_of_ble_eq_true rfl) h (fun r3 M2 h => ?_)
        exact x_iret dX11_pillar_46 h
      · have h := h.2 hc
        refine x_iconst dX11_pillar_26 kc_m1 27 rfl ?_
        exact x_iret dX11_pillar_27 h
theorem cX11_pillar_ {Q : Int32 → Mem → Prop} {l0 : Nat} {l1 : Int32} {M : Mem} (hk_l0 : SHk l0 = 11) (h : FX11_pillar Q l0 l1 M) : xM yX11_pillar cX11_pillar 2 (some .int) 5 [.ref l0, .int l1] M (xQi Q) := xM_of (by decide +kernel) (Nat.le_of_ble_eq_true rfl) (eX11_pillar hk_l0 h)
theorem kX11_pillar {own : String} {cc : ByteArray} {nL : Nat} {rt : Option FieldType} {d pc ix : Nat} {L : List (Nat × Value)} {st : List Value} {M : Mem} {Rt : xGt → Array Value → State → Outcome → State → Prop} {Q : Int32 → Mem → Prop} {l0 : Nat} {l1 : Int32} (hd : decode cc pc = .ok (.invokevirtual ix, 3)) (q : Nat) (hq : pc + 3 = q) (hk_l0 : SHk l0 = 11) (w1 : Cond.methodLink own ix yX11_pillar ∈ xTs) (hr : 5 < d) (hst : (st.map fun v => v.category).sum ≤ 8) (h : FX11_pillar Q l0 l1 M) (k : ∀ (r : Int32) (N : Mem), Q r N → xX own cc nL rt d q L (.int r :: st) N Rt) : xX own cc nL rt d pc L (.int l1 :: .ref l0 :: st) M Rt :=
  x_callV_i (n := 1) (As := [.int l1]) hd q hq hk_l0 (by decide) rfl rfl w1 kw2_186 kw2_187 kw1_1 kw2_188 (by decide +kernel) rfl hr (by decide) hst _ rfl (cX11_pillar_ hk_l0 h) k
def NX11_saint_36 (Q : Int32 → Mem → Prop) (l0 : Nat) (l1 : Int32) (l2 : Int32) (l3 : Int32) (s0 : Int32) (M : Mem) : Prop :=
  ((s0 = 0 → Q (-1) M) ∧ (¬ s0 = 0 → (((M ((l0 + 1) + 1) 11) < 14 → FX3_forget (fun (M1 : Mem) => FX9_addSaint (fun (r3 : Int32) (M2 : Mem) => Q r3 M2) ((l0 + 1) + 1) l1 l2 l3 M1) (l0 + 77) M) ∧ (¬ (M ((l0 + 1) + 1) 11) < 14 → Q (-1) M))))
theorem nX11_saint_36 {Q : Int32 → Mem → Prop} {l0 : Nat} {l1 : Int32} {l2 : Int32} {l3 : Int32} {s0 : Int32} {M : Mem} (hk_l0 : SHk l0 = 11) (h : NX11_saint_36 Q l0 l1 l2 l3 s0 M) : xX RX11 cX11_saint 5 (some .int) 5 36 [(0, .ref l0), (1, .int l1), (2, .int l2), (3, .int l3)] [.int s0] M (xQi Q) := by
  unfold NX11_saint_36 at h
  refine x_istore dX11_saint_36 (Nat.le_of_ble_eq_true rfl) [(0, .ref l0), (1, .int l1), (2, .int l2), (3, .int l3), (4, .int s0)] rfl 38 rfl ?_
  refine x_iload dX11_saint_38 rfl 40 rfl ?_
  refine x_if_eq dX11_saint_40 58 43 rfl rfl (fun hc => ?_) (fun hc => ?_)
  · have h := h.1 hc
    refine x_iconst dX11_saint_58 kc_m1 59 rfl ?_
    exact x_iret dX11_saint_59 h
  · have h := h.2 hc
    refine x_aload_n dX11_saint_43 rfl 44 rfl ?_
    refine gf11_0 dX11_saint_44 47 rfl hk_l0 kw2_148 ?_
    refine gf0_0 dX11_saint_47 50 rfl (ly11_0 hk_l0).1 kw2_10 ?_
    refine gf9_11 dX11_saint_50 53 rfl (ly0_0 (ly11_0 hk_l0).1).1 kw1_74 ?_
    refine x_bipush dX11_saint_53 kb_14 55 rfl ?_
    refine x_icmp_lt dX11_saint_55 60 58 rfl rfl (fun hc => ?_) (fun hc => ?_)
    · have h := h.1 hc
      refine x_aload_n dX11_saint_60 rfl 61 rfl ?_
      refine gf11_3 dX11_saint_61 64 rfl hk_l0 kw2_151 ?_
      refine kX3_forget dX11_saint_64 67 rfl (ly11_3 hk_l0).1 kw2_181 (Nat.le_of_ble_eq_true rfl) (Nat.le_of_ble_eq_true rfl) h (fun M1 h => ?_)
      refine x_aload_n dX11_saint_67 rfl 68 rfl ?_
      refine gf11_0 dX11_saint_68 71 rfl hk_l0 kw2_148 ?_
      refine gf0_0 dX11_saint_71 74 rfl (ly11_0 hk_l0).1 kw2_10 ?_
      refine x_iload_n dX11_saint_74 rfl 75 rfl ?_
      refine x_iload_n dX11_saint_75 rfl 76 rfl ?_
      refine x_iload_n dX11_saint_76 rfl 77 rfl ?_
      refine kX9_addSaint dX11_saint_77 80 rfl (ly0_0 (ly11_0 hk_l0).1).1 kw2_216 (Nat.le_of_ble_eq_true rfl) (Nat.le_of_ble_eq_true rfl) h (fun r3 M2 h => ?_)
      exact x_iret dX11_saint_80 h
    · have h := h.2 hc
      refine x_iconst dX11_saint_58 kc_m1 59 rfl ?_
      exact x_iret dX11_saint_59 h
def NX11_saint_35 (Q : Int32 → Mem → Prop) (l0 : Nat) (l1 : Int32) (l2 : Int32) (l3 : Int32) (M : Mem) : Prop :=
  NX11_saint_36 Q l0 l1 l2 l3 0 M
theorem nX11_saint_35 {Q : Int32 → Mem → Prop} {l0 : Nat} {l1 : Int32} {l2 : Int32} {l3 : Int32} {M : Mem} (hk_l0 : SHk l0 = 11) (h : NX11_saint_35 Q l0 l1 l2 l3 M) : xX RX11 cX11_saint 5 (some .int) 5 35 [(0, .ref l0), (1, .int l1), (2, .int l2), (3, .int l3)] [] M (xQi Q) := by
  unfold NX11_saint_35 at h
  refine x_iconst dX11_saint_35 kc_0 36 rfl ?_
  exact nX11_saint_36 hk_l0 h
def FX11_saint (Q : Int32 → Mem → Prop) (l0 : Nat) (l1 : Int32) (l2 : Int32) (l3 : Int32) (M : Mem) : Prop :=
  FX11_within (fun (r4 : Bool) => ((r4 = false → NX11_saint_35 Q l0 l1 l2 l3 M) ∧ (r4 = true → FX11_within (fun (r5 : Bool) => ((r5 = false → NX11_saint_35 Q l0 l1 l2 l3 M) ∧ (r5 = true → FX11_within (fun (r6 : Bool) => ((r6 = false → NX11_saint_35 Q l0 l1 l2 l3 M) ∧ (r6 = true → NX11_saint_36 Q l0 l1 l2 l3 1 M))) l3 (-99) 99 M))) l2 0 9 M))) l1 0 120 M
theorem eX11_saint {Q : Int32 → Mem → Prop} {l0 : Nat} {l1 : Int32} {l2 : Int32} {l3 : Int32} {M : Mem} (hk_l0 : SHk l0 = 11) (h : FX11_saint Q l0 l1 l2 l3 M) : xX RX11 cX11_saint 5 (some .int) 5 0 [(0, .ref l0), (1, .int l1), (2, .int l2), (3, .int l3)] [] M (xQi Q) := by
  unfold FX11_saint at h
  refine x_iload_n dX11_saint_0 rfl 1 rfl ?_
  refine x_iconst dX11_saint_1 kc_0 2 rfl ?_
  refine x_bipush dX11_saint_2 kb_120 4 rfl ?_
  refine kX11_within dX11_saint_4 7 rfl kw2_213 (Nat.le_of_ble_eq_true rfl) (Nat.le_of_ble_eq_true rfl) h (fun r4 h => ?_)
  refine x_if_eq_b dX11_saint_7 35 10 rfl rfl (fun hc => ?_) (fun hc => ?_)
  · have h := h.1 hc
    exact nX11_saint_35 hk_l0 h
  · have h := h.2 hc
    refine x_iload_n dX11_saint_10 rfl 11 rfl ?_
    refine x_iconst dX11_saint_11 kc_0 12 rfl ?_
    refine x_bipush dX11_saint_12 kb_9 14 rfl ?_
    refine kX11_within dX11_saint_14 17 rfl kw2_213 (Nat.le_of_ble_eq_true rfl) (Nat.le_of_ble_eq_true rfl) h (fun r5 h => ?_)
    refine x_if_eq_b dX11_saint_17 35 20 rfl rfl (fun hc => ?_) (fun hc => ?_)
    · have h := h.1 hc
      exact nX11_saint_35 hk_l0 h
    · have h := h.2 hc
      refine x_iload_n dX11_saint_20 rfl 21 rfl ?_
      refine x_bipush dX11_saint_21 kb_m99 23 rfl ?_
      refine x_bipush dX11_saint_23 kb_99 25 rfl ?_
      refine kX11_within dX11_saint_25 28 rfl kw2_213 (Nat.le_of_ble_eq_true rfl) (Nat.le_of_ble_eq_true rfl) h (fun r6 h => ?_)
      refine x_if_eq_b dX11_saint_28 35 31 rfl rfl (fun hc => ?_) (fun hc => ?_)
      · have h := h.1 hc
        exact nX11_saint_35 hk_l0 h
      · have h := h.2 hc
        refine x_iconst dX11_saint_31 kc_1 32 rfl ?_
        refine x_goto dX11_saint_32 36 rfl ?_
        exact nX11_saint_36 hk_l0 h
theorem cX11_saint_ {Q : Int32 → Mem → Prop} {l0 : Nat} {l1 : Int32} {l2 : Int32} {l3 : Int32} {M : Mem} (hk_l0 : SHk l0 = 11) (h : FX11_saint Q l0 l1 l2 l3 M) : xM yX11_saint cX11_saint 5 (some .int) 5 [.ref l0, .int l1, .int l2, .int l3] M (xQi Q) := xM_of (by decide +kernel) (Nat.le_of_ble_eq_true rfl) (eX11_saint hk_l0 h)
theorem kX11_saint {own : String} {cc : ByteArray} {nL : Nat} {rt : Option FieldType} {d pc ix : Nat} {L : List (Nat × Value)} {st : List Value} {M : Mem} {Rt : xGt → Array Value → State → Outcome → State → Prop} {Q : Int32 → Mem → Prop} {l0 : Nat} {l1 : Int32} {l2 : Int32} {l3 : Int32} (hd : decode cc pc = .ok (.invokevirtual ix, 3)) (q : Nat) (hq : pc + 3 = q) (hk_l0 : SHk l0 = 11) (w1 : Cond.methodLink own ix yX11_saint ∈ xTs) (hr : 5 < d) (hst : (st.map fun v => v.category).sum ≤ 8) (h : FX11_saint Q l0 l1 l2 l3 M) (k : ∀ (r : Int32) (N : Mem), Q r N → xX own cc nL rt d q L (.int r :: st) N Rt) : xX own cc nL rt d pc L (.int l3 :: .int l2 :: .int l1 :: .ref l0 :: st) M Rt :=
  x_callV_i (n := 3) (As := [.int l1, .int l2, .int l3]) hd q hq hk_l0 (by decide) rfl rfl w1 kw2_210 kw2_211 kw1_1 kw2_212 (by decide +kernel) rfl hr (by decide) hst _ rfl (cX11_saint_ hk_l0 h) k
def FX11_set (Q : Bool → Mem → Prop) (l0 : Nat) (l1 : Int32) (l2 : Int32) (l3 : Int32) (M : Mem) : Prop :=
  FX9_change (fun (r2 : Bool) (M1 : Mem) => ((r2 = true → FX3_forget (fun (M3 : Mem) => Q true M3) (l0 + 77) M1) ∧ (r2 = false → Q false M1))) ((l0 + 1) + 1) l1 l2 l3 M
theorem eX11_set {Q : Bool → Mem → Prop} {l0 : Nat} {l1 : Int32} {l2 : Int32} {l3 : Int32} {M : Mem} (hk_l0 : SHk l0 = 11) (h : FX11_set Q l0 l1 l2 l3 M) : xX RX11 cX11_set 4 (some .boolean) 3 0 [(0, .ref l0), (1, .int l1), (2, .int l2), (3, .int l3)] [] M (xQb Q) := by
  unfold FX11_set at h
  refine x_aload_n dX11_set_0 rfl 1 rfl ?_
  refine gf11_0 dX11_set_1 4 rfl hk_l0 kw2_148 ?_
  refine gf0_0 dX11_set_4 7 rfl (ly11_0 hk_l0).1 kw2_10 ?_
  refine x_iload_n dX11_set_7 rfl 8 rfl ?_
  refine x_iload_n dX11_set_8 rfl 9 rfl ?_
  refine x_iload_n dX11_set_9 rfl 10 rfl ?_
  refine kX9_change dX11_set_10 13 rfl (ly0_0 (ly11_0 hk_l0).1).1 kw2_228 (Nat.le_of_ble_eq_true rfl) (Nat.le_of_ble_eq_true rfl) h (fun r2 M1 h => ?_)
  refine x_if_ne_b dX11_set_13 18 16 rfl rfl (fun hc => ?_) (fun hc => ?_)
  · have h := h.1 hc
    refine x_aload_n dX11_set_18 rfl 19 rfl ?_
    refine gf11_3 dX11_set_19 22 rfl hk_l0 kw2_151 ?_
    refine kX3_forget dX11_set_22 25 rfl (ly11_3 hk_l0).1 kw2_181 (Nat.le_of_ble_eq_true rfl) (Nat.le_of_ble_eq_true rfl) h (fun M3 h => ?_)
    refine x_iconst dX11_set_25 kc_1 26 rfl ?_
    exact x_zret (z := true) dX11_set_26 h
  · have h := h.2 hc
    refine x_iconst dX11_set_16 kc_0 17 rfl ?_
    exact x_zret (z := false) dX11_set_17 h
theorem cX11_set_ {Q : Bool → Mem → Prop} {l0 : Nat} {l1 : Int32} {l2 : Int32} {l3 : Int32} {M : Mem} (hk_l0 : SHk l0 = 11) (h : FX11_set Q l0 l1 l2 l3 M) : xM yX11_set cX11_set 4 (some .boolean) 3 [.ref l0, .int l1, .int l2, .int l3] M (xQb Q) := xM_of (by decide +kernel) (Nat.le_of_ble_eq_true rfl) (eX11_set hk_l0 h)
theorem kX11_set {own : String} {cc : ByteArray} {nL : Nat} {rt : Option FieldType} {d pc ix : Nat} {L : List (Nat × Value)} {st : List Value} {M : Mem} {Rt : xGt → Array Value → State → Outcome → State → Prop} {Q : Bool → Mem → Prop} {l0 : Nat} {l1 : Int32} {l2 : Int32} {l3 : Int32} (hd : decode cc pc = .ok (.invokevirtual ix, 3)) (q : Nat) (hq : pc + 3 = q) (hk_l0 : SHk l0 = 11) (w1 : Cond.methodLink own ix yX11_set ∈ xTs) (hr : 3 < d) (hst : (st.map fun v => v.category).sum ≤ 8) (h : FX11_set Q l0 l1 l2 l3 M) (k : ∀ (r : Bool) (N : Mem), Q r N → xX own cc nL rt d q L (.int (bI r) :: st) N Rt) : xX own cc nL rt d pc L (.int l3 :: .int l2 :: .int l1 :: .ref l0 :: st) M Rt :=
  x_callV_b (n := 3) (As := [.int l1, .int l2, .int l3]) hd q hq hk_l0 (by decide) rfl rfl w1 kw2_225 kw2_226 kw1_1 kw2_227 (by decide +kernel) rfl hr (by decide) hst _ rfl (cX11_set_ hk_l0 h) k
def FX11_act (Q : Bool → Mem → Prop) (l0 : Nat) (l1 : Int32) (l2 : Int32) (l3 : Int32) (M : Mem) : Prop :=
  FX9_canDo (fun (r1 : Bool) => ((r1 = true → FX3_keep (fun (M2 : Mem) => ((l1 = 0 → FJ9_min_7cf53 (fun (r3 : Int32) => ∀ M4 : Mem, M4 = xu M2 ((l0 + 1) + 1) 13 r3 → Q true M4) 999 ((M2 ((l0 + 1) + 1) 13) + l3) M2) ∧ (l1 = 1 → FX9_say (fun (M5 : Mem) => Q true M5) ((l0 + 1) + 1) l3 M2) ∧ (l1 = 2 → FX9_goDown (fun (M6 : Mem) => Q true M6) ((l0 + 1) + 1) l2 M2) ∧ (¬ l1 = 0 → ¬ l1 = 1 → ¬ l1 = 2 → FX9_raise (fun (M7 : Mem) => Q true M7) ((l0 + 1) + 1) l2 l3 M2))) (l0 + 77) ((l0 + 1) + 1) M) ∧ (r1 = false → Q false M))) ((l0 + 1) + 1) l1 l2 l3 M
theorem eX11_act {Q : Bool → Mem → Prop} {l0 : Nat} {l1 : Int32} {l2 : Int32} {l3 : Int32} {M : Mem} (hk_l0 : SHk l0 = 11) (h : FX11_act Q l0 l1 l2 l3 M) : xX RX11 cX11_act 5 (some .boolean) 5 0 [(0, .ref l0), (1, .int l1), (2, .int l2), (3, .int l3)] [] M (xQb Q) := by
  unfold FX11_act at h
  refine x_aload_n dX11_act_0 rfl 1 rfl ?_
  refine gf11_0 dX11_act_1 4 rfl hk_l0 kw2_148 ?_
  refine gf0_0 dX11_act_4 7 rfl (ly11_0 hk_l0).1 kw2_10 ?_
  refine x_astore dX11_act_7 (Nat.le_of_ble_eq_true rfl) [(0, .ref l0), (1, .int l1), (2, .int l2), (3, .int l3), (4, .ref ((l0 + 1) + 1))] rfl 9 rfl ?_
  refine x_aload dX11_act_9 rfl 11 rfl ?_
  refine x_iload_n dX11_act_11 rfl 12 rfl ?_
  refine x_iload_n dX11_act_12 rfl 13 rfl ?_
  refine x_iload_n dX11_act_13 rfl 14 rfl ?_
  refine kX9_canDo dX11_act_14 17 rfl (ly0_0 (ly11_0 hk_l0).1).1 kw3_1 (Nat.le_of_ble_eq_true rfl) (Nat.le_of_ble_eq_true rfl) h (fun r1 h => ?_)
  refine x_if_ne_b dX11_act_17 22 20 rfl rfl (fun hc => ?_) (fun hc => ?_)
  · have h := h.1 hc
    refine x_aload_n dX11_act_22 rfl 23 rfl ?_
    refine gf11_3 dX11_act_23 26 rfl hk_l0 kw2_151 ?_
    refine x_aload dX11_act_26 rfl 28 rfl ?_
    refine kX3_keep dX11_act_28 31 rfl (ly11_3 hk_l0).1 (ly0_0 (ly11_0 hk_l0).1).1 kw3_17 (Nat.le_of_ble_eq_true rfl) (Nat.le_of_ble_eq_true rfl) h (fun M2 h => ?_)
    refine x_iload_n dX11_act_31 rfl 32 rfl ?_
    by_cases hc0 : l1 = 0
    · refine x_tab_at dX11_act_32 hc0 (by decide) (by decide) rfl (tg := 60) rfl ?_
      have h := h.1 hc0
      refine x_aload dX11_act_60 rfl 62 rfl ?_
      refine x_sipush dX11_act_62 kh_999 65 rfl ?_
      refine x_aload dX11_act_65 rfl 67 rfl ?_
      refine gf9_13 dX11_act_67 70 rfl (ly0_0 (ly11_0 hk_l0).1).1 kw1_81 ?_
      refine x_iload_n dX11_act_70 rfl 71 rfl ?_
      refine x_iadd dX11_act_71 72 rfl ?_
      refine kJ9_min_7cf53 dX11_act_72 75 rfl kw3_35 (Nat.le_of_ble_eq_true rfl) (Nat.le_of_ble_eq_true rfl) h (fun r3 h => ?_)
      refine pf9_13 dX11_act_75 78 rfl (ly0_0 (ly11_0 hk_l0).1).1 kw1_81 (x_mem (fun M4 hM4 => ?_))
      have h := h M4 hM4
      refine x_goto dX11_act_78 106 rfl ?_
      refine x_iconst dX11_act_106 kc_1 107 rfl ?_
      exact x_zret (z := true) dX11_act_107 h
    by_cases hc1 : l1 = 1
    · refine x_tab_at dX11_act_32 hc1 (by decide) (by decide) rfl (tg := 81) rfl ?_
      have h := h.2.1 hc1
      refine x_aload dX11_act_81 rfl 83 rfl ?_
      refine x_iload_n dX11_act_83 rfl 84 rfl ?_
      refine kX9_say dX11_act_84 87 rfl (ly0_0 (ly11_0 hk_l0).1).1 kw3_36 (Nat.le_of_ble_eq_true rfl) (Nat.le_of_ble_eq_true rfl) h (fun M5 h => ?_)
      refine x_goto dX11_act_87 106 rfl ?_
      refine x_iconst dX11_act_106 kc_1 107 rfl ?_
      exact x_zret (z := true) dX11_act_107 h
    by_cases hc2 : l1 = 2
    · refine x_tab_at dX11_act_32 hc2 (by decide) (by decide) rfl (tg := 90) rfl ?_
      have h := h.2.2.1 hc2
      refine x_aload dX11_act_90 rfl 92 rfl ?_
      refine x_iload_n dX11_act_92 rfl 93 rfl ?_
      refine kX9_goDown dX11_act_93 96 rfl (ly0_0 (ly11_0 hk_l0).1).1 kw3_40 (Nat.le_of_ble_eq_true rfl) (Nat.le_of_ble_eq_true rfl) h (fun M6 h => ?_)
      refine x_goto dX11_act_96 106 rfl ?_
      refine x_iconst dX11_act_106 kc_1 107 rfl ?_
      exact x_zret (z := true) dX11_act_107 h
    have h := h.2.2.2 hc0 hc1 hc2
    refine x_tab_out dX11_act_32 (by have a0 := lv_neT hc0 (a := 0) (by decide); have a1 := lv_neT hc1 (a := 1) (by decide); have a2 := lv_neT hc2 (a := 2) (by decide); show (l1 : Int32).toInt < 0 ∨ 2 < (l1 : Int32).toInt; omega) (tg := 99) rfl ?_
    refine x_aload dX11_act_99 rfl 101 rfl ?_
    refine x_iload_n dX11_act_101 rfl 102 rfl ?_
    refine x_iload_n dX11_act_102 rfl 103 rfl ?_
    refine kX9_raise dX11_act_103 106 rfl (ly0_0 (ly11_0 hk_l0).1).1 kw3_44 (Nat.le_of_ble_eq_true rfl) (Nat.le_of_ble_eq_true rfl) h (fun M7 h => ?_)
    refine x_iconst dX11_act_106 kc_1 107 rfl ?_
    exact x_zret (z := true) dX11_act_107 h
  · have h := h.2 hc
    refine x_iconst dX11_act_20 kc_0 21 rfl ?_
    exact x_zret (z := false) dX11_act_21 h
theorem cX11_act_ {Q : Bool → Mem → Prop} {l0 : Nat} {l1 : Int32} {l2 : Int32} {l3 : Int32} {M : Mem} (hk_l0 : SHk l0 = 11) (h : FX11_act Q l0 l1 l2 l3 M) : xM yX11_act cX11_act 5 (some .boolean) 5 [.ref l0, .int l1, .int l2, .int l3] M (xQb Q) := xM_of (by decide +kernel) (Nat.le_of_ble_eq_true rfl) (eX11_act hk_l0 h)
theorem kX11_act {own : String} {cc : ByteArray} {nL : Nat} {rt : Option FieldType} {d pc ix : Nat} {L : List (Nat × Value)} {st : List Value} {M : Mem} {Rt : xGt → Array Value → State → Outcome → State → Prop} {Q : Bool → Mem → Prop} {l0 : Nat} {l1 : Int32} {l2 : Int32} {l3 : Int32} (hd : decode cc pc = .ok (.invokevirtual ix, 3)) (q : Nat) (hq : pc + 3 = q) (hk_l0 : SHk l0 = 11) (w1 : Cond.methodLink own ix yX11_act ∈ xTs) (hr : 5 < d) (hst : (st.map fun v => v.category).sum ≤ 8) (h : FX11_act Q l0 l1 l2 l3 M) (k : ∀ (r : Bool) (N : Mem), Q r N → xX own cc nL rt d q L (.int (bI r) :: st) N Rt) : xX own cc nL rt d pc L (.int l3 :: .int l2 :: .int l1 :: .ref l0 :: st) M Rt :=
  x_callV_b (n := 3) (As := [.int l1, .int l2, .int l3]) hd q hq hk_l0 (by decide) rfl rfl w1 kw2_238 kw2_239 kw1_1 kw3_0 (by decide +kernel) rfl hr (by decide) hst _ rfl (cX11_act_ hk_l0 h) k
def lbX11_days_38 (Q : Int32 → Mem → Prop) (l0 : Nat) (l1 : Int32) (l2 : Nat) (B38 : Int32 → Int32 → Mem → Prop) (l3 : Int32) (l4 : Int32) (M : Mem) : Prop :=
  ((l1 ≤ l4 → Q l3 M) ∧ (¬ l1 ≤ l4 → FX3_keep (fun (M1 : Mem) => FX0_passDay (fun (r3 : Int32) (M2 : Mem) => B38 (l3 + r3) (l4 + 1) M2) (l0 + 1) l2 0 M1) (l0 + 77) l2 M))
def NX11_days_38 (Q : Int32 → Mem → Prop) (l0 : Nat) (l1 : Int32) (l2 : Nat) (l3 : Int32) (l4 : Int32) (M : Mem) : Prop := xlp (fun (B : Int32 × Int32 × Mem → Prop) a => lbX11_days_38 Q l0 l1 l2 (fun l3 l4 M => B (l3, l4, M)) a.1 a.2.1 a.2.2) (l3, l4, M)
theorem nX11_days_38 {Q : Int32 → Mem → Prop} {l0 : Nat} {l1 : Int32} {l2 : Nat} {l3 : Int32} {l4 : Int32} {M : Mem} (hk_l0 : SHk l0 = 11) (hk_l2 : SHk l2 = 9) (h : NX11_days_38 Q l0 l1 l2 l3 l4 M) : xX RX11 cX11_days 5 (some .int) 8 38 [(0, .ref l0), (1, .int l1), (2, .ref l2), (3, .int l3), (4, .int l4)] [] M (xQi Q) := by
  obtain ⟨n, h⟩ := h
  have hB38 : ∀ (n : Nat) (l3 : Int32) (l4 : Int32) (M : Mem), xlpn (fun (B : Int32 × Int32 × Mem → Prop) a => lbX11_days_38 Q l0 l1 l2 (fun l3 l4 M => B (l3, l4, M)) a.1 a.2.1 a.2.2) n (l3, l4, M) → xX RX11 cX11_days 5 (some .int) 8 38 [(0, .ref l0), (1, .int l1), (2, .ref l2), (3, .int l3), (4, .int l4)] [] M (xQi Q) := by
    intro n
    induction n with
    | zero => intro l3 l4 M h; exact False.elim h
    | succ n ih =>
      intro l3 l4 M h
      have hB38 := ih
      have h : lbX11_days_38 Q l0 l1 l2 (fun l3 l4 M => xlpn (fun (B : Int32 × Int32 × Mem → Prop) a => lbX11_days_38 Q l0 l1 l2 (fun l3 l4 M => B (l3, l4, M)) a.1 a.2.1 a.2.2) n (l3, l4, M)) l3 l4 M := h
      unfold lbX11_days_38 at h
      refine x_iload dX11_days_38 rfl 40 rfl ?_
      refine x_iload_n dX11_days_40 rfl 41 rfl ?_
      refine x_icmp_ge dX11_days_41 70 44 rfl rfl (fun hc => ?_) (fun hc => ?_)
      · have h := h.1 hc
        refine x_iload_n dX11_days_70 rfl 71 rfl ?_
        exact x_iret dX11_days_71 h
      · have h := h.2 hc
        refine x_aload_n dX11_days_44 rfl 45 rfl ?_
        refine gf11_3 dX11_days_45 48 rfl hk_l0 kw2_151 ?_
        refine x_aload_n dX11_days_48 rfl 49 rfl ?_
        refine kX3_keep dX11_days_49 52 rfl (ly11_3 hk_l0).1 hk_l2 kw3_17 (Nat.le_of_ble_eq_true rfl) (Nat.le_of_ble_eq_true rfl) h (fun M1 h => ?_)
        refine x_iload_n dX11_days_52 rfl 53 rfl ?_
        refine x_aload_n dX11_days_53 rfl 54 rfl ?_
        refine gf11_0 dX11_days_54 57 rfl hk_l0 kw2_148 ?_
        refine x_aload_n dX11_days_57 rfl 58 rfl ?_
        refine x_iconst dX11_days_58 kc_0 59 rfl ?_
        refine kX0_passDay dX11_days_59 62 rfl (ly11_0 hk_l0).1 hk_l2 kw3_52 (Nat.le_of_ble_eq_true rfl) (Nat.le_of_ble_eq_true rfl) h (fun r3 M2 h => ?_)
        refine x_iadd dX11_days_62 63 rfl ?_
        refine x_istore_n dX11_days_63 (Nat.le_of_ble_eq_true rfl) [(0, .ref l0), (1, .int l1), (2, .ref l2), (3, .int (l3 + r3)), (4, .int l4)] rfl 64 rfl ?_
        refine x_iinc dX11_days_64 rfl (congrArg (l4 + ·) kc_1) (Nat.le_of_ble_eq_true rfl) [(0, .ref l0), (1, .int l1), (2, .ref l2), (3, .int (l3 + r3)), (4, .int (l4 + 1))] rfl 67 rfl ?_
        refine x_goto dX11_days_67 38 rfl ?_
        exact hB38 _ _ _ h
  exact hB38 n l3 l4 M h
def FX11_days (Q : Int32 → Mem → Prop) (l0 : Nat) (l1 : Int32) (M : Mem) : Prop :=
  ((l1 < 1 → Q (-1) M) ∧ (¬ l1 < 1 → ((60 < l1 → Q (-1) M) ∧ (¬ 60 < l1 → ((((M ((l0 + 1) + 1) 15) + l1) ≤ 9999 → NX11_days_38 Q l0 l1 ((l0 + 1) + 1) 0 0 M) ∧ (¬ ((M ((l0 + 1) + 1) 15) + l1) ≤ 9999 → Q (-1) M))))))
theorem eX11_days {Q : Int32 → Mem → Prop} {l0 : Nat} {l1 : Int32} {M : Mem} (hk_l0 : SHk l0 = 11) (h : FX11_days Q l0 l1 M) : xX RX11 cX11_days 5 (some .int) 8 0 [(0, .ref l0), (1, .int l1)] [] M (xQi Q) := by
  unfold FX11_days at h
  refine x_aload_n dX11_days_0 rfl 1 rfl ?_
  refine gf11_0 dX11_days_1 4 rfl hk_l0 kw2_148 ?_
  refine gf0_0 dX11_days_4 7 rfl (ly11_0 hk_l0).1 kw2_10 ?_
  refine x_astore_n dX11_days_7 (Nat.le_of_ble_eq_true rfl) [(0, .ref l0), (1, .int l1), (2, .ref ((l0 + 1) + 1))] rfl 8 rfl ?_
  refine x_iload_n dX11_days_8 rfl 9 rfl ?_
  refine x_iconst dX11_days_9 kc_1 10 rfl ?_
  refine x_icmp_lt dX11_days_10 31 13 rfl rfl (fun hc => ?_) (fun hc => ?_)
  · have h := h.1 hc
    refine x_iconst dX11_days_31 kc_m1 32 rfl ?_
    exact x_iret dX11_days_32 h
  · have h := h.2 hc
    refine x_iload_n dX11_days_13 rfl 14 rfl ?_
    refine x_bipush dX11_days_14 kb_60 16 rfl ?_
    refine x_icmp_gt dX11_days_16 31 19 rfl rfl (fun hc => ?_) (fun hc => ?_)
    · have h := h.1 hc
      refine x_iconst dX11_days_31 kc_m1 32 rfl ?_
      exact x_iret dX11_days_32 h
    · have h := h.2 hc
      refine x_aload_n dX11_days_19 rfl 20 rfl ?_
      refine gf9_15 dX11_days_20 23 rfl (ly0_0 (ly11_0 hk_l0).1).1 kw1_88 ?_
      refine x_iload_n dX11_days_23 rfl 24 rfl ?_
      refine x_iadd dX11_days_24 25 rfl ?_
      refine x_sipush dX11_days_25 kh_9999 28 rfl ?_
      refine x_icmp_le dX11_days_28 33 31 rfl rfl (fun hc => ?_) (fun hc => ?_)
      · have h := h.1 hc
        refine x_iconst dX11_days_33 kc_0 34 rfl ?_
        refine x_istore_n dX11_days_34 (Nat.le_of_ble_eq_true rfl) [(0, .ref l0), (1, .int l1), (2, .ref ((l0 + 1) + 1)), (3, .int 0)] rfl 35 rfl ?_
        refine x_iconst dX11_days_35 kc_0 36 rfl ?_
        refine x_istore dX11_days_36 (Nat.le_of_ble_eq_true rfl) [(0, .ref l0), (1, .int l1), (2, .ref ((l0 + 1) + 1)), (3, .int 0), (4, .int 0)] rfl 38 rfl ?_
        exact nX11_days_38 hk_l0 (ly0_0 (ly11_0 hk_l0).1).1 h
      · have h := h.2 hc
        refine x_iconst dX11_days_31 kc_m1 32 rfl ?_
        exact x_iret dX11_days_32 h
theorem cX11_days_ {Q : Int32 → Mem → Prop} {l0 : Nat} {l1 : Int32} {M : Mem} (hk_l0 : SHk l0 = 11) (h : FX11_days Q l0 l1 M) : xM yX11_days cX11_days 5 (some .int) 8 [.ref l0, .int l1] M (xQi Q) := xM_of (by decide +kernel) (Nat.le_of_ble_eq_true rfl) (eX11_days hk_l0 h)
theorem kX11_days {own : String} {cc : ByteArray} {nL : Nat} {rt : Option FieldType} {d pc ix : Nat} {L : List (Nat × Value)} {st : List Value} {M : Mem} {Rt : xGt → Array Value → State → Outcome → State → Prop} {Q : Int32 → Mem → Prop} {l0 : Nat} {l1 : Int32} (hd : decode cc pc = .ok (.invokevirtual ix, 3)) (q : Nat) (hq : pc + 3 = q) (hk_l0 : SHk l0 = 11) (w1 : Cond.methodLink own ix yX11_days ∈ xTs) (hr : 8 < d) (hst : (st.map fun v => v.category).sum ≤ 8) (h : FX11_days Q l0 l1 M) (k : ∀ (r : Int32) (N : Mem), Q r N → xX own cc nL rt d q L (.int r :: st) N Rt) : xX own cc nL rt d pc L (.int l1 :: .ref l0 :: st) M Rt :=
  x_callV_i (n := 1) (As := [.int l1]) hd q hq hk_l0 (by decide) rfl rfl w1 kw3_49 kw3_50 kw1_1 kw3_51 (by decide +kernel) rfl hr (by decide) hst _ rfl (cX11_days_ hk_l0 h) k
def lbX11_putNumber_3 (Q : Mem → Prop) (l0 : Nat) (l1 : Int32) (B3 : Int32 → Mem → Prop) (l2 : Int32) (M : Mem) : Prop :=
  ((l2 < 0 → Q M) ∧ (¬ l2 < 0 → ((400 ≤ (M l0 7) → B3 (l2 + (-8)) M) ∧ (¬ 400 ≤ (M l0 7) → vp_in (M l0 7) 400 ∧ ∀ M1 : Mem, M1 = xu M (l0 + 165) (ix (M l0 7)) (vp_nar .byte (((l1.toUInt32 >>> ((l2 : Int32).toUInt32 &&& Int32.toUInt32 31)).toInt32).toInt8.toInt32)) → ∀ M2 : Mem, M2 = xu M1 l0 7 ((M1 l0 7) + 1) → B3 (l2 + (-8)) M2))))
def NX11_putNumber_3 (Q : Mem → Prop) (l0 : Nat) (l1 : Int32) (l2 : Int32) (M : Mem) : Prop := xlp (fun (B : Int32 × Mem → Prop) a => lbX11_putNumber_3 Q l0 l1 (fun l2 M => B (l2, M)) a.1 a.2) (l2, M)
theorem nX11_putNumber_3 {Q : Mem → Prop} {l0 : Nat} {l1 : Int32} {l2 : Int32} {M : Mem} (hk_l0 : SHk l0 = 11) (h : NX11_putNumber_3 Q l0 l1 l2 M) : xX RX11 cX11_putNumber 3 none 1 3 [(0, .ref l0), (1, .int l1), (2, .int l2)] [] M (xQv Q) := by
  obtain ⟨n, h⟩ := h
  have hB3 : ∀ (n : Nat) (l2 : Int32) (M : Mem), xlpn (fun (B : Int32 × Mem → Prop) a => lbX11_putNumber_3 Q l0 l1 (fun l2 M => B (l2, M)) a.1 a.2) n (l2, M) → xX RX11 cX11_putNumber 3 none 1 3 [(0, .ref l0), (1, .int l1), (2, .int l2)] [] M (xQv Q) := by
    intro n
    induction n with
    | zero => intro l2 M h; exact False.elim h
    | succ n ih =>
      intro l2 M h
      have hB3 := ih
      have h : lbX11_putNumber_3 Q l0 l1 (fun l2 M => xlpn (fun (B : Int32 × Mem → Prop) a => lbX11_putNumber_3 Q l0 l1 (fun l2 M => B (l2, M)) a.1 a.2) n (l2, M)) l2 M := h
      unfold lbX11_putNumber_3 at h
      refine x_iload_n dX11_putNumber_3 rfl 4 rfl ?_
      refine x_if_lt dX11_putNumber_4 46 7 rfl rfl (fun hc => ?_) (fun hc => ?_)
      · have h := h.1 hc
        exact x_vret dX11_putNumber_46 h
      · have h := h.2 hc
        refine x_aload_n dX11_putNumber_7 rfl 8 rfl ?_
        refine gf11_7 dX11_putNumber_8 11 rfl hk_l0 kw2_155 ?_
        refine x_sipush dX11_putNumber_11 kh_400 14 rfl ?_
        refine x_icmp_ge dX11_putNumber_14 40 17 rfl rfl (fun hc => ?_) (fun hc => ?_)
        · have h := h.1 hc
          refine x_iinc dX11_putNumber_40 rfl (congrArg (l2 + ·) kc_m8) (Nat.le_of_ble_eq_true rfl) [(0, .ref l0), (1, .int l1), (2, .int (l2 + (-8)))] rfl 43 rfl ?_
          refine x_goto dX11_putNumber_43 3 rfl ?_
          exact hB3 _ _ h
        · have h := h.2 hc
          refine x_aload_n dX11_putNumber_17 rfl 18 rfl ?_
          refine gf11_6 dX11_putNumber_18 21 rfl hk_l0 kw2_154 ?_
          refine x_aload_n dX11_putNumber_21 rfl 22 rfl ?_
          refine gf11_7 dX11_putNumber_22 25 rfl hk_l0 kw2_155 ?_
          refine x_iload_n dX11_putNumber_25 rfl 26 rfl ?_
          refine x_iload_n dX11_putNumber_26 rfl 27 rfl ?_
          refine x_iushr dX11_putNumber_27 28 rfl ?_
          refine x_i2b dX11_putNumber_28 29 rfl ?_
          obtain ⟨hin, h⟩ := h
          refine x_bastore dX11_putNumber_29 (ly11_6 hk_l0) hin 30 rfl (x_mem (fun M1 hM1 => ?_))
          have h := h M1 hM1
          refine x_aload_n dX11_putNumber_30 rfl 31 rfl ?_
          refine x_dup dX11_putNumber_31 rfl 32 rfl ?_
          refine gf11_7 dX11_putNumber_32 35 rfl hk_l0 kw2_155 ?_
          refine x_iconst dX11_putNumber_35 kc_1 36 rfl ?_
          refine x_iadd dX11_putNumber_36 37 rfl ?_
          refine pf11_7 dX11_putNumber_37 40 rfl hk_l0 kw2_155 (x_mem (fun M2 hM2 => ?_))
          have h := h M2 hM2
          refine x_iinc dX11_putNumber_40 rfl (congrArg (l2 + ·) kc_m8) (Nat.le_of_ble_eq_true rfl) [(0, .ref l0), (1, .int l1), (2, .int (l2 + (-8)))] rfl 43 rfl ?_
          refine x_goto dX11_putNumber_43 3 rfl ?_
          exact hB3 _ _ h
  exact hB3 n l2 M h
def FX11_putNumber (Q : Mem → Prop) (l0 : Nat) (l1 : Int32) (M : Mem) : Prop :=
  NX11_putNumber_3 Q l0 l1 24 M
theorem eX11_putNumber {Q : Mem → Prop} {l0 : Nat} {l1 : Int32} {M : Mem} (hk_l0 : SHk l0 = 11) (h : FX11_putNumber Q l0 l1 M) : xX RX11 cX11_putNumber 3 none 1 0 [(0, .ref l0), (1, .int l1)] [] M (xQv Q) := by
  unfold FX11_putNumber at h
  refine x_bipush dX11_putNumber_0 kb_24 2 rfl ?_
  refine x_istore_n dX11_putNumber_2 (Nat.le_of_ble_eq_true rfl) [(0, .ref l0), (1, .int l1), (2, .int 24)] rfl 3 rfl ?_
  exact nX11_putNumber_3 hk_l0 h
theorem cX11_putNumber_ {Q : Mem → Prop} {l0 : Nat} {l1 : Int32} {M : Mem} (hk_l0 : SHk l0 = 11) (h : FX11_putNumber Q l0 l1 M) : xM yX11_putNumber cX11_putNumber 3 none 1 [.ref l0, .int l1] M (xQv Q) := xM_of (by decide +kernel) (Nat.le_of_ble_eq_true rfl) (eX11_putNumber hk_l0 h)
theorem kX11_putNumber {own : String} {cc : ByteArray} {nL : Nat} {rt : Option FieldType} {d pc ix : Nat} {L : List (Nat × Value)} {st : List Value} {M : Mem} {Rt : xGt → Array Value → State → Outcome → State → Prop} {Q : Mem → Prop} {l0 : Nat} {l1 : Int32} (hd : decode cc pc = .ok (.invokevirtual ix, 3)) (q : Nat) (hq : pc + 3 = q) (hk_l0 : SHk l0 = 11) (w1 : Cond.methodLink own ix yX11_putNumber ∈ xTs) (hr : 1 < d) (hst : (st.map fun v => v.category).sum ≤ 8) (h : FX11_putNumber Q l0 l1 M) (k : ∀ (N : Mem), Q N → xX own cc nL rt d q L st N Rt) : xX own cc nL rt d pc L (.int l1 :: .ref l0 :: st) M Rt :=
  x_callV_v (n := 1) (As := [.int l1]) hd q hq hk_l0 (by decide) rfl rfl w1 kw3_175 ks1_11 kw1_1 kw3_176 (by decide +kernel) rfl hr (by decide) hst _ rfl (cX11_putNumber_ hk_l0 h) k
def FX11_feed (Q : Int32 → Mem → Prop) (l0 : Nat) (l1 : Int32) (l2 : Int32) (l3 : Int32) (l4 : Int32) (l5 : Int32) (M : Mem) : Prop :=
  (((M l0 7) ≤ 380 → FX11_putNumber (fun (M1 : Mem) => FX11_putNumber (fun (M2 : Mem) => FX11_putNumber (fun (M3 : Mem) => FX11_putNumber (fun (M4 : Mem) => FX11_putNumber (fun (M5 : Mem) => Q (M5 l0 7) M5) l0 l5 M4) l0 l4 M3) l0 l3 M2) l0 l2 M1) l0 l1 M) ∧ (¬ (M l0 7) ≤ 380 → Q (-1) M))
theorem eX11_feed {Q : Int32 → Mem → Prop} {l0 : Nat} {l1 : Int32} {l2 : Int32} {l3 : Int32} {l4 : Int32} {l5 : Int32} {M : Mem} (hk_l0 : SHk l0 = 11) (h : FX11_feed Q l0 l1 l2 l3 l4 l5 M) : xX RX11 cX11_feed 6 (some .int) 2 0 [(0, .ref l0), (1, .int l1), (2, .int l2), (3, .int l3), (4, .int l4), (5, .int l5)] [] M (xQi Q) := by
  unfold FX11_feed at h
  refine x_aload_n dX11_feed_0 rfl 1 rfl ?_
  refine gf11_7 dX11_feed_1 4 rfl hk_l0 kw2_155 ?_
  refine x_sipush dX11_feed_4 kh_380 7 rfl ?_
  refine x_icmp_le dX11_feed_7 12 10 rfl rfl (fun hc => ?_) (fun hc => ?_)
  · have h := h.1 hc
    refine x_aload_n dX11_feed_12 rfl 13 rfl ?_
    refine x_iload_n dX11_feed_13 rfl 14 rfl ?_
    refine kX11_putNumber dX11_feed_14 17 rfl hk_l0 kw3_173 (Nat.le_of_ble_eq_true rfl) (Nat.le_of_ble_eq_true rfl) h (fun M1 h => ?_)
    refine x_aload_n dX11_feed_17 rfl 18 rfl ?_
    refine x_iload_n dX11_feed_18 rfl 19 rfl ?_
    refine kX11_putNumber dX11_feed_19 22 rfl hk_l0 kw3_173 (Nat.le_of_ble_eq_true rfl) (Nat.le_of_ble_eq_true rfl) h (fun M2 h => ?_)
    refine x_aload_n dX11_feed_22 rfl 23 rfl ?_
    refine x_iload_n dX11_feed_23 rfl 24 rfl ?_
    refine kX11_putNumber dX11_feed_24 27 rfl hk_l0 kw3_173 (Nat.le_of_ble_eq_true rfl) (Nat.le_of_ble_eq_true rfl) h (fun M3 h => ?_)
    refine x_aload_n dX11_feed_27 rfl 28 rfl ?_
    refine x_iload dX11_feed_28 rfl 30 rfl ?_
    refine kX11_putNumber dX11_feed_30 33 rfl hk_l0 kw3_173 (Nat.le_of_ble_eq_true rfl) (Nat.le_of_ble_eq_true rfl) h (fun M4 h => ?_)
    refine x_aload_n dX11_feed_33 rfl 34 rfl ?_
    refine x_iload dX11_feed_34 rfl 36 rfl ?_
    refine kX11_putNumber dX11_feed_36 39 rfl hk_l0 kw3_173 (Nat.le_of_ble_eq_true rfl) (Nat.le_of_ble_eq_true rfl) h (fun M5 h => ?_)
    refine x_aload_n dX11_feed_39 rfl 40 rfl ?_
    refine gf11_7 dX11_feed_40 43 rfl hk_l0 kw2_155 ?_
    exact x_iret dX11_feed_43 h
  · have h := h.2 hc
    refine x_iconst dX11_feed_10 kc_m1 11 rfl ?_
    exact x_iret dX11_feed_11 h
theorem cX11_feed_ {Q : Int32 → Mem → Prop} {l0 : Nat} {l1 : Int32} {l2 : Int32} {l3 : Int32} {l4 : Int32} {l5 : Int32} {M : Mem} (hk_l0 : SHk l0 = 11) (h : FX11_feed Q l0 l1 l2 l3 l4 l5 M) : xM yX11_feed cX11_feed 6 (some .int) 2 [.ref l0, .int l1, .int l2, .int l3, .int l4, .int l5] M (xQi Q) := xM_of (by decide +kernel) (Nat.le_of_ble_eq_true rfl) (eX11_feed hk_l0 h)
theorem kX11_feed {own : String} {cc : ByteArray} {nL : Nat} {rt : Option FieldType} {d pc ix : Nat} {L : List (Nat × Value)} {st : List Value} {M : Mem} {Rt : xGt → Array Value → State → Outcome → State → Prop} {Q : Int32 → Mem → Prop} {l0 : Nat} {l1 : Int32} {l2 : Int32} {l3 : Int32} {l4 : Int32} {l5 : Int32} (hd : decode cc pc = .ok (.invokevirtual ix, 3)) (q : Nat) (hq : pc + 3 = q) (hk_l0 : SHk l0 = 11) (w1 : Cond.methodLink own ix yX11_feed ∈ xTs) (hr : 2 < d) (hst : (st.map fun v => v.category).sum ≤ 8) (h : FX11_feed Q l0 l1 l2 l3 l4 l5 M) (k : ∀ (r : Int32) (N : Mem), Q r N → xX own cc nL rt d q L (.int r :: st) N Rt) : xX own cc nL rt d pc L (.int l5 :: .int l4 :: .int l3 :: .int l2 :: .int l1 :: .ref l0 :: st) M Rt :=
  x_callV_i (n := 5) (As := [.int l1, .int l2, .int l3, .int l4, .int l5]) hd q hq hk_l0 (by decide) rfl rfl w1 kw3_170 kw3_171 kw1_1 kw3_172 (by decide +kernel) rfl hr (by decide) hst _ rfl (cX11_feed_ hk_l0 h) k
def FX11_end (Q : Bool → Mem → Prop) (l0 : Nat) (l1 : Int32) (M : Mem) : Prop :=
  ((l1 < 0 → Q false M) ∧ (¬ l1 < 0 → ((l1 ≤ (M l0 7) → ∀ M1 : Mem, M1 = xu M l0 7 l1 → Q true M1) ∧ (¬ l1 ≤ (M l0 7) → Q false M))))
theorem eX11_end {Q : Bool → Mem → Prop} {l0 : Nat} {l1 : Int32} {M : Mem} (hk_l0 : SHk l0 = 11) (h : FX11_end Q l0 l1 M) : xX RX11 cX11_end 2 (some .boolean) 1 0 [(0, .ref l0), (1, .int l1)] [] M (xQb Q) := by
  unfold FX11_end at h
  refine x_iload_n dX11_end_0 rfl 1 rfl ?_
  refine x_if_lt dX11_end_1 12 4 rfl rfl (fun hc => ?_) (fun hc => ?_)
  · have h := h.1 hc
    refine x_iconst dX11_end_12 kc_0 13 rfl ?_
    exact x_zret (z := false) dX11_end_13 h
  · have h := h.2 hc
    refine x_iload_n dX11_end_4 rfl 5 rfl ?_
    refine x_aload_n dX11_end_5 rfl 6 rfl ?_
    refine gf11_7 dX11_end_6 9 rfl hk_l0 kw2_155 ?_
    refine x_icmp_le dX11_end_9 14 12 rfl rfl (fun hc => ?_) (fun hc => ?_)
    · have h := h.1 hc
      refine x_aload_n dX11_end_14 rfl 15 rfl ?_
      refine x_iload_n dX11_end_15 rfl 16 rfl ?_
      refine pf11_7 dX11_end_16 19 rfl hk_l0 kw2_155 (x_mem (fun M1 hM1 => ?_))
      have h := h M1 hM1
      refine x_iconst dX11_end_19 kc_1 20 rfl ?_
      exact x_zret (z := true) dX11_end_20 h
    · have h := h.2 hc
      refine x_iconst dX11_end_12 kc_0 13 rfl ?_
      exact x_zret (z := false) dX11_end_13 h
theorem cX11_end_ {Q : Bool → Mem → Prop} {l0 : Nat} {l1 : Int32} {M : Mem} (hk_l0 : SHk l0 = 11) (h : FX11_end Q l0 l1 M) : xM yX11_end cX11_end 2 (some .boolean) 1 [.ref l0, .int l1] M (xQb Q) := xM_of (by decide +kernel) (Nat.le_of_ble_eq_true rfl) (eX11_end hk_l0 h)
theorem kX11_end {own : String} {cc : ByteArray} {nL : Nat} {rt : Option FieldType} {d pc ix : Nat} {L : List (Nat × Value)} {st : List Value} {M : Mem} {Rt : xGt → Array Value → State → Outcome → State → Prop} {Q : Bool → Mem → Prop} {l0 : Nat} {l1 : Int32} (hd : decode cc pc = .ok (.invokevirtual ix, 3)) (q : Nat) (hq : pc + 3 = q) (hk_l0 : SHk l0 = 11) (w1 : Cond.methodLink own ix yX11_end ∈ xTs) (hr : 1 < d) (hst : (st.map fun v => v.category).sum ≤ 8) (h : FX11_end Q l0 l1 M) (k : ∀ (r : Bool) (N : Mem), Q r N → xX own cc nL rt d q L (.int (bI r) :: st) N Rt) : xX own cc nL rt d pc L (.int l1 :: .ref l0 :: st) M Rt :=
  x_callV_b (n := 1) (As := [.int l1]) hd q hq hk_l0 (by decide) rfl rfl w1 kw3_178 kw3_179 kw1_1 kw3_180 (by decide +kernel) rfl hr (by decide) hst _ rfl (cX11_end_ hk_l0 h) k
def NX11_text_19 (Q : Int32 → Mem → Prop) (l0 : Nat) (M : Mem) : Prop :=
  FX5_forgetFault (fun (M1 : Mem) => Q (-1) M1) (l0 + 139) M
theorem nX11_text_19 {Q : Int32 → Mem → Prop} {l0 : Nat} {M : Mem} (hk_l0 : SHk l0 = 11) (h : NX11_text_19 Q l0 M) : xX RX11 cX11_text 4 (some .int) 27 19 [(0, .ref l0)] [] M (xQi Q) := by
  unfold NX11_text_19 at h
  refine x_aload_n dX11_text_19 rfl 20 rfl ?_
  refine gf11_4 dX11_text_20 23 rfl hk_l0 kw2_152 ?_
  refine kX5_forgetFault dX11_text_23 26 rfl (ly11_4 hk_l0).1 kw3_185 (Nat.le_of_ble_eq_true rfl) (Nat.le_of_ble_eq_true rfl) h (fun M1 h => ?_)
  refine x_iconst dX11_text_26 kc_m1 27 rfl ?_
  exact x_iret dX11_text_27 h
def NX11_text_66 (Q : Int32 → Mem → Prop) (l0 : Nat) (l1 : Int32) (l3 : Int32) (M : Mem) : Prop :=
  ((l3 = (-1) → Q l3 M) ∧ (¬ l3 = (-1) → ((¬ l1 = 2 → Q l3 M) ∧ (l1 = 2 → FX3_forget (fun (M2 : Mem) => Q l3 M2) (l0 + 77) M))))
theorem nX11_text_66 {Q : Int32 → Mem → Prop} {l0 : Nat} {l1 : Int32} {l3 : Int32} {M : Mem} (hk_l0 : SHk l0 = 11) (h : NX11_text_66 Q l0 l1 l3 M) : xX RX11 cX11_text 4 (some .int) 27 66 [(0, .ref l0), (1, .int l1), (3, .int l3)] [] M (xQi Q) := by
  unfold NX11_text_66 at h
  refine x_iload_n dX11_text_66 rfl 67 rfl ?_
  refine x_iconst dX11_text_67 kc_m1 68 rfl ?_
  refine x_icmp_eq dX11_text_68 83 71 rfl rfl (fun hc => ?_) (fun hc => ?_)
  · have h := h.1 hc
    refine x_iload_n dX11_text_83 rfl 84 rfl ?_
    exact x_iret dX11_text_84 h
  · have h := h.2 hc
    refine x_iload_n dX11_text_71 rfl 72 rfl ?_
    refine x_iconst dX11_text_72 kc_2 73 rfl ?_
    refine x_icmp_ne dX11_text_73 83 76 rfl rfl (fun hc => ?_) (fun hc => ?_)
    · have h := h.1 hc
      refine x_iload_n dX11_text_83 rfl 84 rfl ?_
      exact x_iret dX11_text_84 h
    · have h := h.2 hc
      refine x_aload_n dX11_text_76 rfl 77 rfl ?_
      refine gf11_3 dX11_text_77 80 rfl hk_l0 kw2_151 ?_
      refine kX3_forget dX11_text_80 83 rfl (ly11_3 hk_l0).1 kw2_181 (Nat.le_of_ble_eq_true rfl) (Nat.le_of_ble_eq_true rfl) h (fun M2 h => ?_)
      refine x_iload_n dX11_text_83 rfl 84 rfl ?_
      exact x_iret dX11_text_84 h
def FX11_text (Q : Int32 → Mem → Prop) (l0 : Nat) (l1 : Int32) (M : Mem) : Prop :=
  ∀ M3 : Mem, M3 = xu M l0 7 0 → ((l1 < 0 → NX11_text_19 Q l0 M3) ∧ (¬ l1 < 0 → ((l1 ≤ 3 → FX5_read (fun (r5 : Int32) (M4 : Mem) => ((r5 = (-1) → NX11_text_66 Q l0 l1 r5 M4) ∧ (¬ r5 = (-1) → FX0_takeText (fun (M6 : Mem) => NX11_text_66 Q l0 l1 r5 M6) (l0 + 1) l1 (l0 + 139) M4))) (l0 + 139) l1 (l0 + 165) (M l0 7) ((l0 + 1) + 1) M3) ∧ (¬ l1 ≤ 3 → NX11_text_19 Q l0 M3))))
theorem eX11_text {Q : Int32 → Mem → Prop} {l0 : Nat} {l1 : Int32} {M : Mem} (hk_l0 : SHk l0 = 11) (h : FX11_text Q l0 l1 M) : xX RX11 cX11_text 4 (some .int) 27 0 [(0, .ref l0), (1, .int l1)] [] M (xQi Q) := by
  unfold FX11_text at h
  refine x_aload_n dX11_text_0 rfl 1 rfl ?_
  refine gf11_7 dX11_text_1 4 rfl hk_l0 kw2_155 ?_
  refine x_istore_n dX11_text_4 (Nat.le_of_ble_eq_true rfl) [(0, .ref l0), (1, .int l1), (2, .int (M l0 7))] rfl 5 rfl ?_
  refine x_aload_n dX11_text_5 rfl 6 rfl ?_
  refine x_iconst dX11_text_6 kc_0 7 rfl ?_
  refine pf11_7 dX11_text_7 10 rfl hk_l0 kw2_155 (x_mem (fun M3 hM3 => ?_))
  have h := h M3 hM3
  refine x_iload_n dX11_text_10 rfl 11 rfl ?_
  refine x_if_lt dX11_text_11 19 14 rfl rfl (fun hc => ?_) (fun hc => ?_)
  · have h := h.1 hc
    refine x_weak [(0, .ref l0)] [0] rfl ?_
    exact nX11_text_19 hk_l0 h
  · have h := h.2 hc
    refine x_iload_n dX11_text_14 rfl 15 rfl ?_
    refine x_iconst dX11_text_15 kc_3 16 rfl ?_
    refine x_icmp_le dX11_text_16 28 19 rfl rfl (fun hc => ?_) (fun hc => ?_)
    · have h := h.1 hc
      refine x_aload_n dX11_text_28 rfl 29 rfl ?_
      refine gf11_4 dX11_text_29 32 rfl hk_l0 kw2_152 ?_
      refine x_iload_n dX11_text_32 rfl 33 rfl ?_
      refine x_aload_n dX11_text_33 rfl 34 rfl ?_
      refine gf11_6 dX11_text_34 37 rfl hk_l0 kw2_154 ?_
      refine x_iload_n dX11_text_37 rfl 38 rfl ?_
      refine x_aload_n dX11_text_38 rfl 39 rfl ?_
      refine gf11_0 dX11_text_39 42 rfl hk_l0 kw2_148 ?_
      refine gf0_0 dX11_text_42 45 rfl (ly11_0 hk_l0).1 kw2_10 ?_
      refine kX5_read dX11_text_45 48 rfl (ly11_4 hk_l0).1 (ly11_6 hk_l0).1 (ly0_0 (ly11_0 hk_l0).1).1 kw3_189 (Nat.le_of_ble_eq_true rfl) (Nat.le_of_ble_eq_true rfl) h (fun r5 M4 h => ?_)
      refine x_istore_n dX11_text_48 (Nat.le_of_ble_eq_true rfl) [(0, .ref l0), (1, .int l1), (2, .int (M l0 7)), (3, .int r5)] rfl 49 rfl ?_
      refine x_iload_n dX11_text_49 rfl 50 rfl ?_
      refine x_iconst dX11_text_50 kc_m1 51 rfl ?_
      refine x_icmp_eq dX11_text_51 66 54 rfl rfl (fun hc => ?_) (fun hc => ?_)
      · have h := h.1 hc
        refine x_weak [(0, .ref l0), (1, .int l1), (3, .int r5)] [0, 1, 3] rfl ?_
        exact nX11_text_66 hk_l0 h
      · have h := h.2 hc
        refine x_aload_n dX11_text_54 rfl 55 rfl ?_
        refine gf11_0 dX11_text_55 58 rfl hk_l0 kw2_148 ?_
        refine x_iload_n dX11_text_58 rfl 59 rfl ?_
        refine x_aload_n dX11_text_59 rfl 60 rfl ?_
        refine gf11_4 dX11_text_60 63 rfl hk_l0 kw2_152 ?_
        refine kX0_takeText dX11_text_63 66 rfl (ly11_0 hk_l0).1 (ly11_4 hk_l0).1 kw4_128 (Nat.le_of_ble_eq_true rfl) (Nat.le_of_ble_eq_true rfl) h (fun M6 h => ?_)
        refine x_weak [(0, .ref l0), (1, .int l1), (3, .int r5)] [0, 1, 3] rfl ?_
        exact nX11_text_66 hk_l0 h
    · have h := h.2 hc
      refine x_weak [(0, .ref l0)] [0] rfl ?_
      exact nX11_text_19 hk_l0 h
theorem cX11_text_ {Q : Int32 → Mem → Prop} {l0 : Nat} {l1 : Int32} {M : Mem} (hk_l0 : SHk l0 = 11) (h : FX11_text Q l0 l1 M) : xM yX11_text cX11_text 4 (some .int) 27 [.ref l0, .int l1] M (xQi Q) := xM_of (by decide +kernel) (Nat.le_of_ble_eq_true rfl) (eX11_text hk_l0 h)
theorem kX11_text {own : String} {cc : ByteArray} {nL : Nat} {rt : Option FieldType} {d pc ix : Nat} {L : List (Nat × Value)} {st : List Value} {M : Mem} {Rt : xGt → Array Value → State → Outcome → State → Prop} {Q : Int32 → Mem → Prop} {l0 : Nat} {l1 : Int32} (hd : decode cc pc = .ok (.invokevirtual ix, 3)) (q : Nat) (hq : pc + 3 = q) (hk_l0 : SHk l0 = 11) (w1 : Cond.methodLink own ix yX11_text ∈ xTs) (hr : 27 < d) (hst : (st.map fun v => v.category).sum ≤ 8) (h : FX11_text Q l0 l1 M) (k : ∀ (r : Int32) (N : Mem), Q r N → xX own cc nL rt d q L (.int r :: st) N Rt) : xX own cc nL rt d pc L (.int l1 :: .ref l0 :: st) M Rt :=
  x_callV_i (n := 1) (As := [.int l1]) hd q hq hk_l0 (by decide) rfl rfl w1 kw3_182 kw3_183 kw1_1 kw3_184 (by decide +kernel) rfl hr (by decide) hst _ rfl (cX11_text_ hk_l0 h) k
def FX11_fault (Q : Int32 → Prop) (l0 : Nat) (l1 : Int32) (M : Mem) : Prop :=
  ((¬ l1 = 0 → ((¬ l1 = 1 → Q (-1)) ∧ (l1 = 1 → Q (M (l0 + 139) 11)))) ∧ (l1 = 0 → Q (M (l0 + 139) 10)))
theorem eX11_fault {Q : Int32 → Prop} {l0 : Nat} {l1 : Int32} {M : Mem} (hk_l0 : SHk l0 = 11) (h : FX11_fault Q l0 l1 M) : xX RX11 cX11_fault 2 (some .int) 1 0 [(0, .ref l0), (1, .int l1)] [] M (xQi (xP M Q)) := by
  unfold FX11_fault at h
  refine x_iload_n dX11_fault_0 rfl 1 rfl ?_
  refine x_if_ne dX11_fault_1 12 4 rfl rfl (fun hc => ?_) (fun hc => ?_)
  · have h := h.1 hc
    refine x_iload_n dX11_fault_12 rfl 13 rfl ?_
    refine x_iconst dX11_fault_13 kc_1 14 rfl ?_
    refine x_icmp_ne dX11_fault_14 27 17 rfl rfl (fun hc => ?_) (fun hc => ?_)
    · have h := h.1 hc
      refine x_iconst dX11_fault_27 kc_m1 28 rfl ?_
      exact x_iret dX11_fault_28 ⟨rfl, h⟩
    · have h := h.2 hc
      refine x_aload_n dX11_fault_17 rfl 18 rfl ?_
      refine gf11_4 dX11_fault_18 21 rfl hk_l0 kw2_152 ?_
      refine gf5_11 dX11_fault_21 24 rfl (ly11_4 hk_l0).1 kw2_107 ?_
      refine x_goto dX11_fault_24 28 rfl ?_
      exact x_iret dX11_fault_28 ⟨rfl, h⟩
  · have h := h.2 hc
    refine x_aload_n dX11_fault_4 rfl 5 rfl ?_
    refine gf11_4 dX11_fault_5 8 rfl hk_l0 kw2_152 ?_
    refine gf5_10 dX11_fault_8 11 rfl (ly11_4 hk_l0).1 kw2_105 ?_
    exact x_iret dX11_fault_11 ⟨rfl, h⟩
theorem cX11_fault_ {Q : Int32 → Prop} {l0 : Nat} {l1 : Int32} {M : Mem} (hk_l0 : SHk l0 = 11) (h : FX11_fault Q l0 l1 M) : xM yX11_fault cX11_fault 2 (some .int) 1 [.ref l0, .int l1] M (xQi (xP M Q)) := xM_of (by decide +kernel) (Nat.le_of_ble_eq_true rfl) (eX11_fault hk_l0 h)
theorem kX11_fault {own : String} {cc : ByteArray} {nL : Nat} {rt : Option FieldType} {d pc ix : Nat} {L : List (Nat × Value)} {st : List Value} {M : Mem} {Rt : xGt → Array Value → State → Outcome → State → Prop} {Q : Int32 → Prop} {l0 : Nat} {l1 : Int32} (hd : decode cc pc = .ok (.invokevirtual ix, 3)) (q : Nat) (hq : pc + 3 = q) (hk_l0 : SHk l0 = 11) (w1 : Cond.methodLink own ix yX11_fault ∈ xTs) (hr : 1 < d) (hst : (st.map fun v => v.category).sum ≤ 8) (h : FX11_fault Q l0 l1 M) (k : ∀ (r : Int32), Q r → xX own cc nL rt d q L (.int r :: st) M Rt) : xX own cc nL rt d pc L (.int l1 :: .ref l0 :: st) M Rt :=
  x_callV_i (n := 1) (As := [.int l1]) hd q hq hk_l0 (by decide) rfl rfl w1 kw4_153 kw4_154 kw1_1 kw4_155 (by decide +kernel) rfl hr (by decide) hst _ rfl (cX11_fault_ hk_l0 h) (fun r N hN => by obtain ⟨rfl, hN⟩ := hN; exact k r hN)
def NX11_of_48 (Q : Int32 → Mem → Prop) (l1 : Int32) (l2 : Int32) (l3 : Nat) (M : Mem) : Prop :=
  FX9_ofSaint (fun (r1 : Int32) => Q r1 M) l3 l1 l2 M
theorem nX11_of_48 {Q : Int32 → Mem → Prop} {l1 : Int32} {l2 : Int32} {l3 : Nat} {M : Mem} (hk_l3 : SHk l3 = 9) (h : NX11_of_48 Q l1 l2 l3 M) : xX RX11 cX11_of 4 (some .int) 5 48 [(1, .int l1), (2, .int l2), (3, .ref l3)] [] M (xQi Q) := by
  unfold NX11_of_48 at h
  refine x_aload_n dX11_of_48 rfl 49 rfl ?_
  refine x_iload_n dX11_of_49 rfl 50 rfl ?_
  refine x_iload_n dX11_of_50 rfl 51 rfl ?_
  refine kX9_ofSaint dX11_of_51 54 rfl hk_l3 kw4_162 (Nat.le_of_ble_eq_true rfl) (Nat.le_of_ble_eq_true rfl) h (fun r1 h => ?_)
  exact x_iret dX11_of_54 h
def FX11_of (Q : Int32 → Mem → Prop) (l0 : Nat) (l1 : Int32) (l2 : Int32) (M : Mem) : Prop :=
  FX9_isSaint (fun (r2 : Bool) => ((r2 = true → ((l2 < 7 → NX11_of_48 Q l1 l2 ((l0 + 1) + 1) M) ∧ (¬ l2 < 7 → ((9 < l2 → NX11_of_48 Q l1 l2 ((l0 + 1) + 1) M) ∧ (¬ 9 < l2 → FX2_tells (fun (r4 : Int32) (M3 : Mem) => Q r4 M3) ((l0 + 1) + 11) (l2 - 7) ((l0 + 1) + 1) l1 M))))) ∧ (r2 = false → Q (-100) M))) ((l0 + 1) + 1) l1 M
theorem eX11_of {Q : Int32 → Mem → Prop} {l0 : Nat} {l1 : Int32} {l2 : Int32} {M : Mem} (hk_l0 : SHk l0 = 11) (h : FX11_of Q l0 l1 l2 M) : xX RX11 cX11_of 4 (some .int) 5 0 [(0, .ref l0), (1, .int l1), (2, .int l2)] [] M (xQi Q) := by
  unfold FX11_of at h
  refine x_aload_n dX11_of_0 rfl 1 rfl ?_
  refine gf11_0 dX11_of_1 4 rfl hk_l0 kw2_148 ?_
  refine gf0_0 dX11_of_4 7 rfl (ly11_0 hk_l0).1 kw2_10 ?_
  refine x_astore_n dX11_of_7 (Nat.le_of_ble_eq_true rfl) [(0, .ref l0), (1, .int l1), (2, .int l2), (3, .ref ((l0 + 1) + 1))] rfl 8 rfl ?_
  refine x_aload_n dX11_of_8 rfl 9 rfl ?_
  refine x_iload_n dX11_of_9 rfl 10 rfl ?_
  refine kX9_isSaint dX11_of_10 13 rfl (ly0_0 (ly11_0 hk_l0).1).1 kw4_160 (Nat.le_of_ble_eq_true rfl) (Nat.le_of_ble_eq_true rfl) h (fun r2 h => ?_)
  refine x_if_ne_b dX11_of_13 19 16 rfl rfl (fun hc => ?_) (fun hc => ?_)
  · have h := h.1 hc
    refine x_iload_n dX11_of_19 rfl 20 rfl ?_
    refine x_bipush dX11_of_20 kb_7 22 rfl ?_
    refine x_icmp_lt dX11_of_22 48 25 rfl rfl (fun hc => ?_) (fun hc => ?_)
    · have h := h.1 hc
      refine x_weak [(1, .int l1), (2, .int l2), (3, .ref ((l0 + 1) + 1))] [1, 2, 3] rfl ?_
      exact nX11_of_48 (ly0_0 (ly11_0 hk_l0).1).1 h
    · have h := h.2 hc
      refine x_iload_n dX11_of_25 rfl 26 rfl ?_
      refine x_bipush dX11_of_26 kb_9 28 rfl ?_
      refine x_icmp_gt dX11_of_28 48 31 rfl rfl (fun hc => ?_) (fun hc => ?_)
      · have h := h.1 hc
        refine x_weak [(1, .int l1), (2, .int l2), (3, .ref ((l0 + 1) + 1))] [1, 2, 3] rfl ?_
        exact nX11_of_48 (ly0_0 (ly11_0 hk_l0).1).1 h
      · have h := h.2 hc
        refine x_aload_n dX11_of_31 rfl 32 rfl ?_
        refine gf11_0 dX11_of_32 35 rfl hk_l0 kw2_148 ?_
        refine gf0_1 dX11_of_35 38 rfl (ly11_0 hk_l0).1 kw2_12 ?_
        refine x_iload_n dX11_of_38 rfl 39 rfl ?_
        refine x_bipush dX11_of_39 kb_7 41 rfl ?_
        refine x_isub dX11_of_41 42 rfl ?_
        refine x_aload_n dX11_of_42 rfl 43 rfl ?_
        refine x_iload_n dX11_of_43 rfl 44 rfl ?_
        refine kX2_tells dX11_of_44 47 rfl (ly0_1 (ly11_0 hk_l0).1).1 (ly0_0 (ly11_0 hk_l0).1).1 kw4_161 (Nat.le_of_ble_eq_true rfl) (Nat.le_of_ble_eq_true rfl) h (fun r4 M3 h => ?_)
        exact x_iret dX11_of_47 h
  · have h := h.2 hc
    refine x_bipush dX11_of_16 kb_m100 18 rfl ?_
    exact x_iret dX11_of_18 h
theorem cX11_of_ {Q : Int32 → Mem → Prop} {l0 : Nat} {l1 : Int32} {l2 : Int32} {M : Mem} (hk_l0 : SHk l0 = 11) (h : FX11_of Q l0 l1 l2 M) : xM yX11_of cX11_of 4 (some .int) 5 [.ref l0, .int l1, .int l2] M (xQi Q) := xM_of (by decide +kernel) (Nat.le_of_ble_eq_true rfl) (eX11_of hk_l0 h)
theorem kX11_of {own : String} {cc : ByteArray} {nL : Nat} {rt : Option FieldType} {d pc ix : Nat} {L : List (Nat × Value)} {st : List Value} {M : Mem} {Rt : xGt → Array Value → State → Outcome → State → Prop} {Q : Int32 → Mem → Prop} {l0 : Nat} {l1 : Int32} {l2 : Int32} (hd : decode cc pc = .ok (.invokevirtual ix, 3)) (q : Nat) (hq : pc + 3 = q) (hk_l0 : SHk l0 = 11) (w1 : Cond.methodLink own ix yX11_of ∈ xTs) (hr : 5 < d) (hst : (st.map fun v => v.category).sum ≤ 8) (h : FX11_of Q l0 l1 l2 M) (k : ∀ (r : Int32) (N : Mem), Q r N → xX own cc nL rt d q L (.int r :: st) N Rt) : xX own cc nL rt d pc L (.int l2 :: .int l1 :: .ref l0 :: st) M Rt :=
  x_callV_i (n := 2) (As := [.int l1, .int l2]) hd q hq hk_l0 (by decide) rfl rfl w1 kw4_157 kw4_158 kw1_1 kw4_159 (by decide +kernel) rfl hr (by decide) hst _ rfl (cX11_of_ hk_l0 h) k
def FX11_at (Q : Int32 → Prop) (l0 : Nat) (l1 : Int32) (l2 : Int32) (M : Mem) : Prop :=
  FX9_isPillar (fun (r1 : Bool) => ((r1 = true → ((l2 = 0 → vp_in l1 10 ∧ Q (M (((l0 + 1) + 1) + 1) (ix l1))) ∧ (l2 = 1 → vp_in l1 10 ∧ Q (M (((l0 + 1) + 1) + 2) (ix l1))) ∧ (l2 = 2 → vp_in l1 10 ∧ Q (M (((l0 + 1) + 1) + 3) (ix l1))) ∧ (¬ l2 = 0 → ¬ l2 = 1 → ¬ l2 = 2 → Q (-200)))) ∧ (r1 = false → Q (-200)))) ((l0 + 1) + 1) l1 M
theorem eX11_at {Q : Int32 → Prop} {l0 : Nat} {l1 : Int32} {l2 : Int32} {M : Mem} (hk_l0 : SHk l0 = 11) (h : FX11_at Q l0 l1 l2 M) : xX RX11 cX11_at 4 (some .int) 2 0 [(0, .ref l0), (1, .int l1), (2, .int l2)] [] M (xQi (xP M Q)) := by
  unfold FX11_at at h
  refine x_aload_n dX11_at_0 rfl 1 rfl ?_
  refine gf11_0 dX11_at_1 4 rfl hk_l0 kw2_148 ?_
  refine gf0_0 dX11_at_4 7 rfl (ly11_0 hk_l0).1 kw2_10 ?_
  refine x_astore_n dX11_at_7 (Nat.le_of_ble_eq_true rfl) [(0, .ref l0), (1, .int l1), (2, .int l2), (3, .ref ((l0 + 1) + 1))] rfl 8 rfl ?_
  refine x_aload_n dX11_at_8 rfl 9 rfl ?_
  refine x_iload_n dX11_at_9 rfl 10 rfl ?_
  refine kX9_isPillar dX11_at_10 13 rfl (ly0_0 (ly11_0 hk_l0).1).1 kw4_170 (Nat.le_of_ble_eq_true rfl) (Nat.le_of_ble_eq_true rfl) h (fun r1 h => ?_)
  refine x_if_ne_b dX11_at_13 20 16 rfl rfl (fun hc => ?_) (fun hc => ?_)
  · have h := h.1 hc
    refine x_iload_n dX11_at_20 rfl 21 rfl ?_
    by_cases hc0 : l2 = 0
    · refine x_tab_at dX11_at_21 hc0 (by decide) (by decide) rfl (tg := 48) rfl ?_
      have h := h.1 hc0
      refine x_aload_n dX11_at_48 rfl 49 rfl ?_
      refine gf9_1 dX11_at_49 52 rfl (ly0_0 (ly11_0 hk_l0).1).1 kw1_48 ?_
      refine x_iload_n dX11_at_52 rfl 53 rfl ?_
      obtain ⟨hin, h⟩ := h
      refine x_iaload dX11_at_53 (ly9_1 (ly0_0 (ly11_0 hk_l0).1).1) hin 54 rfl ?_
      exact x_iret dX11_at_54 ⟨rfl, h⟩
    by_cases hc1 : l2 = 1
    · refine x_tab_at dX11_at_21 hc1 (by decide) (by decide) rfl (tg := 55) rfl ?_
      have h := h.2.1 hc1
      refine x_aload_n dX11_at_55 rfl 56 rfl ?_
      refine gf9_2 dX11_at_56 59 rfl (ly0_0 (ly11_0 hk_l0).1).1 kw1_51 ?_
      refine x_iload_n dX11_at_59 rfl 60 rfl ?_
      obtain ⟨hin, h⟩ := h
      refine x_iaload dX11_at_60 (ly9_2 (ly0_0 (ly11_0 hk_l0).1).1) hin 61 rfl ?_
      exact x_iret dX11_at_61 ⟨rfl, h⟩
    by_cases hc2 : l2 = 2
    · refine x_tab_at dX11_at_21 hc2 (by decide) (by decide) rfl (tg := 62) rfl ?_
      have h := h.2.2.1 hc2
      refine x_aload_n dX11_at_62 rfl 63 rfl ?_
      refine gf9_3 dX11_at_63 66 rfl (ly0_0 (ly11_0 hk_l0).1).1 kw1_54 ?_
      refine x_iload_n dX11_at_66 rfl 67 rfl ?_
      obtain ⟨hin, h⟩ := h
      refine x_iaload dX11_at_67 (ly9_3 (ly0_0 (ly11_0 hk_l0).1).1) hin 68 rfl ?_
      exact x_iret dX11_at_68 ⟨rfl, h⟩
    have h := h.2.2.2 hc0 hc1 hc2
    refine x_tab_out dX11_at_21 (by have a0 := lv_neT hc0 (a := 0) (by decide); have a1 := lv_neT hc1 (a := 1) (by decide); have a2 := lv_neT hc2 (a := 2) (by decide); show (l2 : Int32).toInt < 0 ∨ 2 < (l2 : Int32).toInt; omega) (tg := 69) rfl ?_
    refine x_sipush dX11_at_69 kh_m200 72 rfl ?_
    exact x_iret dX11_at_72 ⟨rfl, h⟩
  · have h := h.2 hc
    refine x_sipush dX11_at_16 kh_m200 19 rfl ?_
    exact x_iret dX11_at_19 ⟨rfl, h⟩
theorem cX11_at_ {Q : Int32 → Prop} {l0 : Nat} {l1 : Int32} {l2 : Int32} {M : Mem} (hk_l0 : SHk l0 = 11) (h : FX11_at Q l0 l1 l2 M) : xM yX11_at cX11_at 4 (some .int) 2 [.ref l0, .int l1, .int l2] M (xQi (xP M Q)) := xM_of (by decide +kernel) (Nat.le_of_ble_eq_true rfl) (eX11_at hk_l0 h)
theorem kX11_at {own : String} {cc : ByteArray} {nL : Nat} {rt : Option FieldType} {d pc ix : Nat} {L : List (Nat × Value)} {st : List Value} {M : Mem} {Rt : xGt → Array Value → State → Outcome → State → Prop} {Q : Int32 → Prop} {l0 : Nat} {l1 : Int32} {l2 : Int32} (hd : decode cc pc = .ok (.invokevirtual ix, 3)) (q : Nat) (hq : pc + 3 = q) (hk_l0 : SHk l0 = 11) (w1 : Cond.methodLink own ix yX11_at ∈ xTs) (hr : 2 < d) (hst : (st.map fun v => v.category).sum ≤ 8) (h : FX11_at Q l0 l1 l2 M) (k : ∀ (r : Int32), Q r → xX own cc nL rt d q L (.int r :: st) M Rt) : xX own cc nL rt d pc L (.int l2 :: .int l1 :: .ref l0 :: st) M Rt :=
  x_callV_i (n := 2) (As := [.int l1, .int l2]) hd q hq hk_l0 (by decide) rfl rfl w1 kw4_167 kw4_168 kw1_1 kw4_169 (by decide +kernel) rfl hr (by decide) hst _ rfl (cX11_at_ hk_l0 h) (fun r N hN => by obtain ⟨rfl, hN⟩ := hN; exact k r hN)
def FX11_sky (Q : Int32 → Prop) (l0 : Nat) (l1 : Int32) (M : Mem) : Prop :=
  FX6_weatherOn (fun (r1 : Int32) => Q r1) ((l0 + 1) + 18) l1 M
theorem eX11_sky {Q : Int32 → Prop} {l0 : Nat} {l1 : Int32} {M : Mem} (hk_l0 : SHk l0 = 11) (h : FX11_sky Q l0 l1 M) : xX RX11 cX11_sky 2 (some .int) 2 0 [(0, .ref l0), (1, .int l1)] [] M (xQi (xP M Q)) := by
  unfold FX11_sky at h
  refine x_aload_n dX11_sky_0 rfl 1 rfl ?_
  refine gf11_0 dX11_sky_1 4 rfl hk_l0 kw2_148 ?_
  refine gf0_2 dX11_sky_4 7 rfl (ly11_0 hk_l0).1 kw2_14 ?_
  refine x_iload_n dX11_sky_7 rfl 8 rfl ?_
  refine kX6_weatherOn dX11_sky_8 11 rfl (ly0_2 (ly11_0 hk_l0).1).1 kw4_175 (Nat.le_of_ble_eq_true rfl) (Nat.le_of_ble_eq_true rfl) h (fun r1 h => ?_)
  exact x_iret dX11_sky_11 ⟨rfl, h⟩
theorem cX11_sky_ {Q : Int32 → Prop} {l0 : Nat} {l1 : Int32} {M : Mem} (hk_l0 : SHk l0 = 11) (h : FX11_sky Q l0 l1 M) : xM yX11_sky cX11_sky 2 (some .int) 2 [.ref l0, .int l1] M (xQi (xP M Q)) := xM_of (by decide +kernel) (Nat.le_of_ble_eq_true rfl) (eX11_sky hk_l0 h)
theorem kX11_sky {own : String} {cc : ByteArray} {nL : Nat} {rt : Option FieldType} {d pc ix : Nat} {L : List (Nat × Value)} {st : List Value} {M : Mem} {Rt : xGt → Array Value → State → Outcome → State → Prop} {Q : Int32 → Prop} {l0 : Nat} {l1 : Int32} (hd : decode cc pc = .ok (.invokevirtual ix, 3)) (q : Nat) (hq : pc + 3 = q) (hk_l0 : SHk l0 = 11) (w1 : Cond.methodLink own ix yX11_sky ∈ xTs) (hr : 2 < d) (hst : (st.map fun v => v.category).sum ≤ 8) (h : FX11_sky Q l0 l1 M) (k : ∀ (r : Int32), Q r → xX own cc nL rt d q L (.int r :: st) M Rt) : xX own cc nL rt d pc L (.int l1 :: .ref l0 :: st) M Rt :=
  x_callV_i (n := 1) (As := [.int l1]) hd q hq hk_l0 (by decide) rfl rfl w1 kw4_172 kw4_173 kw1_1 kw4_174 (by decide +kernel) rfl hr (by decide) hst _ rfl (cX11_sky_ hk_l0 h) (fun r N hN => by obtain ⟨rfl, hN⟩ := hN; exact k r hN)
def FX11_book (Q : Int32 → Prop) (l0 : Nat) (l1 : Int32) (l2 : Int32) (M : Mem) : Prop :=
  ((l1 < 0 → Q (-100)) ∧ (¬ l1 < 0 → (((M ((l0 + 1) + 1) 18) ≤ l1 → Q (-100)) ∧ (¬ (M ((l0 + 1) + 1) 18) ≤ l1 → ((l2 < 0 → Q (-100)) ∧ (¬ l2 < 0 → ((l2 ≤ 3 → FX9_cell (fun (r1 : Int32) => Q r1) ((l0 + 1) + 1) l1 l2 M) ∧ (¬ l2 ≤ 3 → Q (-100)))))))))
theorem eX11_book {Q : Int32 → Prop} {l0 : Nat} {l1 : Int32} {l2 : Int32} {M : Mem} (hk_l0 : SHk l0 = 11) (h : FX11_book Q l0 l1 l2 M) : xX RX11 cX11_book 3 (some .int) 2 0 [(0, .ref l0), (1, .int l1), (2, .int l2)] [] M (xQi (xP M Q)) := by
  unfold FX11_book at h
  refine x_iload_n dX11_book_0 rfl 1 rfl ?_
  refine x_if_lt dX11_book_1 27 4 rfl rfl (fun hc => ?_) (fun hc => ?_)
  · have h := h.1 hc
    refine x_bipush dX11_book_27 kb_m100 29 rfl ?_
    exact x_iret dX11_book_29 ⟨rfl, h⟩
  · have h := h.2 hc
    refine x_iload_n dX11_book_4 rfl 5 rfl ?_
    refine x_aload_n dX11_book_5 rfl 6 rfl ?_
    refine gf11_0 dX11_book_6 9 rfl hk_l0 kw2_148 ?_
    refine gf0_0 dX11_book_9 12 rfl (ly11_0 hk_l0).1 kw2_10 ?_
    refine gf9_18 dX11_book_12 15 rfl (ly0_0 (ly11_0 hk_l0).1).1 kw1_96 ?_
    refine x_icmp_ge dX11_book_15 27 18 rfl rfl (fun hc => ?_) (fun hc => ?_)
    · have h := h.1 hc
      refine x_bipush dX11_book_27 kb_m100 29 rfl ?_
      exact x_iret dX11_book_29 ⟨rfl, h⟩
    · have h := h.2 hc
      refine x_iload_n dX11_book_18 rfl 19 rfl ?_
      refine x_if_lt dX11_book_19 27 22 rfl rfl (fun hc => ?_) (fun hc => ?_)
      · have h := h.1 hc
        refine x_bipush dX11_book_27 kb_m100 29 rfl ?_
        exact x_iret dX11_book_29 ⟨rfl, h⟩
      · have h := h.2 hc
        refine x_iload_n dX11_book_22 rfl 23 rfl ?_
        refine x_iconst dX11_book_23 kc_3 24 rfl ?_
        refine x_icmp_le dX11_book_24 30 27 rfl rfl (fun hc => ?_) (fun hc => ?_)
        · have h := h.1 hc
          refine x_aload_n dX11_book_30 rfl 31 rfl ?_
          refine gf11_0 dX11_book_31 34 rfl hk_l0 kw2_148 ?_
          refine gf0_0 dX11_book_34 37 rfl (ly11_0 hk_l0).1 kw2_10 ?_
          refine x_iload_n dX11_book_37 rfl 38 rfl ?_
          refine x_iload_n dX11_book_38 rfl 39 rfl ?_
          refine kX9_cell dX11_book_39 42 rfl (ly0_0 (ly11_0 hk_l0).1).1 kw4_180 (Nat.le_of_ble_eq_true rfl) (Nat.le_of_ble_eq_true rfl) h (fun r1 h => ?_)
          exact x_iret dX11_book_42 ⟨rfl, h⟩
        · have h := h.2 hc
          refine x_bipush dX11_book_27 kb_m100 29 rfl ?_
          exact x_iret dX11_book_29 ⟨rfl, h⟩
theorem cX11_book_ {Q : Int32 → Prop} {l0 : Nat} {l1 : Int32} {l2 : Int32} {M : Mem} (hk_l0 : SHk l0 = 11) (h : FX11_book Q l0 l1 l2 M) : xM yX11_book cX11_book 3 (some .int) 2 [.ref l0, .int l1, .int l2] M (xQi (xP M Q)) := xM_of (by decide +kernel) (Nat.le_of_ble_eq_true rfl) (eX11_book hk_l0 h)
theorem kX11_book {own : String} {cc : ByteArray} {nL : Nat} {rt : Option FieldType} {d pc ix : Nat} {L : List (Nat × Value)} {st : List Value} {M : Mem} {Rt : xGt → Array Value → State → Outcome → State → Prop} {Q : Int32 → Prop} {l0 : Nat} {l1 : Int32} {l2 : Int32} (hd : decode cc pc = .ok (.invokevirtual ix, 3)) (q : Nat) (hq : pc + 3 = q) (hk_l0 : SHk l0 = 11) (w1 : Cond.methodLink own ix yX11_book ∈ xTs) (hr : 2 < d) (hst : (st.map fun v => v.category).sum ≤ 8) (h : FX11_book Q l0 l1 l2 M) (k : ∀ (r : Int32), Q r → xX own cc nL rt d q L (.int r :: st) M Rt) : xX own cc nL rt d pc L (.int l2 :: .int l1 :: .ref l0 :: st) M Rt :=
  x_callV_i (n := 2) (As := [.int l1, .int l2]) hd q hq hk_l0 (by decide) rfl rfl w1 kw4_177 kw4_178 kw1_1 kw4_179 (by decide +kernel) rfl hr (by decide) hst _ rfl (cX11_book_ hk_l0 h) (fun r N hN => by obtain ⟨rfl, hN⟩ := hN; exact k r hN)
def lbX11_goes_39 (Q : Int32 → Mem → Prop) (l0 : Nat) (l1 : Int32) (l2 : Int32) (B39 : Int32 → Mem → Prop) (l3 : Int32) (M : Mem) : Prop :=
  ((l1 ≤ l3 → ((l2 = 0 → FJ6_bitCount_0f7a4 (fun (r1 : Int32) => Q r1 M) (M (l0 + 67) 12) M) ∧ (l2 = 1 → Q (M (l0 + 67) 16) M) ∧ (l2 = 2 → FX9_hungerOfLiving (fun (r2 : Int32) => Q r2 M) (l0 + 67) M) ∧ (¬ l2 = 0 → ¬ l2 = 1 → ¬ l2 = 2 → FX9_lastAdvice (fun (r3 : Int32) => Q r3 M) (l0 + 67) M))) ∧ (¬ l1 ≤ l3 → FX0_passDay (fun (r5 : Int32) (M4 : Mem) => B39 (l3 + 1) M4) (l0 + 1) (l0 + 67) 1 M))
def NX11_goes_39 (Q : Int32 → Mem → Prop) (l0 : Nat) (l1 : Int32) (l2 : Int32) (l3 : Int32) (M : Mem) : Prop := xlp (fun (B : Int32 × Mem → Prop) a => lbX11_goes_39 Q l0 l1 l2 (fun l3 M => B (l3, M)) a.1 a.2) (l3, M)
theorem nX11_goes_39 {Q : Int32 → Mem → Prop} {l0 : Nat} {l1 : Int32} {l2 : Int32} {l3 : Int32} {M : Mem} (hk_l0 : SHk l0 = 11) (h : NX11_goes_39 Q l0 l1 l2 l3 M) : xX RX11 cX11_goes 4 (some .int) 8 39 [(0, .ref l0), (1, .int l1), (2, .int l2), (3, .int l3)] [] M (xQi Q) := by
  obtain ⟨n, h⟩ := h
  have hB39 : ∀ (n : Nat) (l3 : Int32) (M : Mem), xlpn (fun (B : Int32 × Mem → Prop) a => lbX11_goes_39 Q l0 l1 l2 (fun l3 M => B (l3, M)) a.1 a.2) n (l3, M) → xX RX11 cX11_goes 4 (some .int) 8 39 [(0, .ref l0), (1, .int l1), (2, .int l2), (3, .int l3)] [] M (xQi Q) := by
    intro n
    induction n with
    | zero => intro l3 M h; exact False.elim h
    | succ n ih =>
      intro l3 M h
      have hB39 := ih
      have h : lbX11_goes_39 Q l0 l1 l2 (fun l3 M => xlpn (fun (B : Int32 × Mem → Prop) a => lbX11_goes_39 Q l0 l1 l2 (fun l3 M => B (l3, M)) a.1 a.2) n (l3, M)) l3 M := h
      unfold lbX11_goes_39 at h
      refine x_iload_n dX11_goes_39 rfl 40 rfl ?_
      refine x_iload_n dX11_goes_40 rfl 41 rfl ?_
      refine x_icmp_ge dX11_goes_41 63 44 rfl rfl (fun hc => ?_) (fun hc => ?_)
      · have h := h.1 hc
        refine x_iload_n dX11_goes_63 rfl 64 rfl ?_
        by_cases hc0 : l2 = 0
        · refine x_tab_at dX11_goes_64 hc0 (by decide) (by decide) rfl (tg := 92) rfl ?_
          have h := h.1 hc0
          refine x_aload_n dX11_goes_92 rfl 93 rfl ?_
          refine gf11_2 dX11_goes_93 96 rfl hk_l0 kw2_150 ?_
          refine gf9_12 dX11_goes_96 99 rfl (ly11_2 hk_l0).1 kw1_77 ?_
          refine kJ6_bitCount_0f7a4 dX11_goes_99 102 rfl kw4_189 (Nat.le_of_ble_eq_true rfl) (Nat.le_of_ble_eq_true rfl) h (fun r1 h => ?_)
          exact x_iret dX11_goes_102 h
        by_cases hc1 : l2 = 1
        · refine x_tab_at dX11_goes_64 hc1 (by decide) (by decide) rfl (tg := 103) rfl ?_
          have h := h.2.1 hc1
          refine x_aload_n dX11_goes_103 rfl 104 rfl ?_
          refine gf11_2 dX11_goes_104 107 rfl hk_l0 kw2_150 ?_
          refine gf9_16 dX11_goes_107 110 rfl (ly11_2 hk_l0).1 kw1_92 ?_
          exact x_iret dX11_goes_110 h
        by_cases hc2 : l2 = 2
        · refine x_tab_at dX11_goes_64 hc2 (by decide) (by decide) rfl (tg := 111) rfl ?_
          have h := h.2.2.1 hc2
          refine x_aload_n dX11_goes_111 rfl 112 rfl ?_
          refine gf11_2 dX11_goes_112 115 rfl hk_l0 kw2_150 ?_
          refine kX9_hungerOfLiving dX11_goes_115 118 rfl (ly11_2 hk_l0).1 kw4_195 (Nat.le_of_ble_eq_true rfl) (Nat.le_of_ble_eq_true rfl) h (fun r2 h => ?_)
          exact x_iret dX11_goes_118 h
        have h := h.2.2.2 hc0 hc1 hc2
        refine x_tab_out dX11_goes_64 (by have a0 := lv_neT hc0 (a := 0) (by decide); have a1 := lv_neT hc1 (a := 1) (by decide); have a2 := lv_neT hc2 (a := 2) (by decide); show (l2 : Int32).toInt < 0 ∨ 2 < (l2 : Int32).toInt; omega) (tg := 119) rfl ?_
        refine x_aload_n dX11_goes_119 rfl 120 rfl ?_
        refine gf11_2 dX11_goes_120 123 rfl hk_l0 kw2_150 ?_
        refine kX9_lastAdvice dX11_goes_123 126 rfl (ly11_2 hk_l0).1 kw4_199 (Nat.le_of_ble_eq_true rfl) (Nat.le_of_ble_eq_true rfl) h (fun r3 h => ?_)
        exact x_iret dX11_goes_126 h
      · have h := h.2 hc
        refine x_aload_n dX11_goes_44 rfl 45 rfl ?_
        refine gf11_0 dX11_goes_45 48 rfl hk_l0 kw2_148 ?_
        refine x_aload_n dX11_goes_48 rfl 49 rfl ?_
        refine gf11_2 dX11_goes_49 52 rfl hk_l0 kw2_150 ?_
        refine x_iconst dX11_goes_52 kc_1 53 rfl ?_
        refine kX0_passDay dX11_goes_53 56 rfl (ly11_0 hk_l0).1 (ly11_2 hk_l0).1 kw3_52 (Nat.le_of_ble_eq_true rfl) (Nat.le_of_ble_eq_true rfl) h (fun r5 M4 h => ?_)
        refine x_pop dX11_goes_56 rfl 57 rfl ?_
        refine x_iinc dX11_goes_57 rfl (congrArg (l3 + ·) kc_1) (Nat.le_of_ble_eq_true rfl) [(0, .ref l0), (1, .int l1), (2, .int l2), (3, .int (l3 + 1))] rfl 60 rfl ?_
        refine x_goto dX11_goes_60 39 rfl ?_
        exact hB39 _ _ h
  exact hB39 n l3 M h
def FX11_goes (Q : Int32 → Mem → Prop) (l0 : Nat) (l1 : Int32) (l2 : Int32) (M : Mem) : Prop :=
  ((l1 < 1 → Q (-100) M) ∧ (¬ l1 < 1 → ((60 < l1 → Q (-100) M) ∧ (¬ 60 < l1 → ((l2 < 0 → Q (-100) M) ∧ (¬ l2 < 0 → ((l2 ≤ 3 → FX9_copyFrom (fun (M6 : Mem) => NX11_goes_39 Q l0 l1 l2 0 M6) (l0 + 67) ((l0 + 1) + 1) M) ∧ (¬ l2 ≤ 3 → Q (-100) M))))))))
theorem eX11_goes {Q : Int32 → Mem → Prop} {l0 : Nat} {l1 : Int32} {l2 : Int32} {M : Mem} (hk_l0 : SHk l0 = 11) (h : FX11_goes Q l0 l1 l2 M) : xX RX11 cX11_goes 4 (some .int) 8 0 [(0, .ref l0), (1, .int l1), (2, .int l2)] [] M (xQi Q) := by
  unfold FX11_goes at h
  refine x_iload_n dX11_goes_0 rfl 1 rfl ?_
  refine x_iconst dX11_goes_1 kc_1 2 rfl ?_
  refine x_icmp_lt dX11_goes_2 20 5 rfl rfl (fun hc => ?_) (fun hc => ?_)
  · have h := h.1 hc
    refine x_bipush dX11_goes_20 kb_m100 22 rfl ?_
    exact x_iret dX11_goes_22 h
  · have h := h.2 hc
    refine x_iload_n dX11_goes_5 rfl 6 rfl ?_
    refine x_bipush dX11_goes_6 kb_60 8 rfl ?_
    refine x_icmp_gt dX11_goes_8 20 11 rfl rfl (fun hc => ?_) (fun hc => ?_)
    · have h := h.1 hc
      refine x_bipush dX11_goes_20 kb_m100 22 rfl ?_
      exact x_iret dX11_goes_22 h
    · have h := h.2 hc
      refine x_iload_n dX11_goes_11 rfl 12 rfl ?_
      refine x_if_lt dX11_goes_12 20 15 rfl rfl (fun hc => ?_) (fun hc => ?_)
      · have h := h.1 hc
        refine x_bipush dX11_goes_20 kb_m100 22 rfl ?_
        exact x_iret dX11_goes_22 h
      · have h := h.2 hc
        refine x_iload_n dX11_goes_15 rfl 16 rfl ?_
        refine x_iconst dX11_goes_16 kc_3 17 rfl ?_
        refine x_icmp_le dX11_goes_17 23 20 rfl rfl (fun hc => ?_) (fun hc => ?_)
        · have h := h.1 hc
          refine x_aload_n dX11_goes_23 rfl 24 rfl ?_
          refine gf11_2 dX11_goes_24 27 rfl hk_l0 kw2_150 ?_
          refine x_aload_n dX11_goes_27 rfl 28 rfl ?_
          refine gf11_0 dX11_goes_28 31 rfl hk_l0 kw2_148 ?_
          refine gf0_0 dX11_goes_31 34 rfl (ly11_0 hk_l0).1 kw2_10 ?_
          refine kX9_copyFrom dX11_goes_34 37 rfl (ly11_2 hk_l0).1 (ly0_0 (ly11_0 hk_l0).1).1 kw4_188 (Nat.le_of_ble_eq_true rfl) (Nat.le_of_ble_eq_true rfl) h (fun M6 h => ?_)
          refine x_iconst dX11_goes_37 kc_0 38 rfl ?_
          refine x_istore_n dX11_goes_38 (Nat.le_of_ble_eq_true rfl) [(0, .ref l0), (1, .int l1), (2, .int l2), (3, .int 0)] rfl 39 rfl ?_
          exact nX11_goes_39 hk_l0 h
        · have h := h.2 hc
          refine x_bipush dX11_goes_20 kb_m100 22 rfl ?_
          exact x_iret dX11_goes_22 h
theorem cX11_goes_ {Q : Int32 → Mem → Prop} {l0 : Nat} {l1 : Int32} {l2 : Int32} {M : Mem} (hk_l0 : SHk l0 = 11) (h : FX11_goes Q l0 l1 l2 M) : xM yX11_goes cX11_goes 4 (some .int) 8 [.ref l0, .int l1, .int l2] M (xQi Q) := xM_of (by decide +kernel) (Nat.le_of_ble_eq_true rfl) (eX11_goes hk_l0 h)
theorem kX11_goes {own : String} {cc : ByteArray} {nL : Nat} {rt : Option FieldType} {d pc ix : Nat} {L : List (Nat × Value)} {st : List Value} {M : Mem} {Rt : xGt → Array Value → State → Outcome → State → Prop} {Q : Int32 → Mem → Prop} {l0 : Nat} {l1 : Int32} {l2 : Int32} (hd : decode cc pc = .ok (.invokevirtual ix, 3)) (q : Nat) (hq : pc + 3 = q) (hk_l0 : SHk l0 = 11) (w1 : Cond.methodLink own ix yX11_goes ∈ xTs) (hr : 8 < d) (hst : (st.map fun v => v.category).sum ≤ 8) (h : FX11_goes Q l0 l1 l2 M) (k : ∀ (r : Int32) (N : Mem), Q r N → xX own cc nL rt d q L (.int r :: st) N Rt) : xX own cc nL rt d pc L (.int l2 :: .int l1 :: .ref l0 :: st) M Rt :=
  x_callV_i (n := 2) (As := [.int l1, .int l2]) hd q hq hk_l0 (by decide) rfl rfl w1 kw4_185 kw4_186 kw1_1 kw4_187 (by decide +kernel) rfl hr (by decide) hst _ rfl (cX11_goes_ hk_l0 h) k
