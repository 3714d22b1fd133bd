def FX12_isLineWord (Q : Bool → Prop) (l0 : Nat) (M : Mem) : Prop :=
  ((¬ (M l0 14) = 2 → Q false) ∧ ((M l0 14) = 2 → FX12_isIn (fun (r1 : Bool) => ((r1 = false → Q false) ∧ (r1 = true → Q true))) l0 (M l0 15) 0 2 M))
theorem eX12_isLineWord {Q : Bool → Prop} {l0 : Nat} {M : Mem} (hk_l0 : SHk l0 = 12) (h : FX12_isLineWord Q l0 M) : xX RX12 cX12_isLineWord 1 (some .boolean) 2 0 [(0, .ref l0)] [] M (xQb (xP M Q)) := by
  unfold FX12_isLineWord at h
  refine x_aload_n dX12_isLineWord_0 rfl 1 rfl ?_
  refine gf12_14 dX12_isLineWord_1 4 rfl hk_l0 kw5_173 ?_
  refine x_iconst dX12_isLineWord_4 kc_2 5 rfl ?_
  refine x_icmp_ne dX12_isLineWord_5 25 8 rfl rfl (fun hc => ?_) (fun hc => ?_)
  · have h := h.1 hc
    refine x_iconst dX12_isLineWord_25 kc_0 26 rfl ?_
    exact x_zret (z := false) dX12_isLineWord_26 ⟨rfl, h⟩
  · have h := h.2 hc
    refine x_aload_n dX12_isLineWord_8 rfl 9 rfl ?_
    refine x_aload_n dX12_isLineWord_9 rfl 10 rfl ?_
    refine gf12_15 dX12_isLineWord_10 13 rfl hk_l0 kw5_174 ?_
    refine x_iconst dX12_isLineWord_13 kc_0 14 rfl ?_
    refine x_iconst dX12_isLineWord_14 kc_2 15 rfl ?_
    refine kX12_isIn dX12_isLineWord_15 18 rfl hk_l0 kw6_82 (Nat.le_of_ble_eq_true rfl) (Nat.le_of_ble_eq_true rfl) h (fun r1 h => ?_)
    refine x_if_eq_b dX12_isLineWord_18 25 21 rfl rfl (fun hc => ?_) (fun hc => ?_)
    · have h := h.1 hc
      refine x_iconst dX12_isLineWord_25 kc_0 26 rfl ?_
      exact x_zret (z := false) dX12_isLineWord_26 ⟨rfl, h⟩
    · have h := h.2 hc
      refine x_iconst dX12_isLineWord_21 kc_1 22 rfl ?_
      refine x_goto dX12_isLineWord_22 26 rfl ?_
      exact x_zret (z := true) dX12_isLineWord_26 ⟨rfl, h⟩
theorem cX12_isLineWord_ {Q : Bool → Prop} {l0 : Nat} {M : Mem} (hk_l0 : SHk l0 = 12) (h : FX12_isLineWord Q l0 M) : xM yX12_isLineWord cX12_isLineWord 1 (some .boolean) 2 [.ref l0] M (xQb (xP M Q)) := xM_of (by decide +kernel) (Nat.le_of_ble_eq_true rfl) (eX12_isLineWord hk_l0 h)
theorem kX12_isLineWord {own : String} {cc : ByteArray} {nL : Nat} {rt : Option FieldType} {d pc ix : Nat} {L : List (Nat × Value)} {st : List Value} {M : Mem} {Rt : xGt → Array Value → State → Outcome → State → Prop} {Q : Bool → Prop} {l0 : Nat} (hd : decode cc pc = .ok (.invokevirtual ix, 3)) (q : Nat) (hq : pc + 3 = q) (hk_l0 : SHk l0 = 12) (w1 : Cond.methodLink own ix yX12_isLineWord ∈ xTs) (hr : 2 < d) (hst : (st.map fun v => v.category).sum ≤ 8) (h : FX12_isLineWord Q l0 M) (k : ∀ (r : Bool), Q r → xX own cc nL rt d q L (.int (bI r) :: st) M Rt) : xX own cc nL rt d pc L (.ref l0 :: st) M Rt :=
  x_callV_b (n := 0) (As := []) hd q hq hk_l0 (by decide) rfl rfl w1 kw6_224 ks4_15 kw1_14 kw6_225 (by decide +kernel) rfl hr (by decide) hst _ rfl (cX12_isLineWord_ hk_l0 h) (fun r N hN => by obtain ⟨rfl, hN⟩ := hN; exact k r hN)
def NX12_readLaw_92 (Q : Int32 → Mem → Prop) (B2 : Int32 → Mem → Prop) (l0 : Nat) (l1 : Int32) (l2 : Int32) (M : Mem) : Prop :=
  vp_in l2 48 ∧ ∀ M1 : Mem, M1 = xu M (l0 + 12) (ix l2) (M l0 25) → FX12_isSign (fun (r2 : Bool) => ((r2 = true → FX12_reads (fun (M3 : Mem) => B2 (l1 + 1) M3) l0 M1) ∧ (r2 = false → FX12_errs (fun (r5 : Int32) (M4 : Mem) => Q r5 M4) l0 1 M1))) l0 59 M1
theorem nX12_readLaw_92 {Q : Int32 → Mem → Prop} {B2 : Int32 → Mem → Prop} {l0 : Nat} {l1 : Int32} {l2 : Int32} {M : Mem} (hB2 : ∀ (l1 : Int32) (M : Mem), B2 l1 M → xX RX12 cX12_readLaw 3 (some .int) 9 2 [(0, .ref l0), (1, .int l1)] [] M (xQi Q)) (hk_l0 : SHk l0 = 12) (h : NX12_readLaw_92 Q B2 l0 l1 l2 M) : xX RX12 cX12_readLaw 3 (some .int) 9 92 [(0, .ref l0), (1, .int l1), (2, .int l2)] [] M (xQi Q) := by
  unfold NX12_readLaw_92 at h
  refine x_aload_n dX12_readLaw_92 rfl 93 rfl ?_
  refine gf12_21 dX12_readLaw_93 96 rfl hk_l0 kw5_180 ?_
  refine x_iload_n dX12_readLaw_96 rfl 97 rfl ?_
  refine x_aload_n dX12_readLaw_97 rfl 98 rfl ?_
  refine gf12_25 dX12_readLaw_98 101 rfl hk_l0 kw5_184 ?_
  obtain ⟨hin, h⟩ := h
  refine x_iastore dX12_readLaw_101 (ly12_21 hk_l0) hin 102 rfl (x_mem (fun M1 hM1 => ?_))
  have h := h M1 hM1
  refine x_aload_n dX12_readLaw_102 rfl 103 rfl ?_
  refine x_bipush dX12_readLaw_103 kb_59 105 rfl ?_
  refine kX12_isSign dX12_readLaw_105 108 rfl hk_l0 kw6_194 (Nat.le_of_ble_eq_true rfl) (Nat.le_of_ble_eq_true rfl) h (fun r2 h => ?_)
  refine x_if_ne_b dX12_readLaw_108 117 111 rfl rfl (fun hc => ?_) (fun hc => ?_)
  · have h := h.1 hc
    refine x_aload_n dX12_readLaw_117 rfl 118 rfl ?_
    refine kX12_reads dX12_readLaw_118 121 rfl hk_l0 kw6_146 (Nat.le_of_ble_eq_true rfl) (Nat.le_of_ble_eq_true rfl) h (fun M3 h => ?_)
    refine x_iload_n dX12_readLaw_121 rfl 122 rfl ?_
    refine x_iconst dX12_readLaw_122 kc_1 123 rfl ?_
    refine x_iadd dX12_readLaw_123 124 rfl ?_
    refine x_istore_n dX12_readLaw_124 (Nat.le_of_ble_eq_true rfl) [(0, .ref l0), (1, .int (l1 + 1)), (2, .int l2)] rfl 125 rfl ?_
    refine x_goto dX12_readLaw_125 2 rfl ?_
    refine x_weak [(0, .ref l0), (1, .int (l1 + 1))] [0, 1] rfl ?_
    exact hB2 _ _ h
  · have h := h.2 hc
    refine x_aload_n dX12_readLaw_111 rfl 112 rfl ?_
    refine x_iconst dX12_readLaw_112 kc_1 113 rfl ?_
    refine kX12_errs dX12_readLaw_113 116 rfl hk_l0 kw6_178 (Nat.le_of_ble_eq_true rfl) (Nat.le_of_ble_eq_true rfl) h (fun r5 M4 h => ?_)
    exact x_iret dX12_readLaw_116 h
def lbX12_readLaw_2 (Q : Int32 → Mem → Prop) (l0 : Nat) (B2 : Int32 → Mem → Prop) (l1 : Int32) (M : Mem) : Prop :=
  FX12_isLineWord (fun (r6 : Bool) => ((r6 = false → ((¬ (M l0 14) = 0 → FX12_errs (fun (r8 : Int32) (M7 : Mem) => Q r8 M7) l0 1 M) ∧ ((M l0 14) = 0 → Q l1 M))) ∧ (r6 = true → ((¬ l1 = 16 → vp_in (32 + l1) 48 ∧ ∀ M9 : Mem, M9 = xu M (l0 + 9) (ix (32 + l1)) (M l0 15) → FX12_reads (fun (M10 : Mem) => vp_in (32 + l1) 48 ∧ ∀ M11 : Mem, M11 = xu M10 (l0 + 10) (ix (32 + l1)) (M10 l0 25) → FX12_readSum (fun (r13 : Int32) (M12 : Mem) => ((¬ r13 = (-1) → vp_in (32 + l1) 48 ∧ ∀ M14 : Mem, M14 = xu M12 (l0 + 11) (ix (32 + l1)) (M12 l0 25) → FX12_isWord (fun (r15 : Bool) => ((r15 = false → NX12_readLaw_92 Q B2 l0 l1 (32 + l1) M14) ∧ (r15 = true → FX12_reads (fun (M16 : Mem) => FX12_readAny (fun (r18 : Int32) (M17 : Mem) => ((¬ r18 = (-1) → NX12_readLaw_92 Q B2 l0 l1 (32 + l1) M17) ∧ (r18 = (-1) → Q (-1) M17))) l0 M16) l0 M14))) l0 3 M14) ∧ (r13 = (-1) → Q (-1) M12))) l0 M11) l0 M9) ∧ (l1 = 16 → FX12_errs (fun (r20 : Int32) (M19 : Mem) => Q r20 M19) l0 3 M))))) l0 M
def NX12_readLaw_2 (Q : Int32 → Mem → Prop) (l0 : Nat) (l1 : Int32) (M : Mem) : Prop := xlp (fun (B : Int32 × Mem → Prop) a => lbX12_readLaw_2 Q l0 (fun l1 M => B (l1, M)) a.1 a.2) (l1, M)
theorem nX12_readLaw_2 {Q : Int32 → Mem → Prop} {l0 : Nat} {l1 : Int32} {M : Mem} (hk_l0 : SHk l0 = 12) (h : NX12_readLaw_2 Q l0 l1 M) : xX RX12 cX12_readLaw 3 (some .int) 9 2 [(0, .ref l0), (1, .int l1)] [] M (xQi Q) := by
  obtain ⟨n, h⟩ := h
  have hB2 : ∀ (n : Nat) (l1 : Int32) (M : Mem), xlpn (fun (B : Int32 × Mem → Prop) a => lbX12_readLaw_2 Q l0 (fun l1 M => B (l1, M)) a.1 a.2) n (l1, M) → xX RX12 cX12_readLaw 3 (some .int) 9 2 [(0, .ref l0), (1, .int l1)] [] M (xQi Q) := by
    intro n
    induction n with
    | zero => intro l1 M h; exact False.elim h
    | succ n ih =>
      intro l1 M h
      have hB2 := ih
      have h : lbX12_readLaw_2 Q l0 (fun l1 M => xlpn (fun (B : Int32 × Mem → Prop) a => lbX12_readLaw_2 Q l0 (fun l1 M => B (l1, M)) a.1 a.2) n (l1, M)) l1 M := h
      unfold lbX12_readLaw_2 at h
      refine x_aload_n dX12_readLaw_2 rfl 3 rfl ?_
      refine kX12_isLineWord dX12_readLaw_3 6 rfl hk_l0 kw6_222 (Nat.le_of_ble_eq_true rfl) (Nat.le_of_ble_eq_true rfl) h (fun r6 h => ?_)
      refine x_if_eq_b dX12_readLaw_6 128 9 rfl rfl (fun hc => ?_) (fun hc => ?_)
      · have h := h.1 hc
        refine x_aload_n dX12_readLaw_128 rfl 129 rfl ?_
        refine gf12_14 dX12_readLaw_129 132 rfl hk_l0 kw5_173 ?_
        refine x_if_ne dX12_readLaw_132 139 135 rfl rfl (fun hc => ?_) (fun hc => ?_)
        · have h := h.1 hc
          refine x_aload_n dX12_readLaw_139 rfl 140 rfl ?_
          refine x_iconst dX12_readLaw_140 kc_1 141 rfl ?_
          refine kX12_errs dX12_readLaw_141 144 rfl hk_l0 kw6_178 (Nat.le_of_ble_eq_true rfl) (Nat.le_of_ble_eq_true rfl) h (fun r8 M7 h => ?_)
          exact x_iret dX12_readLaw_144 h
        · have h := h.2 hc
          refine x_iload_n dX12_readLaw_135 rfl 136 rfl ?_
          refine x_goto dX12_readLaw_136 144 rfl ?_
          exact x_iret dX12_readLaw_144 h
      · have h := h.2 hc
        refine x_iload_n dX12_readLaw_9 rfl 10 rfl ?_
        refine x_bipush dX12_readLaw_10 kb_16 12 rfl ?_
        refine x_icmp_ne dX12_readLaw_12 21 15 rfl rfl (fun hc => ?_) (fun hc => ?_)
        · have h := h.1 hc
          refine x_bipush dX12_readLaw_21 kb_32 23 rfl ?_
          refine x_iload_n dX12_readLaw_23 rfl 24 rfl ?_
          refine x_iadd dX12_readLaw_24 25 rfl ?_
          refine x_istore_n dX12_readLaw_25 (Nat.le_of_ble_eq_true rfl) [(0, .ref l0), (1, .int l1), (2, .int (32 + l1))] rfl 26 rfl ?_
          refine x_aload_n dX12_readLaw_26 rfl 27 rfl ?_
          refine gf12_18 dX12_readLaw_27 30 rfl hk_l0 kw5_177 ?_
          refine x_iload_n dX12_readLaw_30 rfl 31 rfl ?_
          refine x_aload_n dX12_readLaw_31 rfl 32 rfl ?_
          refine gf12_15 dX12_readLaw_32 35 rfl hk_l0 kw5_174 ?_
          obtain ⟨hin, h⟩ := h
          refine x_iastore dX12_readLaw_35 (ly12_18 hk_l0) hin 36 rfl (x_mem (fun M9 hM9 => ?_))
          have h := h M9 hM9
          refine x_aload_n dX12_readLaw_36 rfl 37 rfl ?_
          refine kX12_reads dX12_readLaw_37 40 rfl hk_l0 kw6_146 (Nat.le_of_ble_eq_true rfl) (Nat.le_of_ble_eq_true rfl) h (fun M10 h => ?_)
          refine x_aload_n dX12_readLaw_40 rfl 41 rfl ?_
          refine gf12_19 dX12_readLaw_41 44 rfl hk_l0 kw5_178 ?_
          refine x_iload_n dX12_readLaw_44 rfl 45 rfl ?_
          refine x_aload_n dX12_readLaw_45 rfl 46 rfl ?_
          refine gf12_25 dX12_readLaw_46 49 rfl hk_l0 kw5_184 ?_
          obtain ⟨hin, h⟩ := h
          refine x_iastore dX12_readLaw_49 (ly12_19 hk_l0) hin 50 rfl (x_mem (fun M11 hM11 => ?_))
          have h := h M11 hM11
          refine x_aload_n dX12_readLaw_50 rfl 51 rfl ?_
          refine kX12_readSum dX12_readLaw_51 54 rfl hk_l0 kw6_226 (Nat.le_of_ble_eq_true rfl) (Nat.le_of_ble_eq_true rfl) h (fun r13 M12 h => ?_)
          refine x_iconst dX12_readLaw_54 kc_m1 55 rfl ?_
          refine x_icmp_ne dX12_readLaw_55 60 58 rfl rfl (fun hc => ?_) (fun hc => ?_)
          · have h := h.1 hc
            refine x_aload_n dX12_readLaw_60 rfl 61 rfl ?_
            refine gf12_20 dX12_readLaw_61 64 rfl hk_l0 kw5_179 ?_
            refine x_iload_n dX12_readLaw_64 rfl 65 rfl ?_
            refine x_aload_n dX12_readLaw_65 rfl 66 rfl ?_
            refine gf12_25 dX12_readLaw_66 69 rfl hk_l0 kw5_184 ?_
            obtain ⟨hin, h⟩ := h
            refine x_iastore dX12_readLaw_69 (ly12_20 hk_l0) hin 70 rfl (x_mem (fun M14 hM14 => ?_))
            have h := h M14 hM14
            refine x_aload_n dX12_readLaw_70 rfl 71 rfl ?_
            refine x_iconst dX12_readLaw_71 kc_3 72 rfl ?_
            refine kX12_isWord dX12_readLaw_72 75 rfl hk_l0 kw6_174 (Nat.le_of_ble_eq_true rfl) (Nat.le_of_ble_eq_true rfl) h (fun r15 h => ?_)
            refine x_if_eq_b dX12_readLaw_75 92 78 rfl rfl (fun hc => ?_) (fun hc => ?_)
            · have h := h.1 hc
              exact nX12_readLaw_92 hB2 hk_l0 h
            · have h := h.2 hc
              refine x_aload_n dX12_readLaw_78 rfl 79 rfl ?_
              refine kX12_reads dX12_readLaw_79 82 rfl hk_l0 kw6_146 (Nat.le_of_ble_eq_true rfl) (Nat.le_of_ble_eq_true rfl) h (fun M16 h => ?_)
              refine x_aload_n dX12_readLaw_82 rfl 83 rfl ?_
              refine kX12_readAny dX12_readLaw_83 86 rfl hk_l0 kw7_6 (Nat.le_of_ble_eq_true rfl) (Nat.le_of_ble_eq_true rfl) h (fun r18 M17 h => ?_)
              refine x_iconst dX12_readLaw_86 kc_m1 87 rfl ?_
              refine x_icmp_ne dX12_readLaw_87 92 90 rfl rfl (fun hc => ?_) (fun hc => ?_)
              · have h := h.1 hc
                exact nX12_readLaw_92 hB2 hk_l0 h
              · have h := h.2 hc
                refine x_iconst dX12_readLaw_90 kc_m1 91 rfl ?_
                exact x_iret dX12_readLaw_91 h
          · have h := h.2 hc
            refine x_iconst dX12_readLaw_58 kc_m1 59 rfl ?_
            exact x_iret dX12_readLaw_59 h
        · have h := h.2 hc
          refine x_aload_n dX12_readLaw_15 rfl 16 rfl ?_
          refine x_iconst dX12_readLaw_16 kc_3 17 rfl ?_
          refine kX12_errs dX12_readLaw_17 20 rfl hk_l0 kw6_178 (Nat.le_of_ble_eq_true rfl) (Nat.le_of_ble_eq_true rfl) h (fun r20 M19 h => ?_)
          exact x_iret dX12_readLaw_20 h
  exact hB2 n l1 M h
def FX12_readLaw (Q : Int32 → Mem → Prop) (l0 : Nat) (M : Mem) : Prop :=
  NX12_readLaw_2 Q l0 0 M
theorem eX12_readLaw {Q : Int32 → Mem → Prop} {l0 : Nat} {M : Mem} (hk_l0 : SHk l0 = 12) (h : FX12_readLaw Q l0 M) : xX RX12 cX12_readLaw 3 (some .int) 9 0 [(0, .ref l0)] [] M (xQi Q) := by
  unfold FX12_readLaw at h
  refine x_iconst dX12_readLaw_0 kc_0 1 rfl ?_
  refine x_istore_n dX12_readLaw_1 (Nat.le_of_ble_eq_true rfl) [(0, .ref l0), (1, .int 0)] rfl 2 rfl ?_
  exact nX12_readLaw_2 hk_l0 h
theorem cX12_readLaw_ {Q : Int32 → Mem → Prop} {l0 : Nat} {M : Mem} (hk_l0 : SHk l0 = 12) (h : FX12_readLaw Q l0 M) : xM yX12_readLaw cX12_readLaw 3 (some .int) 9 [.ref l0] M (xQi Q) := xM_of (by decide +kernel) (Nat.le_of_ble_eq_true rfl) (eX12_readLaw hk_l0 h)
theorem kX12_readLaw {own : String} {cc : ByteArray} {nL : Nat} {rt : Option FieldType} {d pc ix : Nat} {L : List (Nat × Value)} {st : List Value} {M : Mem} {Rt : xGt → Array Value → State → Outcome → State → Prop} {Q : Int32 → Mem → Prop} {l0 : Nat} (hd : decode cc pc = .ok (.invokevirtual ix, 3)) (q : Nat) (hq : pc + 3 = q) (hk_l0 : SHk l0 = 12) (w1 : Cond.methodLink own ix yX12_readLaw ∈ xTs) (hr : 9 < d) (hst : (st.map fun v => v.category).sum ≤ 8) (h : FX12_readLaw Q l0 M) (k : ∀ (r : Int32) (N : Mem), Q r N → xX own cc nL rt d q L (.int r :: st) N Rt) : xX own cc nL rt d pc L (.ref l0 :: st) M Rt :=
  x_callV_i (n := 0) (As := []) hd q hq hk_l0 (by decide) rfl rfl w1 kw6_220 ks4_14 kw1_14 kw6_221 (by decide +kernel) rfl hr (by decide) hst _ rfl (cX12_readLaw_ hk_l0 h) k
def lbX12_takesLaw_107 (Q : Mem → Prop) (l0 : Nat) (l1 : Int32) (B107 : Int32 → Mem → Prop) (l2 : Int32) (M : Mem) : Prop :=
  (((M l0 25) ≤ l2 → vp_in (M l0 24) 2 ∧ ∀ M1 : Mem, M1 = xu M (l0 + 8) (ix (M l0 24)) l1 → Q M1) ∧ (¬ (M l0 25) ≤ l2 → vp_in (800 + l2) 1200 ∧ vp_in ((400 * (M l0 24)) + l2) 1200 ∧ ∀ M2 : Mem, M2 = xu M (l0 + 13) (ix ((400 * (M l0 24)) + l2)) (M (l0 + 13) (ix (800 + l2))) → vp_in (800 + l2) 1200 ∧ vp_in ((400 * (M2 l0 24)) + l2) 1200 ∧ ∀ M3 : Mem, M3 = xu M2 (l0 + 14) (ix ((400 * (M2 l0 24)) + l2)) (M2 (l0 + 14) (ix (800 + l2))) → B107 (l2 + 1) M3))
def NX12_takesLaw_107 (Q : Mem → Prop) (l0 : Nat) (l1 : Int32) (l2 : Int32) (M : Mem) : Prop := xlp (fun (B : Int32 × Mem → Prop) a => lbX12_takesLaw_107 Q l0 l1 (fun l2 M => B (l2, M)) a.1 a.2) (l2, M)
theorem nX12_takesLaw_107 {Q : Mem → Prop} {l0 : Nat} {l1 : Int32} {l2 : Int32} {M : Mem} (hk_l0 : SHk l0 = 12) (h : NX12_takesLaw_107 Q l0 l1 l2 M) : xX RX12 cX12_takesLaw 3 none 1 107 [(0, .ref l0), (1, .int l1), (2, .int l2)] [] M (xQv Q) := by
  obtain ⟨n, h⟩ := h
  have hB107 : ∀ (n : Nat) (l2 : Int32) (M : Mem), xlpn (fun (B : Int32 × Mem → Prop) a => lbX12_takesLaw_107 Q l0 l1 (fun l2 M => B (l2, M)) a.1 a.2) n (l2, M) → xX RX12 cX12_takesLaw 3 none 1 107 [(0, .ref l0), (1, .int l1), (2, .int l2)] [] M (xQv Q) := by
    intro n
    induction n with
    | zero => intro l2 M h; exact False.elim h
    | succ n ih =>
      intro l2 M h
      have hB107 := ih
      have h : lbX12_takesLaw_107 Q l0 l1 (fun l2 M => xlpn (fun (B : Int32 × Mem → Prop) a => lbX12_takesLaw_107 Q l0 l1 (fun l2 M => B (l2, M)) a.1 a.2) n (l2, M)) l2 M := h
      unfold lbX12_takesLaw_107 at h
      refine x_iload_n dX12_takesLaw_107 rfl 108 rfl ?_
      refine x_aload_n dX12_takesLaw_108 rfl 109 rfl ?_
      refine gf12_25 dX12_takesLaw_109 112 rfl hk_l0 kw5_184 ?_
      refine x_icmp_ge dX12_takesLaw_112 171 115 rfl rfl (fun hc => ?_) (fun hc => ?_)
      · have h := h.1 hc
        refine x_aload_n dX12_takesLaw_171 rfl 172 rfl ?_
        refine gf12_17 dX12_takesLaw_172 175 rfl hk_l0 kw5_176 ?_
        refine x_aload_n dX12_takesLaw_175 rfl 176 rfl ?_
        refine gf12_24 dX12_takesLaw_176 179 rfl hk_l0 kw5_183 ?_
        refine x_iload_n dX12_takesLaw_179 rfl 180 rfl ?_
        obtain ⟨hin, h⟩ := h
        refine x_iastore dX12_takesLaw_180 (ly12_17 hk_l0) hin 181 rfl (x_mem (fun M1 hM1 => ?_))
        have h := h M1 hM1
        exact x_vret dX12_takesLaw_181 h
      · have h := h.2 hc
        refine x_aload_n dX12_takesLaw_115 rfl 116 rfl ?_
        refine gf12_22 dX12_takesLaw_116 119 rfl hk_l0 kw5_181 ?_
        refine x_sipush dX12_takesLaw_119 kh_400 122 rfl ?_
        refine x_aload_n dX12_takesLaw_122 rfl 123 rfl ?_
        refine gf12_24 dX12_takesLaw_123 126 rfl hk_l0 kw5_183 ?_
        refine x_imul dX12_takesLaw_126 127 rfl ?_
        refine x_iload_n dX12_takesLaw_127 rfl 128 rfl ?_
        refine x_iadd dX12_takesLaw_128 129 rfl ?_
        refine x_aload_n dX12_takesLaw_129 rfl 130 rfl ?_
        refine gf12_22 dX12_takesLaw_130 133 rfl hk_l0 kw5_181 ?_
        refine x_sipush dX12_takesLaw_133 kh_800 136 rfl ?_
        refine x_iload_n dX12_takesLaw_136 rfl 137 rfl ?_
        refine x_iadd dX12_takesLaw_137 138 rfl ?_
        obtain ⟨hin, h⟩ := h
        refine x_iaload dX12_takesLaw_138 (ly12_22 hk_l0) hin 139 rfl ?_
        obtain ⟨hin, h⟩ := h
        refine x_iastore dX12_takesLaw_139 (ly12_22 hk_l0) hin 140 rfl (x_mem (fun M2 hM2 => ?_))
        have h := h M2 hM2
        refine x_aload_n dX12_takesLaw_140 rfl 141 rfl ?_
        refine gf12_23 dX12_takesLaw_141 144 rfl hk_l0 kw5_182 ?_
        refine x_sipush dX12_takesLaw_144 kh_400 147 rfl ?_
        refine x_aload_n dX12_takesLaw_147 rfl 148 rfl ?_
        refine gf12_24 dX12_takesLaw_148 151 rfl hk_l0 kw5_183 ?_
        refine x_imul dX12_takesLaw_151 152 rfl ?_
        refine x_iload_n dX12_takesLaw_152 rfl 153 rfl ?_
        refine x_iadd dX12_takesLaw_153 154 rfl ?_
        refine x_aload_n dX12_takesLaw_154 rfl 155 rfl ?_
        refine gf12_23 dX12_takesLaw_155 158 rfl hk_l0 kw5_182 ?_
        refine x_sipush dX12_takesLaw_158 kh_800 161 rfl ?_
        refine x_iload_n dX12_takesLaw_161 rfl 162 rfl ?_
        refine x_iadd dX12_takesLaw_162 163 rfl ?_
        obtain ⟨hin, h⟩ := h
        refine x_iaload dX12_takesLaw_163 (ly12_23 hk_l0) hin 164 rfl ?_
        obtain ⟨hin, h⟩ := h
        refine x_iastore dX12_takesLaw_164 (ly12_23 hk_l0) hin 165 rfl (x_mem (fun M3 hM3 => ?_))
        have h := h M3 hM3
        refine x_iinc dX12_takesLaw_165 rfl (congrArg (l2 + ·) kc_1) (Nat.le_of_ble_eq_true rfl) [(0, .ref l0), (1, .int l1), (2, .int (l2 + 1))] rfl 168 rfl ?_
        refine x_goto dX12_takesLaw_168 107 rfl ?_
        exact hB107 _ _ h
  exact hB107 n l2 M h
def lbX12_takesLaw_2 (Q : Mem → Prop) (l0 : Nat) (l1 : Int32) (B2 : Int32 → Mem → Prop) (l2 : Int32) (M : Mem) : Prop :=
  ((l1 ≤ l2 → NX12_takesLaw_107 Q l0 l1 0 M) ∧ (¬ l1 ≤ l2 → vp_in (32 + l2) 48 ∧ vp_in ((16 * (M l0 24)) + l2) 48 ∧ ∀ M4 : Mem, M4 = xu M (l0 + 9) (ix ((16 * (M l0 24)) + l2)) (M (l0 + 9) (ix (32 + l2))) → vp_in (32 + l2) 48 ∧ vp_in ((16 * (M4 l0 24)) + l2) 48 ∧ ∀ M5 : Mem, M5 = xu M4 (l0 + 10) (ix ((16 * (M4 l0 24)) + l2)) (M4 (l0 + 10) (ix (32 + l2))) → vp_in (32 + l2) 48 ∧ vp_in ((16 * (M5 l0 24)) + l2) 48 ∧ ∀ M6 : Mem, M6 = xu M5 (l0 + 11) (ix ((16 * (M5 l0 24)) + l2)) (M5 (l0 + 11) (ix (32 + l2))) → vp_in (32 + l2) 48 ∧ vp_in ((16 * (M6 l0 24)) + l2) 48 ∧ ∀ M7 : Mem, M7 = xu M6 (l0 + 12) (ix ((16 * (M6 l0 24)) + l2)) (M6 (l0 + 12) (ix (32 + l2))) → B2 (l2 + 1) M7))
def NX12_takesLaw_2 (Q : Mem → Prop) (l0 : Nat) (l1 : Int32) (l2 : Int32) (M : Mem) : Prop := xlp (fun (B : Int32 × Mem → Prop) a => lbX12_takesLaw_2 Q l0 l1 (fun l2 M => B (l2, M)) a.1 a.2) (l2, M)
theorem nX12_takesLaw_2 {Q : Mem → Prop} {l0 : Nat} {l1 : Int32} {l2 : Int32} {M : Mem} (hk_l0 : SHk l0 = 12) (h : NX12_takesLaw_2 Q l0 l1 l2 M) : xX RX12 cX12_takesLaw 3 none 1 2 [(0, .ref l0), (1, .int l1), (2, .int l2)] [] M (xQv Q) := by
  obtain ⟨n, h⟩ := h
  have hB2 : ∀ (n : Nat) (l2 : Int32) (M : Mem), xlpn (fun (B : Int32 × Mem → Prop) a => lbX12_takesLaw_2 Q l0 l1 (fun l2 M => B (l2, M)) a.1 a.2) n (l2, M) → xX RX12 cX12_takesLaw 3 none 1 2 [(0, .ref l0), (1, .int l1), (2, .int l2)] [] M (xQv Q) := by
    intro n
    induction n with
    | zero => intro l2 M h; exact False.elim h
    | succ n ih =>
      intro l2 M h
      have hB2 := ih
      have h : lbX12_takesLaw_2 Q l0 l1 (fun l2 M => xlpn (fun (B : Int32 × Mem → Prop) a => lbX12_takesLaw_2 Q l0 l1 (fun l2 M => B (l2, M)) a.1 a.2) n (l2, M)) l2 M := h
      unfold lbX12_takesLaw_2 at h
      refine x_iload_n dX12_takesLaw_2 rfl 3 rfl ?_
      refine x_iload_n dX12_takesLaw_3 rfl 4 rfl ?_
      refine x_icmp_ge dX12_takesLaw_4 105 7 rfl rfl (fun hc => ?_) (fun hc => ?_)
      · have h := h.1 hc
        refine x_iconst dX12_takesLaw_105 kc_0 106 rfl ?_
        refine x_istore_n dX12_takesLaw_106 (Nat.le_of_ble_eq_true rfl) [(0, .ref l0), (1, .int l1), (2, .int 0)] rfl 107 rfl ?_
        exact nX12_takesLaw_107 hk_l0 h
      · have h := h.2 hc
        refine x_aload_n dX12_takesLaw_7 rfl 8 rfl ?_
        refine gf12_18 dX12_takesLaw_8 11 rfl hk_l0 kw5_177 ?_
        refine x_bipush dX12_takesLaw_11 kb_16 13 rfl ?_
        refine x_aload_n dX12_takesLaw_13 rfl 14 rfl ?_
        refine gf12_24 dX12_takesLaw_14 17 rfl hk_l0 kw5_183 ?_
        refine x_imul dX12_takesLaw_17 18 rfl ?_
        refine x_iload_n dX12_takesLaw_18 rfl 19 rfl ?_
        refine x_iadd dX12_takesLaw_19 20 rfl ?_
        refine x_aload_n dX12_takesLaw_20 rfl 21 rfl ?_
        refine gf12_18 dX12_takesLaw_21 24 rfl hk_l0 kw5_177 ?_
        refine x_bipush dX12_takesLaw_24 kb_32 26 rfl ?_
        refine x_iload_n dX12_takesLaw_26 rfl 27 rfl ?_
        refine x_iadd dX12_takesLaw_27 28 rfl ?_
        obtain ⟨hin, h⟩ := h
        refine x_iaload dX12_takesLaw_28 (ly12_18 hk_l0) hin 29 rfl ?_
        obtain ⟨hin, h⟩ := h
        refine x_iastore dX12_takesLaw_29 (ly12_18 hk_l0) hin 30 rfl (x_mem (fun M4 hM4 => ?_))
        have h := h M4 hM4
        refine x_aload_n dX12_takesLaw_30 rfl 31 rfl ?_
        refine gf12_19 dX12_takesLaw_31 34 rfl hk_l0 kw5_178 ?_
        refine x_bipush dX12_takesLaw_34 kb_16 36 rfl ?_
        refine x_aload_n dX12_takesLaw_36 rfl 37 rfl ?_
        refine gf12_24 dX12_takesLaw_37 40 rfl hk_l0 kw5_183 ?_
        refine x_imul dX12_takesLaw_40 41 rfl ?_
        refine x_iload_n dX12_takesLaw_41 rfl 42 rfl ?_
        refine x_iadd dX12_takesLaw_42 43 rfl ?_
        refine x_aload_n dX12_takesLaw_43 rfl 44 rfl ?_
        refine gf12_19 dX12_takesLaw_44 47 rfl hk_l0 kw5_178 ?_
        refine x_bipush dX12_takesLaw_47 kb_32 49 rfl ?_
        refine x_iload_n dX12_takesLaw_49 rfl 50 rfl ?_
        refine x_iadd dX12_takesLaw_50 51 rfl ?_
        obtain ⟨hin, h⟩ := h
        refine x_iaload dX12_takesLaw_51 (ly12_19 hk_l0) hin 52 rfl ?_
        obtain ⟨hin, h⟩ := h
        refine x_iastore dX12_takesLaw_52 (ly12_19 hk_l0) hin 53 rfl (x_mem (fun M5 hM5 => ?_))
        have h := h M5 hM5
        refine x_aload_n dX12_takesLaw_53 rfl 54 rfl ?_
        refine gf12_20 dX12_takesLaw_54 57 rfl hk_l0 kw5_179 ?_
        refine x_bipush dX12_takesLaw_57 kb_16 59 rfl ?_
        refine x_aload_n dX12_takesLaw_59 rfl 60 rfl ?_
        refine gf12_24 dX12_takesLaw_60 63 rfl hk_l0 kw5_183 ?_
        refine x_imul dX12_takesLaw_63 64 rfl ?_
        refine x_iload_n dX12_takesLaw_64 rfl 65 rfl ?_
        refine x_iadd dX12_takesLaw_65 66 rfl ?_
        refine x_aload_n dX12_takesLaw_66 rfl 67 rfl ?_
        refine gf12_20 dX12_takesLaw_67 70 rfl hk_l0 kw5_179 ?_
        refine x_bipush dX12_takesLaw_70 kb_32 72 rfl ?_
        refine x_iload_n dX12_takesLaw_72 rfl 73 rfl ?_
        refine x_iadd dX12_takesLaw_73 74 rfl ?_
        obtain ⟨hin, h⟩ := h
        refine x_iaload dX12_takesLaw_74 (ly12_20 hk_l0) hin 75 rfl ?_
        obtain ⟨hin, h⟩ := h
        refine x_iastore dX12_takesLaw_75 (ly12_20 hk_l0) hin 76 rfl (x_mem (fun M6 hM6 => ?_))
        have h := h M6 hM6
        refine x_aload_n dX12_takesLaw_76 rfl 77 rfl ?_
        refine gf12_21 dX12_takesLaw_77 80 rfl hk_l0 kw5_180 ?_
        refine x_bipush dX12_takesLaw_80 kb_16 82 rfl ?_
        refine x_aload_n dX12_takesLaw_82 rfl 83 rfl ?_
        refine gf12_24 dX12_takesLaw_83 86 rfl hk_l0 kw5_183 ?_
        refine x_imul dX12_takesLaw_86 87 rfl ?_
        refine x_iload_n dX12_takesLaw_87 rfl 88 rfl ?_
        refine x_iadd dX12_takesLaw_88 89 rfl ?_
        refine x_aload_n dX12_takesLaw_89 rfl 90 rfl ?_
        refine gf12_21 dX12_takesLaw_90 93 rfl hk_l0 kw5_180 ?_
        refine x_bipush dX12_takesLaw_93 kb_32 95 rfl ?_
        refine x_iload_n dX12_takesLaw_95 rfl 96 rfl ?_
        refine x_iadd dX12_takesLaw_96 97 rfl ?_
        obtain ⟨hin, h⟩ := h
        refine x_iaload dX12_takesLaw_97 (ly12_21 hk_l0) hin 98 rfl ?_
        obtain ⟨hin, h⟩ := h
        refine x_iastore dX12_takesLaw_98 (ly12_21 hk_l0) hin 99 rfl (x_mem (fun M7 hM7 => ?_))
        have h := h M7 hM7
        refine x_iinc dX12_takesLaw_99 rfl (congrArg (l2 + ·) kc_1) (Nat.le_of_ble_eq_true rfl) [(0, .ref l0), (1, .int l1), (2, .int (l2 + 1))] rfl 102 rfl ?_
        refine x_goto dX12_takesLaw_102 2 rfl ?_
        exact hB2 _ _ h
  exact hB2 n l2 M h
def FX12_takesLaw (Q : Mem → Prop) (l0 : Nat) (l1 : Int32) (M : Mem) : Prop :=
  NX12_takesLaw_2 Q l0 l1 0 M
theorem eX12_takesLaw {Q : Mem → Prop} {l0 : Nat} {l1 : Int32} {M : Mem} (hk_l0 : SHk l0 = 12) (h : FX12_takesLaw Q l0 l1 M) : xX RX12 cX12_takesLaw 3 none 1 0 [(0, .ref l0), (1, .int l1)] [] M (xQv Q) := by
  unfold FX12_takesLaw at h
  refine x_iconst dX12_takesLaw_0 kc_0 1 rfl ?_
  refine x_istore_n dX12_takesLaw_1 (Nat.le_of_ble_eq_true rfl) [(0, .ref l0), (1, .int l1), (2, .int 0)] rfl 2 rfl ?_
  exact nX12_takesLaw_2 hk_l0 h
theorem cX12_takesLaw_ {Q : Mem → Prop} {l0 : Nat} {l1 : Int32} {M : Mem} (hk_l0 : SHk l0 = 12) (h : FX12_takesLaw Q l0 l1 M) : xM yX12_takesLaw cX12_takesLaw 3 none 1 [.ref l0, .int l1] M (xQv Q) := xM_of (by decide +kernel) (Nat.le_of_ble_eq_true rfl) (eX12_takesLaw hk_l0 h)
theorem kX12_takesLaw {own : String} {cc : ByteArray} {nL : Nat} {rt : Option FieldType} {d pc ix : Nat} {L : List (Nat × Value)} {st : List Value} {M : Mem} {Rt : xGt → Array Value → State → Outcome → State → Prop} {Q : Mem → Prop} {l0 : Nat} {l1 : Int32} (hd : decode cc pc = .ok (.invokevirtual ix, 3)) (q : Nat) (hq : pc + 3 = q) (hk_l0 : SHk l0 = 12) (w1 : Cond.methodLink own ix yX12_takesLaw ∈ xTs) (hr : 1 < d) (hst : (st.map fun v => v.category).sum ≤ 8) (h : FX12_takesLaw Q l0 l1 M) (k : ∀ (N : Mem), Q N → xX own cc nL rt d q L st N Rt) : xX own cc nL rt d pc L (.int l1 :: .ref l0 :: st) M Rt :=
  x_callV_v (n := 1) (As := [.int l1]) hd q hq hk_l0 (by decide) rfl rfl w1 kw7_24 ks5_9 kw1_14 kw7_25 (by decide +kernel) rfl hr (by decide) hst _ rfl (cX12_takesLaw_ hk_l0 h) k
def FX12_readNumber (Q : Int32 → Mem → Prop) (l0 : Nat) (l1 : Int32) (l2 : Int32) (M : Mem) : Prop :=
  (((M l0 14) = 3 → FX12_isIn (fun (r1 : Bool) => ((r1 = true → FX12_reads (fun (M2 : Mem) => Q (M l0 15) M2) l0 M) ∧ (r1 = false → FX12_errs (fun (r4 : Int32) (M3 : Mem) => Q r4 M3) l0 2 M))) l0 (M l0 15) l1 l2 M) ∧ (¬ (M l0 14) = 3 → FX12_errs (fun (r6 : Int32) (M5 : Mem) => Q r6 M5) l0 1 M))
theorem eX12_readNumber {Q : Int32 → Mem → Prop} {l0 : Nat} {l1 : Int32} {l2 : Int32} {M : Mem} (hk_l0 : SHk l0 = 12) (h : FX12_readNumber Q l0 l1 l2 M) : xX RX12 cX12_readNumber 4 (some .int) 4 0 [(0, .ref l0), (1, .int l1), (2, .int l2)] [] M (xQi Q) := by
  unfold FX12_readNumber at h
  refine x_aload_n dX12_readNumber_0 rfl 1 rfl ?_
  refine gf12_14 dX12_readNumber_1 4 rfl hk_l0 kw5_173 ?_
  refine x_iconst dX12_readNumber_4 kc_3 5 rfl ?_
  refine x_icmp_eq dX12_readNumber_5 14 8 rfl rfl (fun hc => ?_) (fun hc => ?_)
  · have h := h.1 hc
    refine x_aload_n dX12_readNumber_14 rfl 15 rfl ?_
    refine x_aload_n dX12_readNumber_15 rfl 16 rfl ?_
    refine gf12_15 dX12_readNumber_16 19 rfl hk_l0 kw5_174 ?_
    refine x_iload_n dX12_readNumber_19 rfl 20 rfl ?_
    refine x_iload_n dX12_readNumber_20 rfl 21 rfl ?_
    refine kX12_isIn dX12_readNumber_21 24 rfl hk_l0 kw6_82 (Nat.le_of_ble_eq_true rfl) (Nat.le_of_ble_eq_true rfl) h (fun r1 h => ?_)
    refine x_if_ne_b dX12_readNumber_24 33 27 rfl rfl (fun hc => ?_) (fun hc => ?_)
    · have h := h.1 hc
      refine x_aload_n dX12_readNumber_33 rfl 34 rfl ?_
      refine gf12_15 dX12_readNumber_34 37 rfl hk_l0 kw5_174 ?_
      refine x_istore_n dX12_readNumber_37 (Nat.le_of_ble_eq_true rfl) [(0, .ref l0), (1, .int l1), (2, .int l2), (3, .int (M l0 15))] rfl 38 rfl ?_
      refine x_aload_n dX12_readNumber_38 rfl 39 rfl ?_
      refine kX12_reads dX12_readNumber_39 42 rfl hk_l0 kw6_146 (Nat.le_of_ble_eq_true rfl) (Nat.le_of_ble_eq_true rfl) h (fun M2 h => ?_)
      refine x_iload_n dX12_readNumber_42 rfl 43 rfl ?_
      exact x_iret dX12_readNumber_43 h
    · have h := h.2 hc
      refine x_aload_n dX12_readNumber_27 rfl 28 rfl ?_
      refine x_iconst dX12_readNumber_28 kc_2 29 rfl ?_
      refine kX12_errs dX12_readNumber_29 32 rfl hk_l0 kw6_178 (Nat.le_of_ble_eq_true rfl) (Nat.le_of_ble_eq_true rfl) h (fun r4 M3 h => ?_)
      exact x_iret dX12_readNumber_32 h
  · have h := h.2 hc
    refine x_aload_n dX12_readNumber_8 rfl 9 rfl ?_
    refine x_iconst dX12_readNumber_9 kc_1 10 rfl ?_
    refine kX12_errs dX12_readNumber_10 13 rfl hk_l0 kw6_178 (Nat.le_of_ble_eq_true rfl) (Nat.le_of_ble_eq_true rfl) h (fun r6 M5 h => ?_)
    exact x_iret dX12_readNumber_13 h
theorem cX12_readNumber_ {Q : Int32 → Mem → Prop} {l0 : Nat} {l1 : Int32} {l2 : Int32} {M : Mem} (hk_l0 : SHk l0 = 12) (h : FX12_readNumber Q l0 l1 l2 M) : xM yX12_readNumber cX12_readNumber 4 (some .int) 4 [.ref l0, .int l1, .int l2] M (xQi Q) := xM_of (by decide +kernel) (Nat.le_of_ble_eq_true rfl) (eX12_readNumber hk_l0 h)
theorem kX12_readNumber {own : String} {cc : ByteArray} {nL : Nat} {rt : Option FieldType} {d pc ix : Nat} {L : List (Nat × Value)} {st : List Value} {M : Mem} {Rt : xGt → Array Value → State → Outcome → State → Prop} {Q : Int32 → Mem → Prop} {l0 : Nat} {l1 : Int32} {l2 : Int32} (hd : decode cc pc = .ok (.invokevirtual ix, 3)) (q : Nat) (hq : pc + 3 = q) (hk_l0 : SHk l0 = 12) (w1 : Cond.methodLink own ix yX12_readNumber ∈ xTs) (hr : 4 < d) (hst : (st.map fun v => v.category).sum ≤ 8) (h : FX12_readNumber Q l0 l1 l2 M) (k : ∀ (r : Int32) (N : Mem), Q r N → xX own cc nL rt d q L (.int r :: st) N Rt) : xX own cc nL rt d pc L (.int l2 :: .int l1 :: .ref l0 :: st) M Rt :=
  x_callV_i (n := 2) (As := [.int l1, .int l2]) hd q hq hk_l0 (by decide) rfl rfl w1 kw6_188 ks4_6 kw1_14 kw6_189 (by decide +kernel) rfl hr (by decide) hst _ rfl (cX12_readNumber_ hk_l0 h) k
def FX12_readMark (Q : Int32 → Mem → Prop) (l0 : Nat) (l1 : Int32) (M : Mem) : Prop :=
  FX12_isSign (fun (r1 : Bool) => ((r1 = true → FX12_reads (fun (M2 : Mem) => Q 0 M2) l0 M) ∧ (r1 = false → FX12_errs (fun (r4 : Int32) (M3 : Mem) => Q r4 M3) l0 1 M))) l0 l1 M
theorem eX12_readMark {Q : Int32 → Mem → Prop} {l0 : Nat} {l1 : Int32} {M : Mem} (hk_l0 : SHk l0 = 12) (h : FX12_readMark Q l0 l1 M) : xX RX12 cX12_readMark 2 (some .int) 4 0 [(0, .ref l0), (1, .int l1)] [] M (xQi Q) := by
  unfold FX12_readMark at h
  refine x_aload_n dX12_readMark_0 rfl 1 rfl ?_
  refine x_iload_n dX12_readMark_1 rfl 2 rfl ?_
  refine kX12_isSign dX12_readMark_2 5 rfl hk_l0 kw6_194 (Nat.le_of_ble_eq_true rfl) (Nat.le_of_ble_eq_true rfl) h (fun r1 h => ?_)
  refine x_if_ne_b dX12_readMark_5 14 8 rfl rfl (fun hc => ?_) (fun hc => ?_)
  · have h := h.1 hc
    refine x_aload_n dX12_readMark_14 rfl 15 rfl ?_
    refine kX12_reads dX12_readMark_15 18 rfl hk_l0 kw6_146 (Nat.le_of_ble_eq_true rfl) (Nat.le_of_ble_eq_true rfl) h (fun M2 h => ?_)
    refine x_iconst dX12_readMark_18 kc_0 19 rfl ?_
    exact x_iret dX12_readMark_19 h
  · have h := h.2 hc
    refine x_aload_n dX12_readMark_8 rfl 9 rfl ?_
    refine x_iconst dX12_readMark_9 kc_1 10 rfl ?_
    refine kX12_errs dX12_readMark_10 13 rfl hk_l0 kw6_178 (Nat.le_of_ble_eq_true rfl) (Nat.le_of_ble_eq_true rfl) h (fun r4 M3 h => ?_)
    exact x_iret dX12_readMark_13 h
theorem cX12_readMark_ {Q : Int32 → Mem → Prop} {l0 : Nat} {l1 : Int32} {M : Mem} (hk_l0 : SHk l0 = 12) (h : FX12_readMark Q l0 l1 M) : xM yX12_readMark cX12_readMark 2 (some .int) 4 [.ref l0, .int l1] M (xQi Q) := xM_of (by decide +kernel) (Nat.le_of_ble_eq_true rfl) (eX12_readMark hk_l0 h)
theorem kX12_readMark {own : String} {cc : ByteArray} {nL : Nat} {rt : Option FieldType} {d pc ix : Nat} {L : List (Nat × Value)} {st : List Value} {M : Mem} {Rt : xGt → Array Value → State → Outcome → State → Prop} {Q : Int32 → Mem → Prop} {l0 : Nat} {l1 : Int32} (hd : decode cc pc = .ok (.invokevirtual ix, 3)) (q : Nat) (hq : pc + 3 = q) (hk_l0 : SHk l0 = 12) (w1 : Cond.methodLink own ix yX12_readMark ∈ xTs) (hr : 4 < d) (hst : (st.map fun v => v.category).sum ≤ 8) (h : FX12_readMark Q l0 l1 M) (k : ∀ (r : Int32) (N : Mem), Q r N → xX own cc nL rt d q L (.int r :: st) N Rt) : xX own cc nL rt d pc L (.int l1 :: .ref l0 :: st) M Rt :=
  x_callV_i (n := 1) (As := [.int l1]) hd q hq hk_l0 (by decide) rfl rfl w1 kw6_192 ks4_7 kw1_14 kw6_193 (by decide +kernel) rfl hr (by decide) hst _ rfl (cX12_readMark_ hk_l0 h) k
def FX12_readTold (Q : Int32 → Mem → Prop) (l0 : Nat) (l1 : Int32) (l2 : Int32) (l3 : Int32) (M : Mem) : Prop :=
  FX12_isWord (fun (r1 : Bool) => ((r1 = true → FX12_reads (fun (M2 : Mem) => FX12_readNumber (fun (r4 : Int32) (M3 : Mem) => Q r4 M3) l0 l2 l3 M2) l0 M) ∧ (r1 = false → FX12_errs (fun (r6 : Int32) (M5 : Mem) => Q r6 M5) l0 1 M))) l0 l1 M
theorem eX12_readTold {Q : Int32 → Mem → Prop} {l0 : Nat} {l1 : Int32} {l2 : Int32} {l3 : Int32} {M : Mem} (hk_l0 : SHk l0 = 12) (h : FX12_readTold Q l0 l1 l2 l3 M) : xX RX12 cX12_readTold 4 (some .int) 5 0 [(0, .ref l0), (1, .int l1), (2, .int l2), (3, .int l3)] [] M (xQi Q) := by
  unfold FX12_readTold at h
  refine x_aload_n dX12_readTold_0 rfl 1 rfl ?_
  refine x_iload_n dX12_readTold_1 rfl 2 rfl ?_
  refine kX12_isWord dX12_readTold_2 5 rfl hk_l0 kw6_174 (Nat.le_of_ble_eq_true rfl) (Nat.le_of_ble_eq_true rfl) h (fun r1 h => ?_)
  refine x_if_ne_b dX12_readTold_5 14 8 rfl rfl (fun hc => ?_) (fun hc => ?_)
  · have h := h.1 hc
    refine x_aload_n dX12_readTold_14 rfl 15 rfl ?_
    refine kX12_reads dX12_readTold_15 18 rfl hk_l0 kw6_146 (Nat.le_of_ble_eq_true rfl) (Nat.le_of_ble_eq_true rfl) h (fun M2 h => ?_)
    refine x_aload_n dX12_readTold_18 rfl 19 rfl ?_
    refine x_iload_n dX12_readTold_19 rfl 20 rfl ?_
    refine x_iload_n dX12_readTold_20 rfl 21 rfl ?_
    refine kX12_readNumber dX12_readTold_21 24 rfl hk_l0 kw6_186 (Nat.le_of_ble_eq_true rfl) (Nat.le_of_ble_eq_true rfl) h (fun r4 M3 h => ?_)
    exact x_iret dX12_readTold_24 h
  · have h := h.2 hc
    refine x_aload_n dX12_readTold_8 rfl 9 rfl ?_
    refine x_iconst dX12_readTold_9 kc_1 10 rfl ?_
    refine kX12_errs dX12_readTold_10 13 rfl hk_l0 kw6_178 (Nat.le_of_ble_eq_true rfl) (Nat.le_of_ble_eq_true rfl) h (fun r6 M5 h => ?_)
    exact x_iret dX12_readTold_13 h
theorem cX12_readTold_ {Q : Int32 → Mem → Prop} {l0 : Nat} {l1 : Int32} {l2 : Int32} {l3 : Int32} {M : Mem} (hk_l0 : SHk l0 = 12) (h : FX12_readTold Q l0 l1 l2 l3 M) : xM yX12_readTold cX12_readTold 4 (some .int) 5 [.ref l0, .int l1, .int l2, .int l3] M (xQi Q) := xM_of (by decide +kernel) (Nat.le_of_ble_eq_true rfl) (eX12_readTold hk_l0 h)
theorem kX12_readTold {own : String} {cc : ByteArray} {nL : Nat} {rt : Option FieldType} {d pc ix : Nat} {L : List (Nat × Value)} {st : List Value} {M : Mem} {Rt : xGt → Array Value → State → Outcome → State → Prop} {Q : Int32 → Mem → Prop} {l0 : Nat} {l1 : Int32} {l2 : Int32} {l3 : Int32} (hd : decode cc pc = .ok (.invokevirtual ix, 3)) (q : Nat) (hq : pc + 3 = q) (hk_l0 : SHk l0 = 12) (w1 : Cond.methodLink own ix yX12_readTold ∈ xTs) (hr : 5 < d) (hst : (st.map fun v => v.category).sum ≤ 8) (h : FX12_readTold Q l0 l1 l2 l3 M) (k : ∀ (r : Int32) (N : Mem), Q r N → xX own cc nL rt d q L (.int r :: st) N Rt) : xX own cc nL rt d pc L (.int l3 :: .int l2 :: .int l1 :: .ref l0 :: st) M Rt :=
  x_callV_i (n := 3) (As := [.int l1, .int l2, .int l3]) hd q hq hk_l0 (by decide) rfl rfl w1 kw6_184 ks4_5 kw1_14 kw6_185 (by decide +kernel) rfl hr (by decide) hst _ rfl (cX12_readTold_ hk_l0 h) k
def lbX12_readSky_2 (Q : Int32 → Mem → Prop) (l0 : Nat) (B2 : Int32 → Mem → Prop) (l1 : Int32) (M : Mem) : Prop :=
  FX12_isWord (fun (r1 : Bool) => ((r1 = false → ((¬ (M l0 14) = 0 → FX12_errs (fun (r3 : Int32) (M2 : Mem) => Q r3 M2) l0 1 M) ∧ ((M l0 14) = 0 → Q l1 M))) ∧ (r1 = true → ((¬ l1 = 16 → FX12_readTold (fun (r5 : Int32) (M4 : Mem) => vp_in (32 + (2 * l1)) 64 ∧ ∀ M6 : Mem, M6 = xu M4 (l0 + 16) (ix (32 + (2 * l1))) r5 → vp_in (32 + (2 * l1)) 64 ∧ ((¬ (M6 (l0 + 16) (ix (32 + (2 * l1)))) = (-1) → FX12_readTold (fun (r8 : Int32) (M7 : Mem) => vp_in ((32 + (2 * l1)) + 1) 64 ∧ ∀ M9 : Mem, M9 = xu M7 (l0 + 16) (ix ((32 + (2 * l1)) + 1)) r8 → vp_in ((32 + (2 * l1)) + 1) 64 ∧ (((M9 (l0 + 16) (ix ((32 + (2 * l1)) + 1))) = (-1) → Q (-1) M9) ∧ (¬ (M9 (l0 + 16) (ix ((32 + (2 * l1)) + 1))) = (-1) → FX12_readMark (fun (r11 : Int32) (M10 : Mem) => ((¬ r11 = (-1) → B2 (l1 + 1) M10) ∧ (r11 = (-1) → Q (-1) M10))) l0 59 M9))) l0 16 0 9 M6) ∧ ((M6 (l0 + 16) (ix (32 + (2 * l1)))) = (-1) → Q (-1) M6))) l0 15 0 999 M) ∧ (l1 = 16 → FX12_errs (fun (r13 : Int32) (M12 : Mem) => Q r13 M12) l0 3 M))))) l0 15 M
def NX12_readSky_2 (Q : Int32 → Mem → Prop) (l0 : Nat) (l1 : Int32) (M : Mem) : Prop := xlp (fun (B : Int32 × Mem → Prop) a => lbX12_readSky_2 Q l0 (fun l1 M => B (l1, M)) a.1 a.2) (l1, M)
theorem nX12_readSky_2 {Q : Int32 → Mem → Prop} {l0 : Nat} {l1 : Int32} {M : Mem} (hk_l0 : SHk l0 = 12) (h : NX12_readSky_2 Q l0 l1 M) : xX RX12 cX12_readSky 3 (some .int) 6 2 [(0, .ref l0), (1, .int l1)] [] M (xQi Q) := by
  obtain ⟨n, h⟩ := h
  have hB2 : ∀ (n : Nat) (l1 : Int32) (M : Mem), xlpn (fun (B : Int32 × Mem → Prop) a => lbX12_readSky_2 Q l0 (fun l1 M => B (l1, M)) a.1 a.2) n (l1, M) → xX RX12 cX12_readSky 3 (some .int) 6 2 [(0, .ref l0), (1, .int l1)] [] M (xQi Q) := by
    intro n
    induction n with
    | zero => intro l1 M h; exact False.elim h
    | succ n ih =>
      intro l1 M h
      have hB2 := ih
      have h : lbX12_readSky_2 Q l0 (fun l1 M => xlpn (fun (B : Int32 × Mem → Prop) a => lbX12_readSky_2 Q l0 (fun l1 M => B (l1, M)) a.1 a.2) n (l1, M)) l1 M := h
      unfold lbX12_readSky_2 at h
      refine x_aload_n dX12_readSky_2 rfl 3 rfl ?_
      refine x_bipush dX12_readSky_3 kb_15 5 rfl ?_
      refine kX12_isWord dX12_readSky_5 8 rfl hk_l0 kw6_174 (Nat.le_of_ble_eq_true rfl) (Nat.le_of_ble_eq_true rfl) h (fun r1 h => ?_)
      refine x_if_eq_b dX12_readSky_8 106 11 rfl rfl (fun hc => ?_) (fun hc => ?_)
      · have h := h.1 hc
        refine x_aload_n dX12_readSky_106 rfl 107 rfl ?_
        refine gf12_14 dX12_readSky_107 110 rfl hk_l0 kw5_173 ?_
        refine x_if_ne dX12_readSky_110 117 113 rfl rfl (fun hc => ?_) (fun hc => ?_)
        · have h := h.1 hc
          refine x_aload_n dX12_readSky_117 rfl 118 rfl ?_
          refine x_iconst dX12_readSky_118 kc_1 119 rfl ?_
          refine kX12_errs dX12_readSky_119 122 rfl hk_l0 kw6_178 (Nat.le_of_ble_eq_true rfl) (Nat.le_of_ble_eq_true rfl) h (fun r3 M2 h => ?_)
          exact x_iret dX12_readSky_122 h
        · have h := h.2 hc
          refine x_iload_n dX12_readSky_113 rfl 114 rfl ?_
          refine x_goto dX12_readSky_114 122 rfl ?_
          exact x_iret dX12_readSky_122 h
      · have h := h.2 hc
        refine x_iload_n dX12_readSky_11 rfl 12 rfl ?_
        refine x_bipush dX12_readSky_12 kb_16 14 rfl ?_
        refine x_icmp_ne dX12_readSky_14 23 17 rfl rfl (fun hc => ?_) (fun hc => ?_)
        · have h := h.1 hc
          refine x_bipush dX12_readSky_23 kb_32 25 rfl ?_
          refine x_iconst dX12_readSky_25 kc_2 26 rfl ?_
          refine x_iload_n dX12_readSky_26 rfl 27 rfl ?_
          refine x_imul dX12_readSky_27 28 rfl ?_
          refine x_iadd dX12_readSky_28 29 rfl ?_
          refine x_istore_n dX12_readSky_29 (Nat.le_of_ble_eq_true rfl) [(0, .ref l0), (1, .int l1), (2, .int (32 + (2 * l1)))] rfl 30 rfl ?_
          refine x_aload_n dX12_readSky_30 rfl 31 rfl ?_
          refine gf12_34 dX12_readSky_31 34 rfl hk_l0 kw5_193 ?_
          refine x_iload_n dX12_readSky_34 rfl 35 rfl ?_
          refine x_aload_n dX12_readSky_35 rfl 36 rfl ?_
          refine x_bipush dX12_readSky_36 kb_15 38 rfl ?_
          refine x_iconst dX12_readSky_38 kc_0 39 rfl ?_
          refine x_sipush dX12_readSky_39 kh_999 42 rfl ?_
          refine kX12_readTold dX12_readSky_42 45 rfl hk_l0 kw6_182 (Nat.le_of_ble_eq_true rfl) (Nat.le_of_ble_eq_true rfl) h (fun r5 M4 h => ?_)
          obtain ⟨hin, h⟩ := h
          refine x_iastore dX12_readSky_45 (ly12_34 hk_l0) hin 46 rfl (x_mem (fun M6 hM6 => ?_))
          have h := h M6 hM6
          refine x_aload_n dX12_readSky_46 rfl 47 rfl ?_
          refine gf12_34 dX12_readSky_47 50 rfl hk_l0 kw5_193 ?_
          refine x_iload_n dX12_readSky_50 rfl 51 rfl ?_
          obtain ⟨hin, h⟩ := h
          refine x_iaload dX12_readSky_51 (ly12_34 hk_l0) hin 52 rfl ?_
          refine x_iconst dX12_readSky_52 kc_m1 53 rfl ?_
          refine x_icmp_ne dX12_readSky_53 58 56 rfl rfl (fun hc => ?_) (fun hc => ?_)
          · have h := h.1 hc
            refine x_aload_n dX12_readSky_58 rfl 59 rfl ?_
            refine gf12_34 dX12_readSky_59 62 rfl hk_l0 kw5_193 ?_
            refine x_iload_n dX12_readSky_62 rfl 63 rfl ?_
            refine x_iconst dX12_readSky_63 kc_1 64 rfl ?_
            refine x_iadd dX12_readSky_64 65 rfl ?_
            refine x_aload_n dX12_readSky_65 rfl 66 rfl ?_
            refine x_bipush dX12_readSky_66 kb_16 68 rfl ?_
            refine x_iconst dX12_readSky_68 kc_0 69 rfl ?_
            refine x_bipush dX12_readSky_69 kb_9 71 rfl ?_
            refine kX12_readTold dX12_readSky_71 74 rfl hk_l0 kw6_182 (Nat.le_of_ble_eq_true rfl) (Nat.le_of_ble_eq_true rfl) h (fun r8 M7 h => ?_)
            obtain ⟨hin, h⟩ := h
            refine x_iastore dX12_readSky_74 (ly12_34 hk_l0) hin 75 rfl (x_mem (fun M9 hM9 => ?_))
            have h := h M9 hM9
            refine x_aload_n dX12_readSky_75 rfl 76 rfl ?_
            refine gf12_34 dX12_readSky_76 79 rfl hk_l0 kw5_193 ?_
            refine x_iload_n dX12_readSky_79 rfl 80 rfl ?_
            refine x_iconst dX12_readSky_80 kc_1 81 rfl ?_
            refine x_iadd dX12_readSky_81 82 rfl ?_
            obtain ⟨hin, h⟩ := h
            refine x_iaload dX12_readSky_82 (ly12_34 hk_l0) hin 83 rfl ?_
            refine x_iconst dX12_readSky_83 kc_m1 84 rfl ?_
            refine x_icmp_eq dX12_readSky_84 97 87 rfl rfl (fun hc => ?_) (fun hc => ?_)
            · have h := h.1 hc
              refine x_iconst dX12_readSky_97 kc_m1 98 rfl ?_
              exact x_iret dX12_readSky_98 h
            · have h := h.2 hc
              refine x_aload_n dX12_readSky_87 rfl 88 rfl ?_
              refine x_bipush dX12_readSky_88 kb_59 90 rfl ?_
              refine kX12_readMark dX12_readSky_90 93 rfl hk_l0 kw6_190 (Nat.le_of_ble_eq_true rfl) (Nat.le_of_ble_eq_true rfl) h (fun r11 M10 h => ?_)
              refine x_iconst dX12_readSky_93 kc_m1 94 rfl ?_
              refine x_icmp_ne dX12_readSky_94 99 97 rfl rfl (fun hc => ?_) (fun hc => ?_)
              · have h := h.1 hc
                refine x_iload_n dX12_readSky_99 rfl 100 rfl ?_
                refine x_iconst dX12_readSky_100 kc_1 101 rfl ?_
                refine x_iadd dX12_readSky_101 102 rfl ?_
                refine x_istore_n dX12_readSky_102 (Nat.le_of_ble_eq_true rfl) [(0, .ref l0), (1, .int (l1 + 1)), (2, .int (32 + (2 * l1)))] rfl 103 rfl ?_
                refine x_goto dX12_readSky_103 2 rfl ?_
                refine x_weak [(0, .ref l0), (1, .int (l1 + 1))] [0, 1] rfl ?_
                exact hB2 _ _ h
              · have h := h.2 hc
                refine x_iconst dX12_readSky_97 kc_m1 98 rfl ?_
                exact x_iret dX12_readSky_98 h
          · have h := h.2 hc
            refine x_iconst dX12_readSky_56 kc_m1 57 rfl ?_
            exact x_iret dX12_readSky_57 h
        · have h := h.2 hc
          refine x_aload_n dX12_readSky_17 rfl 18 rfl ?_
          refine x_iconst dX12_readSky_18 kc_3 19 rfl ?_
          refine kX12_errs dX12_readSky_19 22 rfl hk_l0 kw6_178 (Nat.le_of_ble_eq_true rfl) (Nat.le_of_ble_eq_true rfl) h (fun r13 M12 h => ?_)
          exact x_iret dX12_readSky_22 h
  exact hB2 n l1 M h
def FX12_readSky (Q : Int32 → Mem → Prop) (l0 : Nat) (M : Mem) : Prop :=
  NX12_readSky_2 Q l0 0 M
theorem eX12_readSky {Q : Int32 → Mem → Prop} {l0 : Nat} {M : Mem} (hk_l0 : SHk l0 = 12) (h : FX12_readSky Q l0 M) : xX RX12 cX12_readSky 3 (some .int) 6 0 [(0, .ref l0)] [] M (xQi Q) := by
  unfold FX12_readSky at h
  refine x_iconst dX12_readSky_0 kc_0 1 rfl ?_
  refine x_istore_n dX12_readSky_1 (Nat.le_of_ble_eq_true rfl) [(0, .ref l0), (1, .int 0)] rfl 2 rfl ?_
  exact nX12_readSky_2 hk_l0 h
theorem cX12_readSky_ {Q : Int32 → Mem → Prop} {l0 : Nat} {M : Mem} (hk_l0 : SHk l0 = 12) (h : FX12_readSky Q l0 M) : xM yX12_readSky cX12_readSky 3 (some .int) 6 [.ref l0] M (xQi Q) := xM_of (by decide +kernel) (Nat.le_of_ble_eq_true rfl) (eX12_readSky hk_l0 h)
theorem kX12_readSky {own : String} {cc : ByteArray} {nL : Nat} {rt : Option FieldType} {d pc ix : Nat} {L : List (Nat × Value)} {st : List Value} {M : Mem} {Rt : xGt → Array Value → State → Outcome → State → Prop} {Q : Int32 → Mem → Prop} {l0 : Nat} (hd : decode cc pc = .ok (.invokevirtual ix, 3)) (q : Nat) (hq : pc + 3 = q) (hk_l0 : SHk l0 = 12) (w1 : Cond.methodLink own ix yX12_readSky ∈ xTs) (hr : 6 < d) (hst : (st.map fun v => v.category).sum ≤ 8) (h : FX12_readSky Q l0 M) (k : ∀ (r : Int32) (N : Mem), Q r N → xX own cc nL rt d q L (.int r :: st) N Rt) : xX own cc nL rt d pc L (.ref l0 :: st) M Rt :=
  x_callV_i (n := 0) (As := []) hd q hq hk_l0 (by decide) rfl rfl w1 kw6_172 ks4_2 kw1_14 kw6_173 (by decide +kernel) rfl hr (by decide) hst _ rfl (cX12_readSky_ hk_l0 h) k
def FX12_mostFor (Q : Int32 → Prop) (l0 : Nat) (l1 : Int32) (M : Mem) : Prop :=
  ((¬ l1 = 0 → ((¬ l1 = 1 → ((¬ l1 = 3 → Q ((M l0 7) - 1)) ∧ (l1 = 3 → Q ((M l0 6) - 1)))) ∧ (l1 = 1 → Q 99))) ∧ (l1 = 0 → Q 999))
theorem eX12_mostFor {Q : Int32 → Prop} {l0 : Nat} {l1 : Int32} {M : Mem} (hk_l0 : SHk l0 = 12) (h : FX12_mostFor Q l0 l1 M) : xX RX12 cX12_mostFor 2 (some .int) 1 0 [(0, .ref l0), (1, .int l1)] [] M (xQi (xP M Q)) := by
  unfold FX12_mostFor at h
  refine x_iload_n dX12_mostFor_0 rfl 1 rfl ?_
  refine x_if_ne dX12_mostFor_1 8 4 rfl rfl (fun hc => ?_) (fun hc => ?_)
  · have h := h.1 hc
    refine x_iload_n dX12_mostFor_8 rfl 9 rfl ?_
    refine x_iconst dX12_mostFor_9 kc_1 10 rfl ?_
    refine x_icmp_ne dX12_mostFor_10 16 13 rfl rfl (fun hc => ?_) (fun hc => ?_)
    · have h := h.1 hc
      refine x_iload_n dX12_mostFor_16 rfl 17 rfl ?_
      refine x_iconst dX12_mostFor_17 kc_3 18 rfl ?_
      refine x_icmp_ne dX12_mostFor_18 30 21 rfl rfl (fun hc => ?_) (fun hc => ?_)
      · have h := h.1 hc
        refine x_aload_n dX12_mostFor_30 rfl 31 rfl ?_
        refine gf12_7 dX12_mostFor_31 34 rfl hk_l0 kw5_166 ?_
        refine x_iconst dX12_mostFor_34 kc_1 35 rfl ?_
        refine x_isub dX12_mostFor_35 36 rfl ?_
        exact x_iret dX12_mostFor_36 ⟨rfl, h⟩
      · have h := h.2 hc
        refine x_aload_n dX12_mostFor_21 rfl 22 rfl ?_
        refine gf12_6 dX12_mostFor_22 25 rfl hk_l0 kw5_165 ?_
        refine x_iconst dX12_mostFor_25 kc_1 26 rfl ?_
        refine x_isub dX12_mostFor_26 27 rfl ?_
        refine x_goto dX12_mostFor_27 36 rfl ?_
        exact x_iret dX12_mostFor_36 ⟨rfl, h⟩
    · have h := h.2 hc
      refine x_bipush dX12_mostFor_13 kb_99 15 rfl ?_
      exact x_iret dX12_mostFor_15 ⟨rfl, h⟩
  · have h := h.2 hc
    refine x_sipush dX12_mostFor_4 kh_999 7 rfl ?_
    exact x_iret dX12_mostFor_7 ⟨rfl, h⟩
theorem cX12_mostFor_ {Q : Int32 → Prop} {l0 : Nat} {l1 : Int32} {M : Mem} (hk_l0 : SHk l0 = 12) (h : FX12_mostFor Q l0 l1 M) : xM yX12_mostFor cX12_mostFor 2 (some .int) 1 [.ref l0, .int l1] M (xQi (xP M Q)) := xM_of (by decide +kernel) (Nat.le_of_ble_eq_true rfl) (eX12_mostFor hk_l0 h)
theorem kX12_mostFor {own : String} {cc : ByteArray} {nL : Nat} {rt : Option FieldType} {d pc ix : Nat} {L : List (Nat × Value)} {st : List Value} {M : Mem} {Rt : xGt → Array Value → State → Outcome → State → Prop} {Q : Int32 → Prop} {l0 : Nat} {l1 : Int32} (hd : decode cc pc = .ok (.invokevirtual ix, 3)) (q : Nat) (hq : pc + 3 = q) (hk_l0 : SHk l0 = 12) (w1 : Cond.methodLink own ix yX12_mostFor ∈ xTs) (hr : 1 < d) (hst : (st.map fun v => v.category).sum ≤ 8) (h : FX12_mostFor Q l0 l1 M) (k : ∀ (r : Int32), Q r → xX own cc nL rt d q L (.int r :: st) M Rt) : xX own cc nL rt d pc L (.int l1 :: .ref l0 :: st) M Rt :=
  x_callV_i (n := 1) (As := [.int l1]) hd q hq hk_l0 (by decide) rfl rfl w1 kw6_208 ks4_11 kw1_14 kw6_209 (by decide +kernel) rfl hr (by decide) hst _ rfl (cX12_mostFor_ hk_l0 h) (fun r N hN => by obtain ⟨rfl, hN⟩ := hN; exact k r hN)
def NX12_readDeed_51 (Q : Int32 → Mem → Prop) (l0 : Nat) (M : Mem) : Prop :=
  FX12_errs (fun (r2 : Int32) (M1 : Mem) => Q r2 M1) l0 1 M
theorem nX12_readDeed_51 {Q : Int32 → Mem → Prop} {l0 : Nat} {M : Mem} (hk_l0 : SHk l0 = 12) (h : NX12_readDeed_51 Q l0 M) : xX RX12 cX12_readDeed 3 (some .int) 6 51 [(0, .ref l0)] [] M (xQi Q) := by
  unfold NX12_readDeed_51 at h
  refine x_aload_n dX12_readDeed_51 rfl 52 rfl ?_
  refine x_iconst dX12_readDeed_52 kc_1 53 rfl ?_
  refine kX12_errs dX12_readDeed_53 56 rfl hk_l0 kw6_178 (Nat.le_of_ble_eq_true rfl) (Nat.le_of_ble_eq_true rfl) h (fun r2 M1 h => ?_)
  exact x_iret dX12_readDeed_56 h
def NX12_readDeed_133 (Q : Int32 → Mem → Prop) (l0 : Nat) (l1 : Int32) (s0 : Nat) (s1 : Int32) (s2 : Int32) (M : Mem) : Prop :=
  vp_in s1 (SHn s0) ∧ ∀ M3 : Mem, M3 = xu M s0 (ix s1) s2 → vp_in (l1 + 3) 128 ∧ ((¬ (M3 (l0 + 17) (ix (l1 + 3))) = (-1) → FX12_readMark (fun (r5 : Int32) (M4 : Mem) => Q r5 M4) l0 59 M3) ∧ ((M3 (l0 + 17) (ix (l1 + 3))) = (-1) → Q (-1) M3))
theorem nX12_readDeed_133 {Q : Int32 → Mem → Prop} {l0 : Nat} {l1 : Int32} {s0 : Nat} {s1 : Int32} {s2 : Int32} {M : Mem} (hk_l0 : SHk l0 = 12) (hk_s0 : SHk s0 = 13) (h : NX12_readDeed_133 Q l0 l1 s0 s1 s2 M) : xX RX12 cX12_readDeed 3 (some .int) 6 133 [(0, .ref l0), (1, .int l1)] [.int s2, .int s1, .ref s0] M (xQi Q) := by
  unfold NX12_readDeed_133 at h
  obtain ⟨hin, h⟩ := h
  refine x_iastore dX12_readDeed_133 ⟨hk_s0, rfl⟩ hin 134 rfl (x_mem (fun M3 hM3 => ?_))
  have h := h M3 hM3
  refine x_aload_n dX12_readDeed_134 rfl 135 rfl ?_
  refine gf12_36 dX12_readDeed_135 138 rfl hk_l0 kw5_195 ?_
  refine x_iload_n dX12_readDeed_138 rfl 139 rfl ?_
  refine x_iconst dX12_readDeed_139 kc_3 140 rfl ?_
  refine x_iadd dX12_readDeed_140 141 rfl ?_
  obtain ⟨hin, h⟩ := h
  refine x_iaload dX12_readDeed_141 (ly12_36 hk_l0) hin 142 rfl ?_
  refine x_iconst dX12_readDeed_142 kc_m1 143 rfl ?_
  refine x_icmp_ne dX12_readDeed_143 150 146 rfl rfl (fun hc => ?_) (fun hc => ?_)
  · have h := h.1 hc
    refine x_aload_n dX12_readDeed_150 rfl 151 rfl ?_
    refine x_bipush dX12_readDeed_151 kb_59 153 rfl ?_
    refine kX12_readMark dX12_readDeed_153 156 rfl hk_l0 kw6_190 (Nat.le_of_ble_eq_true rfl) (Nat.le_of_ble_eq_true rfl) h (fun r5 M4 h => ?_)
    exact x_iret dX12_readDeed_156 h
  · have h := h.2 hc
    refine x_iconst dX12_readDeed_146 kc_m1 147 rfl ?_
    refine x_goto dX12_readDeed_147 156 rfl ?_
    exact x_iret dX12_readDeed_156 h
def FX12_readDeed (Q : Int32 → Mem → Prop) (l0 : Nat) (l1 : Int32) (M : Mem) : Prop :=
  FX12_readTold (fun (r7 : Int32) (M6 : Mem) => vp_in l1 128 ∧ ∀ M8 : Mem, M8 = xu M6 (l0 + 17) (ix l1) r7 → vp_in l1 128 ∧ ((¬ (M8 (l0 + 17) (ix l1)) = (-1) → ((¬ (M8 l0 14) = 2 → NX12_readDeed_51 Q l0 M8) ∧ ((M8 l0 14) = 2 → FX12_isIn (fun (r9 : Bool) => ((r9 = true → FX12_reads (fun (M10 : Mem) => vp_in (l1 + 1) 128 ∧ ∀ M11 : Mem, M11 = xu M10 (l0 + 17) (ix (l1 + 1)) ((M8 l0 15) - 18) → FX12_mostFor (fun (r12 : Int32) => FX12_readNumber (fun (r14 : Int32) (M13 : Mem) => vp_in (l1 + 2) 128 ∧ ∀ M15 : Mem, M15 = xu M13 (l0 + 17) (ix (l1 + 2)) r14 → vp_in (l1 + 2) 128 ∧ ((¬ (M15 (l0 + 17) (ix (l1 + 2))) = (-1) → ((¬ ((M8 l0 15) - 18) = 3 → NX12_readDeed_133 Q l0 l1 (l0 + 17) (l1 + 3) 0 M15) ∧ (((M8 l0 15) - 18) = 3 → FX12_readNumber (fun (r17 : Int32) (M16 : Mem) => NX12_readDeed_133 Q l0 l1 (l0 + 17) (l1 + 3) r17 M16) l0 1 99 M15))) ∧ ((M15 (l0 + 17) (ix (l1 + 2))) = (-1) → Q (-1) M15))) l0 0 r12 M11) l0 ((M8 l0 15) - 18) M11) l0 M8) ∧ (r9 = false → NX12_readDeed_51 Q l0 M8))) l0 (M8 l0 15) 18 22 M8))) ∧ ((M8 (l0 + 17) (ix l1)) = (-1) → Q (-1) M8))) l0 17 0 999 M
theorem eX12_readDeed {Q : Int32 → Mem → Prop} {l0 : Nat} {l1 : Int32} {M : Mem} (hk_l0 : SHk l0 = 12) (h : FX12_readDeed Q l0 l1 M) : xX RX12 cX12_readDeed 3 (some .int) 6 0 [(0, .ref l0), (1, .int l1)] [] M (xQi Q) := by
  unfold FX12_readDeed at h
  refine x_aload_n dX12_readDeed_0 rfl 1 rfl ?_
  refine gf12_36 dX12_readDeed_1 4 rfl hk_l0 kw5_195 ?_
  refine x_iload_n dX12_readDeed_4 rfl 5 rfl ?_
  refine x_aload_n dX12_readDeed_5 rfl 6 rfl ?_
  refine x_bipush dX12_readDeed_6 kb_17 8 rfl ?_
  refine x_iconst dX12_readDeed_8 kc_0 9 rfl ?_
  refine x_sipush dX12_readDeed_9 kh_999 12 rfl ?_
  refine kX12_readTold dX12_readDeed_12 15 rfl hk_l0 kw6_182 (Nat.le_of_ble_eq_true rfl) (Nat.le_of_ble_eq_true rfl) h (fun r7 M6 h => ?_)
  obtain ⟨hin, h⟩ := h
  refine x_iastore dX12_readDeed_15 (ly12_36 hk_l0) hin 16 rfl (x_mem (fun M8 hM8 => ?_))
  have h := h M8 hM8
  refine x_aload_n dX12_readDeed_16 rfl 17 rfl ?_
  refine gf12_36 dX12_readDeed_17 20 rfl hk_l0 kw5_195 ?_
  refine x_iload_n dX12_readDeed_20 rfl 21 rfl ?_
  obtain ⟨hin, h⟩ := h
  refine x_iaload dX12_readDeed_21 (ly12_36 hk_l0) hin 22 rfl ?_
  refine x_iconst dX12_readDeed_22 kc_m1 23 rfl ?_
  refine x_icmp_ne dX12_readDeed_23 28 26 rfl rfl (fun hc => ?_) (fun hc => ?_)
  · have h := h.1 hc
    refine x_aload_n dX12_readDeed_28 rfl 29 rfl ?_
    refine gf12_14 dX12_readDeed_29 32 rfl hk_l0 kw5_173 ?_
    refine x_iconst dX12_readDeed_32 kc_2 33 rfl ?_
    refine x_icmp_ne dX12_readDeed_33 51 36 rfl rfl (fun hc => ?_) (fun hc => ?_)
    · have h := h.1 hc
      refine x_weak [(0, .ref l0)] [0] rfl ?_
      exact nX12_readDeed_51 hk_l0 h
    · have h := h.2 hc
      refine x_aload_n dX12_readDeed_36 rfl 37 rfl ?_
      refine x_aload_n dX12_readDeed_37 rfl 38 rfl ?_
      refine gf12_15 dX12_readDeed_38 41 rfl hk_l0 kw5_174 ?_
      refine x_bipush dX12_readDeed_41 kb_18 43 rfl ?_
      refine x_bipush dX12_readDeed_43 kb_22 45 rfl ?_
      refine kX12_isIn dX12_readDeed_45 48 rfl hk_l0 kw6_82 (Nat.le_of_ble_eq_true rfl) (Nat.le_of_ble_eq_true rfl) h (fun r9 h => ?_)
      refine x_if_ne_b dX12_readDeed_48 57 51 rfl rfl (fun hc => ?_) (fun hc => ?_)
      · have h := h.1 hc
        refine x_aload_n dX12_readDeed_57 rfl 58 rfl ?_
        refine gf12_15 dX12_readDeed_58 61 rfl hk_l0 kw5_174 ?_
        refine x_bipush dX12_readDeed_61 kb_18 63 rfl ?_
        refine x_isub dX12_readDeed_63 64 rfl ?_
        refine x_istore_n dX12_readDeed_64 (Nat.le_of_ble_eq_true rfl) [(0, .ref l0), (1, .int l1), (2, .int ((M8 l0 15) - 18))] rfl 65 rfl ?_
        refine x_aload_n dX12_readDeed_65 rfl 66 rfl ?_
        refine kX12_reads dX12_readDeed_66 69 rfl hk_l0 kw6_146 (Nat.le_of_ble_eq_true rfl) (Nat.le_of_ble_eq_true rfl) h (fun M10 h => ?_)
        refine x_aload_n dX12_readDeed_69 rfl 70 rfl ?_
        refine gf12_36 dX12_readDeed_70 73 rfl hk_l0 kw5_195 ?_
        refine x_iload_n dX12_readDeed_73 rfl 74 rfl ?_
        refine x_iconst dX12_readDeed_74 kc_1 75 rfl ?_
        refine x_iadd dX12_readDeed_75 76 rfl ?_
        refine x_iload_n dX12_readDeed_76 rfl 77 rfl ?_
        obtain ⟨hin, h⟩ := h
        refine x_iastore dX12_readDeed_77 (ly12_36 hk_l0) hin 78 rfl (x_mem (fun M11 hM11 => ?_))
        have h := h M11 hM11
        refine x_aload_n dX12_readDeed_78 rfl 79 rfl ?_
        refine gf12_36 dX12_readDeed_79 82 rfl hk_l0 kw5_195 ?_
        refine x_iload_n dX12_readDeed_82 rfl 83 rfl ?_
        refine x_iconst dX12_readDeed_83 kc_2 84 rfl ?_
        refine x_iadd dX12_readDeed_84 85 rfl ?_
        refine x_aload_n dX12_readDeed_85 rfl 86 rfl ?_
        refine x_iconst dX12_readDeed_86 kc_0 87 rfl ?_
        refine x_aload_n dX12_readDeed_87 rfl 88 rfl ?_
        refine x_iload_n dX12_readDeed_88 rfl 89 rfl ?_
        refine kX12_mostFor dX12_readDeed_89 92 rfl hk_l0 kw6_206 (Nat.le_of_ble_eq_true rfl) (Nat.le_of_ble_eq_true rfl) h (fun r12 h => ?_)
        refine kX12_readNumber dX12_readDeed_92 95 rfl hk_l0 kw6_186 (Nat.le_of_ble_eq_true rfl) (Nat.le_of_ble_eq_true rfl) h (fun r14 M13 h => ?_)
        obtain ⟨hin, h⟩ := h
        refine x_iastore dX12_readDeed_95 (ly12_36 hk_l0) hin 96 rfl (x_mem (fun M15 hM15 => ?_))
        have h := h M15 hM15
        refine x_aload_n dX12_readDeed_96 rfl 97 rfl ?_
        refine gf12_36 dX12_readDeed_97 100 rfl hk_l0 kw5_195 ?_
        refine x_iload_n dX12_readDeed_100 rfl 101 rfl ?_
        refine x_iconst dX12_readDeed_101 kc_2 102 rfl ?_
        refine x_iadd dX12_readDeed_102 103 rfl ?_
        obtain ⟨hin, h⟩ := h
        refine x_iaload dX12_readDeed_103 (ly12_36 hk_l0) hin 104 rfl ?_
        refine x_iconst dX12_readDeed_104 kc_m1 105 rfl ?_
        refine x_icmp_ne dX12_readDeed_105 110 108 rfl rfl (fun hc => ?_) (fun hc => ?_)
        · have h := h.1 hc
          refine x_aload_n dX12_readDeed_110 rfl 111 rfl ?_
          refine gf12_36 dX12_readDeed_111 114 rfl hk_l0 kw5_195 ?_
          refine x_iload_n dX12_readDeed_114 rfl 115 rfl ?_
          refine x_iconst dX12_readDeed_115 kc_3 116 rfl ?_
          refine x_iadd dX12_readDeed_116 117 rfl ?_
          refine x_iload_n dX12_readDeed_117 rfl 118 rfl ?_
          refine x_iconst dX12_readDeed_118 kc_3 119 rfl ?_
          refine x_icmp_ne dX12_readDeed_119 132 122 rfl rfl (fun hc => ?_) (fun hc => ?_)
          · have h := h.1 hc
            refine x_iconst dX12_readDeed_132 kc_0 133 rfl ?_
            refine x_weak [(0, .ref l0), (1, .int l1)] [0, 1] rfl ?_
            exact nX12_readDeed_133 hk_l0 (ly12_36 hk_l0).1 h
          · have h := h.2 hc
            refine x_aload_n dX12_readDeed_122 rfl 123 rfl ?_
            refine x_iconst dX12_readDeed_123 kc_1 124 rfl ?_
            refine x_bipush dX12_readDeed_124 kb_99 126 rfl ?_
            refine kX12_readNumber dX12_readDeed_126 129 rfl hk_l0 kw6_186 (Nat.le_of_ble_eq_true rfl) (Nat.le_of_ble_eq_true rfl) h (fun r17 M16 h => ?_)
            refine x_goto dX12_readDeed_129 133 rfl ?_
            refine x_weak [(0, .ref l0), (1, .int l1)] [0, 1] rfl ?_
            exact nX12_readDeed_133 hk_l0 (ly12_36 hk_l0).1 h
        · have h := h.2 hc
          refine x_iconst dX12_readDeed_108 kc_m1 109 rfl ?_
          exact x_iret dX12_readDeed_109 h
      · have h := h.2 hc
        refine x_weak [(0, .ref l0)] [0] rfl ?_
        exact nX12_readDeed_51 hk_l0 h
  · have h := h.2 hc
    refine x_iconst dX12_readDeed_26 kc_m1 27 rfl ?_
    exact x_iret dX12_readDeed_27 h
theorem cX12_readDeed_ {Q : Int32 → Mem → Prop} {l0 : Nat} {l1 : Int32} {M : Mem} (hk_l0 : SHk l0 = 12) (h : FX12_readDeed Q l0 l1 M) : xM yX12_readDeed cX12_readDeed 3 (some .int) 6 [.ref l0, .int l1] M (xQi Q) := xM_of (by decide +kernel) (Nat.le_of_ble_eq_true rfl) (eX12_readDeed hk_l0 h)
theorem kX12_readDeed {own : String} {cc : ByteArray} {nL : Nat} {rt : Option FieldType} {d pc ix : Nat} {L : List (Nat × Value)} {st : List Value} {M : Mem} {Rt : xGt → Array Value → State → Outcome → State → Prop} {Q : Int32 → Mem → Prop} {l0 : Nat} {l1 : Int32} (hd : decode cc pc = .ok (.invokevirtual ix, 3)) (q : Nat) (hq : pc + 3 = q) (hk_l0 : SHk l0 = 12) (w1 : Cond.methodLink own ix yX12_readDeed ∈ xTs) (hr : 6 < d) (hst : (st.map fun v => v.category).sum ≤ 8) (h : FX12_readDeed Q l0 l1 M) (k : ∀ (r : Int32) (N : Mem), Q r N → xX own cc nL rt d q L (.int r :: st) N Rt) : xX own cc nL rt d pc L (.int l1 :: .ref l0 :: st) M Rt :=
  x_callV_i (n := 1) (As := [.int l1]) hd q hq hk_l0 (by decide) rfl rfl w1 kw6_204 ks4_10 kw1_14 kw6_205 (by decide +kernel) rfl hr (by decide) hst _ rfl (cX12_readDeed_ hk_l0 h) k
def lbX12_readPlan_2 (Q : Int32 → Mem → Prop) (l0 : Nat) (B2 : Int32 → Mem → Prop) (l1 : Int32) (M : Mem) : Prop :=
  FX12_isWord (fun (r1 : Bool) => ((r1 = false → ((¬ (M l0 14) = 0 → FX12_errs (fun (r3 : Int32) (M2 : Mem) => Q r3 M2) l0 1 M) ∧ ((M l0 14) = 0 → Q l1 M))) ∧ (r1 = true → ((¬ l1 = 16 → FX12_readDeed (fun (r5 : Int32) (M4 : Mem) => ((¬ r5 = (-1) → B2 (l1 + 1) M4) ∧ (r5 = (-1) → Q (-1) M4))) l0 (64 + (4 * l1)) M) ∧ (l1 = 16 → FX12_errs (fun (r7 : Int32) (M6 : Mem) => Q r7 M6) l0 3 M))))) l0 17 M
def NX12_readPlan_2 (Q : Int32 → Mem → Prop) (l0 : Nat) (l1 : Int32) (M : Mem) : Prop := xlp (fun (B : Int32 × Mem → Prop) a => lbX12_readPlan_2 Q l0 (fun l1 M => B (l1, M)) a.1 a.2) (l1, M)
theorem nX12_readPlan_2 {Q : Int32 → Mem → Prop} {l0 : Nat} {l1 : Int32} {M : Mem} (hk_l0 : SHk l0 = 12) (h : NX12_readPlan_2 Q l0 l1 M) : xX RX12 cX12_readPlan 2 (some .int) 7 2 [(0, .ref l0), (1, .int l1)] [] M (xQi Q) := by
  obtain ⟨n, h⟩ := h
  have hB2 : ∀ (n : Nat) (l1 : Int32) (M : Mem), xlpn (fun (B : Int32 × Mem → Prop) a => lbX12_readPlan_2 Q l0 (fun l1 M => B (l1, M)) a.1 a.2) n (l1, M) → xX RX12 cX12_readPlan 2 (some .int) 7 2 [(0, .ref l0), (1, .int l1)] [] M (xQi Q) := by
    intro n
    induction n with
    | zero => intro l1 M h; exact False.elim h
    | succ n ih =>
      intro l1 M h
      have hB2 := ih
      have h : lbX12_readPlan_2 Q l0 (fun l1 M => xlpn (fun (B : Int32 × Mem → Prop) a => lbX12_readPlan_2 Q l0 (fun l1 M => B (l1, M)) a.1 a.2) n (l1, M)) l1 M := h
      unfold lbX12_readPlan_2 at h
      refine x_aload_n dX12_readPlan_2 rfl 3 rfl ?_
      refine x_bipush dX12_readPlan_3 kb_17 5 rfl ?_
      refine kX12_isWord dX12_readPlan_5 8 rfl hk_l0 kw6_174 (Nat.le_of_ble_eq_true rfl) (Nat.le_of_ble_eq_true rfl) h (fun r1 h => ?_)
      refine x_if_eq_b dX12_readPlan_8 46 11 rfl rfl (fun hc => ?_) (fun hc => ?_)
      · have h := h.1 hc
        refine x_aload_n dX12_readPlan_46 rfl 47 rfl ?_
        refine gf12_14 dX12_readPlan_47 50 rfl hk_l0 kw5_173 ?_
        refine x_if_ne dX12_readPlan_50 57 53 rfl rfl (fun hc => ?_) (fun hc => ?_)
        · have h := h.1 hc
          refine x_aload_n dX12_readPlan_57 rfl 58 rfl ?_
          refine x_iconst dX12_readPlan_58 kc_1 59 rfl ?_
          refine kX12_errs dX12_readPlan_59 62 rfl hk_l0 kw6_178 (Nat.le_of_ble_eq_true rfl) (Nat.le_of_ble_eq_true rfl) h (fun r3 M2 h => ?_)
          exact x_iret dX12_readPlan_62 h
        · have h := h.2 hc
          refine x_iload_n dX12_readPlan_53 rfl 54 rfl ?_
          refine x_goto dX12_readPlan_54 62 rfl ?_
          exact x_iret dX12_readPlan_62 h
      · have h := h.2 hc
        refine x_iload_n dX12_readPlan_11 rfl 12 rfl ?_
        refine x_bipush dX12_readPlan_12 kb_16 14 rfl ?_
        refine x_icmp_ne dX12_readPlan_14 23 17 rfl rfl (fun hc => ?_) (fun hc => ?_)
        · have h := h.1 hc
          refine x_aload_n dX12_readPlan_23 rfl 24 rfl ?_
          refine x_bipush dX12_readPlan_24 kb_64 26 rfl ?_
          refine x_iconst dX12_readPlan_26 kc_4 27 rfl ?_
          refine x_iload_n dX12_readPlan_27 rfl 28 rfl ?_
          refine x_imul dX12_readPlan_28 29 rfl ?_
          refine x_iadd dX12_readPlan_29 30 rfl ?_
          refine kX12_readDeed dX12_readPlan_30 33 rfl hk_l0 kw6_202 (Nat.le_of_ble_eq_true rfl) (Nat.le_of_ble_eq_true rfl) h (fun r5 M4 h => ?_)
          refine x_iconst dX12_readPlan_33 kc_m1 34 rfl ?_
          refine x_icmp_ne dX12_readPlan_34 39 37 rfl rfl (fun hc => ?_) (fun hc => ?_)
          · have h := h.1 hc
            refine x_iload_n dX12_readPlan_39 rfl 40 rfl ?_
            refine x_iconst dX12_readPlan_40 kc_1 41 rfl ?_
            refine x_iadd dX12_readPlan_41 42 rfl ?_
            refine x_istore_n dX12_readPlan_42 (Nat.le_of_ble_eq_true rfl) [(0, .ref l0), (1, .int (l1 + 1))] rfl 43 rfl ?_
            refine x_goto dX12_readPlan_43 2 rfl ?_
            exact hB2 _ _ h
          · have h := h.2 hc
            refine x_iconst dX12_readPlan_37 kc_m1 38 rfl ?_
            exact x_iret dX12_readPlan_38 h
        · have h := h.2 hc
          refine x_aload_n dX12_readPlan_17 rfl 18 rfl ?_
          refine x_iconst dX12_readPlan_18 kc_3 19 rfl ?_
          refine kX12_errs dX12_readPlan_19 22 rfl hk_l0 kw6_178 (Nat.le_of_ble_eq_true rfl) (Nat.le_of_ble_eq_true rfl) h (fun r7 M6 h => ?_)
          exact x_iret dX12_readPlan_22 h
  exact hB2 n l1 M h
def FX12_readPlan (Q : Int32 → Mem → Prop) (l0 : Nat) (M : Mem) : Prop :=
  NX12_readPlan_2 Q l0 0 M
theorem eX12_readPlan {Q : Int32 → Mem → Prop} {l0 : Nat} {M : Mem} (hk_l0 : SHk l0 = 12) (h : FX12_readPlan Q l0 M) : xX RX12 cX12_readPlan 2 (some .int) 7 0 [(0, .ref l0)] [] M (xQi Q) := by
  unfold FX12_readPlan at h
  refine x_iconst dX12_readPlan_0 kc_0 1 rfl ?_
  refine x_istore_n dX12_readPlan_1 (Nat.le_of_ble_eq_true rfl) [(0, .ref l0), (1, .int 0)] rfl 2 rfl ?_
  exact nX12_readPlan_2 hk_l0 h
theorem cX12_readPlan_ {Q : Int32 → Mem → Prop} {l0 : Nat} {M : Mem} (hk_l0 : SHk l0 = 12) (h : FX12_readPlan Q l0 M) : xM yX12_readPlan cX12_readPlan 2 (some .int) 7 [.ref l0] M (xQi Q) := xM_of (by decide +kernel) (Nat.le_of_ble_eq_true rfl) (eX12_readPlan hk_l0 h)
theorem kX12_readPlan {own : String} {cc : ByteArray} {nL : Nat} {rt : Option FieldType} {d pc ix : Nat} {L : List (Nat × Value)} {st : List Value} {M : Mem} {Rt : xGt → Array Value → State → Outcome → State → Prop} {Q : Int32 → Mem → Prop} {l0 : Nat} (hd : decode cc pc = .ok (.invokevirtual ix, 3)) (q : Nat) (hq : pc + 3 = q) (hk_l0 : SHk l0 = 12) (w1 : Cond.methodLink own ix yX12_readPlan ∈ xTs) (hr : 7 < d) (hst : (st.map fun v => v.category).sum ≤ 8) (h : FX12_readPlan Q l0 M) (k : ∀ (r : Int32) (N : Mem), Q r N → xX own cc nL rt d q L (.int r :: st) N Rt) : xX own cc nL rt d pc L (.ref l0 :: st) M Rt :=
  x_callV_i (n := 0) (As := []) hd q hq hk_l0 (by decide) rfl rfl w1 kw6_200 ks4_9 kw1_14 kw6_201 (by decide +kernel) rfl hr (by decide) hst _ rfl (cX12_readPlan_ hk_l0 h) k
def lbX12_readTenet_4 (Q : Int32 → Mem → Prop) (l0 : Nat) (l1 : Int32) (B4 : Int32 → Int32 → Mem → Prop) (l2 : Int32) (l3 : Int32) (M : Mem) : Prop :=
  ((l3 = 0 → vp_in l1 64 ∧ ∀ M1 : Mem, M1 = xu M (l0 + 18) (ix l1) l2 → FX12_readTold (fun (r3 : Int32) (M2 : Mem) => vp_in (l1 + 1) 64 ∧ ∀ M4 : Mem, M4 = xu M2 (l0 + 18) (ix (l1 + 1)) r3 → vp_in (l1 + 1) 64 ∧ ((¬ (M4 (l0 + 18) (ix (l1 + 1))) = (-1) → FX12_readMark (fun (r6 : Int32) (M5 : Mem) => Q r6 M5) l0 59 M4) ∧ ((M4 (l0 + 18) (ix (l1 + 1))) = (-1) → Q (-1) M4))) l0 23 0 15 M1) ∧ (¬ l3 = 0 → FX12_readNumber (fun (r8 : Int32) (M7 : Mem) => ((¬ r8 = (-1) → ∀ y9 : Int32, y9 = l2 ||| ((1 : Int32) <<< (r8 &&& 31)) → FX12_isWord (fun (r10 : Bool) => (((bI r10) = 0 → B4 y9 (bI r10) M7) ∧ (¬ (bI r10) = 0 → FX12_reads (fun (M11 : Mem) => B4 y9 (bI r10) M11) l0 M7))) l0 5 M7) ∧ (r8 = (-1) → Q (-1) M7))) l0 0 15 M))
def NX12_readTenet_4 (Q : Int32 → Mem → Prop) (l0 : Nat) (l1 : Int32) (l2 : Int32) (l3 : Int32) (M : Mem) : Prop := xlp (fun (B : Int32 × Int32 × Mem → Prop) a => lbX12_readTenet_4 Q l0 l1 (fun l2 l3 M => B (l2, l3, M)) a.1 a.2.1 a.2.2) (l2, l3, M)
theorem nX12_readTenet_4 {Q : Int32 → Mem → Prop} {l0 : Nat} {l1 : Int32} {l2 : Int32} {l3 : Int32} {M : Mem} (hk_l0 : SHk l0 = 12) (h : NX12_readTenet_4 Q l0 l1 l2 l3 M) : xX RX12 cX12_readTenet 5 (some .int) 6 4 [(0, .ref l0), (1, .int l1), (2, .int l2), (3, .int l3)] [] M (xQi Q) := by
  obtain ⟨n, h⟩ := h
  have hB4 : ∀ (n : Nat) (l2 : Int32) (l3 : Int32) (M : Mem), xlpn (fun (B : Int32 × Int32 × Mem → Prop) a => lbX12_readTenet_4 Q l0 l1 (fun l2 l3 M => B (l2, l3, M)) a.1 a.2.1 a.2.2) n (l2, l3, M) → xX RX12 cX12_readTenet 5 (some .int) 6 4 [(0, .ref l0), (1, .int l1), (2, .int l2), (3, .int l3)] [] M (xQi Q) := by
    intro n
    induction n with
    | zero => intro l2 l3 M h; exact False.elim h
    | succ n ih =>
      intro l2 l3 M h
      have hB4 := ih
      have h : lbX12_readTenet_4 Q l0 l1 (fun l2 l3 M => xlpn (fun (B : Int32 × Int32 × Mem → Prop) a => lbX12_readTenet_4 Q l0 l1 (fun l2 l3 M => B (l2, l3, M)) a.1 a.2.1 a.2.2) n (l2, l3, M)) l2 l3 M := h
      unfold lbX12_readTenet_4 at h
      refine x_iload_n dX12_readTenet_4 rfl 5 rfl ?_
      refine x_if_eq dX12_readTenet_5 49 8 rfl rfl (fun hc => ?_) (fun hc => ?_)
      · have h := h.1 hc
        refine x_aload_n dX12_readTenet_49 rfl 50 rfl ?_
        refine gf12_38 dX12_readTenet_50 53 rfl hk_l0 kw5_197 ?_
        refine x_iload_n dX12_readTenet_53 rfl 54 rfl ?_
        refine x_iload_n dX12_readTenet_54 rfl 55 rfl ?_
        obtain ⟨hin, h⟩ := h
        refine x_iastore dX12_readTenet_55 (ly12_38 hk_l0) hin 56 rfl (x_mem (fun M1 hM1 => ?_))
        have h := h M1 hM1
        refine x_aload_n dX12_readTenet_56 rfl 57 rfl ?_
        refine gf12_38 dX12_readTenet_57 60 rfl hk_l0 kw5_197 ?_
        refine x_iload_n dX12_readTenet_60 rfl 61 rfl ?_
        refine x_iconst dX12_readTenet_61 kc_1 62 rfl ?_
        refine x_iadd dX12_readTenet_62 63 rfl ?_
        refine x_aload_n dX12_readTenet_63 rfl 64 rfl ?_
        refine x_bipush dX12_readTenet_64 kb_23 66 rfl ?_
        refine x_iconst dX12_readTenet_66 kc_0 67 rfl ?_
        refine x_bipush dX12_readTenet_67 kb_15 69 rfl ?_
        refine kX12_readTold dX12_readTenet_69 72 rfl hk_l0 kw6_182 (Nat.le_of_ble_eq_true rfl) (Nat.le_of_ble_eq_true rfl) h (fun r3 M2 h => ?_)
        obtain ⟨hin, h⟩ := h
        refine x_iastore dX12_readTenet_72 (ly12_38 hk_l0) hin 73 rfl (x_mem (fun M4 hM4 => ?_))
        have h := h M4 hM4
        refine x_aload_n dX12_readTenet_73 rfl 74 rfl ?_
        refine gf12_38 dX12_readTenet_74 77 rfl hk_l0 kw5_197 ?_
        refine x_iload_n dX12_readTenet_77 rfl 78 rfl ?_
        refine x_iconst dX12_readTenet_78 kc_1 79 rfl ?_
        refine x_iadd dX12_readTenet_79 80 rfl ?_
        obtain ⟨hin, h⟩ := h
        refine x_iaload dX12_readTenet_80 (ly12_38 hk_l0) hin 81 rfl ?_
        refine x_iconst dX12_readTenet_81 kc_m1 82 rfl ?_
        refine x_icmp_ne dX12_readTenet_82 89 85 rfl rfl (fun hc => ?_) (fun hc => ?_)
        · have h := h.1 hc
          refine x_aload_n dX12_readTenet_89 rfl 90 rfl ?_
          refine x_bipush dX12_readTenet_90 kb_59 92 rfl ?_
          refine kX12_readMark dX12_readTenet_92 95 rfl hk_l0 kw6_190 (Nat.le_of_ble_eq_true rfl) (Nat.le_of_ble_eq_true rfl) h (fun r6 M5 h => ?_)
          exact x_iret dX12_readTenet_95 h
        · have h := h.2 hc
          refine x_iconst dX12_readTenet_85 kc_m1 86 rfl ?_
          refine x_goto dX12_readTenet_86 95 rfl ?_
          exact x_iret dX12_readTenet_95 h
      · have h := h.2 hc
        refine x_aload_n dX12_readTenet_8 rfl 9 rfl ?_
        refine x_iconst dX12_readTenet_9 kc_0 10 rfl ?_
        refine x_bipush dX12_readTenet_10 kb_15 12 rfl ?_
        refine kX12_readNumber dX12_readTenet_12 15 rfl hk_l0 kw6_186 (Nat.le_of_ble_eq_true rfl) (Nat.le_of_ble_eq_true rfl) h (fun r8 M7 h => ?_)
        refine x_istore dX12_readTenet_15 (Nat.le_of_ble_eq_true rfl) [(0, .ref l0), (1, .int l1), (2, .int l2), (3, .int l3), (4, .int r8)] rfl 17 rfl ?_
        refine x_iload dX12_readTenet_17 rfl 19 rfl ?_
        refine x_iconst dX12_readTenet_19 kc_m1 20 rfl ?_
        refine x_icmp_ne dX12_readTenet_20 25 23 rfl rfl (fun hc => ?_) (fun hc => ?_)
        · have h := h.1 hc
          refine x_iload_n dX12_readTenet_25 rfl 26 rfl ?_
          refine x_iconst dX12_readTenet_26 kc_1 27 rfl ?_
          refine x_iload dX12_readTenet_27 rfl 29 rfl ?_
          refine x_ishl dX12_readTenet_29 30 rfl ?_
          refine x_ior dX12_readTenet_30 31 rfl ?_
          refine x_top (fun y9 hy9 => ?_)
          have h := h y9 hy9
          refine x_istore_n dX12_readTenet_31 (Nat.le_of_ble_eq_true rfl) [(0, .ref l0), (1, .int l1), (2, .int y9), (3, .int l3), (4, .int r8)] rfl 32 rfl ?_
          refine x_aload_n dX12_readTenet_32 rfl 33 rfl ?_
          refine x_iconst dX12_readTenet_33 kc_5 34 rfl ?_
          refine kX12_isWord dX12_readTenet_34 37 rfl hk_l0 kw6_174 (Nat.le_of_ble_eq_true rfl) (Nat.le_of_ble_eq_true rfl) h (fun r10 h => ?_)
          refine x_istore_n dX12_readTenet_37 (Nat.le_of_ble_eq_true rfl) [(0, .ref l0), (1, .int l1), (2, .int y9), (3, .int (bI r10)), (4, .int r8)] rfl 38 rfl ?_
          refine x_iload_n dX12_readTenet_38 rfl 39 rfl ?_
          refine x_if_eq dX12_readTenet_39 46 42 rfl rfl (fun hc => ?_) (fun hc => ?_)
          · have h := h.1 hc
            refine x_goto dX12_readTenet_46 4 rfl ?_
            refine x_weak [(0, .ref l0), (1, .int l1), (2, .int y9), (3, .int (bI r10))] [0, 1, 2, 3] rfl ?_
            exact hB4 _ _ _ h
          · have h := h.2 hc
            refine x_aload_n dX12_readTenet_42 rfl 43 rfl ?_
            refine kX12_reads dX12_readTenet_43 46 rfl hk_l0 kw6_146 (Nat.le_of_ble_eq_true rfl) (Nat.le_of_ble_eq_true rfl) h (fun M11 h => ?_)
            refine x_goto dX12_readTenet_46 4 rfl ?_
            refine x_weak [(0, .ref l0), (1, .int l1), (2, .int y9), (3, .int (bI r10))] [0, 1, 2, 3] rfl ?_
            exact hB4 _ _ _ h
        · have h := h.2 hc
          refine x_iconst dX12_readTenet_23 kc_m1 24 rfl ?_
          exact x_iret dX12_readTenet_24 h
  exact hB4 n l2 l3 M h
def FX12_readTenet (Q : Int32 → Mem → Prop) (l0 : Nat) (l1 : Int32) (M : Mem) : Prop :=
  NX12_readTenet_4 Q l0 l1 0 1 M
theorem eX12_readTenet {Q : Int32 → Mem → Prop} {l0 : Nat} {l1 : Int32} {M : Mem} (hk_l0 : SHk l0 = 12) (h : FX12_readTenet Q l0 l1 M) : xX RX12 cX12_readTenet 5 (some .int) 6 0 [(0, .ref l0), (1, .int l1)] [] M (xQi Q) := by
  unfold FX12_readTenet at h
  refine x_iconst dX12_readTenet_0 kc_0 1 rfl ?_
  refine x_istore_n dX12_readTenet_1 (Nat.le_of_ble_eq_true rfl) [(0, .ref l0), (1, .int l1), (2, .int 0)] rfl 2 rfl ?_
  refine x_iconst dX12_readTenet_2 kc_1 3 rfl ?_
  refine x_istore_n dX12_readTenet_3 (Nat.le_of_ble_eq_true rfl) [(0, .ref l0), (1, .int l1), (2, .int 0), (3, .int 1)] rfl 4 rfl ?_
  exact nX12_readTenet_4 hk_l0 h
theorem cX12_readTenet_ {Q : Int32 → Mem → Prop} {l0 : Nat} {l1 : Int32} {M : Mem} (hk_l0 : SHk l0 = 12) (h : FX12_readTenet Q l0 l1 M) : xM yX12_readTenet cX12_readTenet 5 (some .int) 6 [.ref l0, .int l1] M (xQi Q) := xM_of (by decide +kernel) (Nat.le_of_ble_eq_true rfl) (eX12_readTenet hk_l0 h)
theorem kX12_readTenet {own : String} {cc : ByteArray} {nL : Nat} {rt : Option FieldType} {d pc ix : Nat} {L : List (Nat × Value)} {st : List Value} {M : Mem} {Rt : xGt → Array Value → State → Outcome → State → Prop} {Q : Int32 → Mem → Prop} {l0 : Nat} {l1 : Int32} (hd : decode cc pc = .ok (.invokevirtual ix, 3)) (q : Nat) (hq : pc + 3 = q) (hk_l0 : SHk l0 = 12) (w1 : Cond.methodLink own ix yX12_readTenet ∈ xTs) (hr : 6 < d) (hst : (st.map fun v => v.category).sum ≤ 8) (h : FX12_readTenet Q l0 l1 M) (k : ∀ (r : Int32) (N : Mem), Q r N → xX own cc nL rt d q L (.int r :: st) N Rt) : xX own cc nL rt d pc L (.int l1 :: .ref l0 :: st) M Rt :=
  x_callV_i (n := 1) (As := [.int l1]) hd q hq hk_l0 (by decide) rfl rfl w1 kw6_216 ks4_13 kw1_14 kw6_217 (by decide +kernel) rfl hr (by decide) hst _ rfl (cX12_readTenet_ hk_l0 h) k
def NX12_readTenets_31 (Q : Int32 → Mem → Prop) (s0 : Nat) (s1 : Int32) (M : Mem) : Prop :=
  FX12_errs (fun (r2 : Int32) (M1 : Mem) => Q r2 M1) s0 s1 M
theorem nX12_readTenets_31 {Q : Int32 → Mem → Prop} {s0 : Nat} {s1 : Int32} {M : Mem} (hk_s0 : SHk s0 = 12) (h : NX12_readTenets_31 Q s0 s1 M) : xX RX12 cX12_readTenets 2 (some .int) 7 31 [] [.int s1, .ref s0] M (xQi Q) := by
  unfold NX12_readTenets_31 at h
  refine kX12_errs dX12_readTenets_31 34 rfl hk_s0 kw6_178 (Nat.le_of_ble_eq_true rfl) (Nat.le_of_ble_eq_true rfl) h (fun r2 M1 h => ?_)
  exact x_iret dX12_readTenets_34 h
def lbX12_readTenets_2 (Q : Int32 → Mem → Prop) (l0 : Nat) (B2 : Int32 → Mem → Prop) (l1 : Int32) (M : Mem) : Prop :=
  ((¬ (M l0 14) = 3 → ((¬ (M l0 14) = 0 → FX12_errs (fun (r4 : Int32) (M3 : Mem) => Q r4 M3) l0 1 M) ∧ ((M l0 14) = 0 → Q l1 M))) ∧ ((M l0 14) = 3 → ((¬ l1 = 16 → FX12_readTenet (fun (r6 : Int32) (M5 : Mem) => ((¬ r6 = (-1) → B2 (l1 + 1) M5) ∧ (r6 = (-1) → Q (-1) M5))) l0 (32 + (2 * l1)) M) ∧ (l1 = 16 → (((M l0 15) ≤ 15 → NX12_readTenets_31 Q l0 3 M) ∧ (¬ (M l0 15) ≤ 15 → NX12_readTenets_31 Q l0 2 M))))))
def NX12_readTenets_2 (Q : Int32 → Mem → Prop) (l0 : Nat) (l1 : Int32) (M : Mem) : Prop := xlp (fun (B : Int32 × Mem → Prop) a => lbX12_readTenets_2 Q l0 (fun l1 M => B (l1, M)) a.1 a.2) (l1, M)
theorem nX12_readTenets_2 {Q : Int32 → Mem → Prop} {l0 : Nat} {l1 : Int32} {M : Mem} (hk_l0 : SHk l0 = 12) (h : NX12_readTenets_2 Q l0 l1 M) : xX RX12 cX12_readTenets 2 (some .int) 7 2 [(0, .ref l0), (1, .int l1)] [] M (xQi Q) := by
  obtain ⟨n, h⟩ := h
  have hB2 : ∀ (n : Nat) (l1 : Int32) (M : Mem), xlpn (fun (B : Int32 × Mem → Prop) a => lbX12_readTenets_2 Q l0 (fun l1 M => B (l1, M)) a.1 a.2) n (l1, M) → xX RX12 cX12_readTenets 2 (some .int) 7 2 [(0, .ref l0), (1, .int l1)] [] M (xQi Q) := by
    intro n
    induction n with
    | zero => intro l1 M h; exact False.elim h
    | succ n ih =>
      intro l1 M h
      have hB2 := ih
      have h : lbX12_readTenets_2 Q l0 (fun l1 M => xlpn (fun (B : Int32 × Mem → Prop) a => lbX12_readTenets_2 Q l0 (fun l1 M => B (l1, M)) a.1 a.2) n (l1, M)) l1 M := h
      unfold lbX12_readTenets_2 at h
      refine x_aload_n dX12_readTenets_2 rfl 3 rfl ?_
      refine gf12_14 dX12_readTenets_3 6 rfl hk_l0 kw5_173 ?_
      refine x_iconst dX12_readTenets_6 kc_3 7 rfl ?_
      refine x_icmp_ne dX12_readTenets_7 58 10 rfl rfl (fun hc => ?_) (fun hc => ?_)
      · have h := h.1 hc
        refine x_aload_n dX12_readTenets_58 rfl 59 rfl ?_
        refine gf12_14 dX12_readTenets_59 62 rfl hk_l0 kw5_173 ?_
        refine x_if_ne dX12_readTenets_62 69 65 rfl rfl (fun hc => ?_) (fun hc => ?_)
        · have h := h.1 hc
          refine x_aload_n dX12_readTenets_69 rfl 70 rfl ?_
          refine x_iconst dX12_readTenets_70 kc_1 71 rfl ?_
          refine kX12_errs dX12_readTenets_71 74 rfl hk_l0 kw6_178 (Nat.le_of_ble_eq_true rfl) (Nat.le_of_ble_eq_true rfl) h (fun r4 M3 h => ?_)
          exact x_iret dX12_readTenets_74 h
        · have h := h.2 hc
          refine x_iload_n dX12_readTenets_65 rfl 66 rfl ?_
          refine x_goto dX12_readTenets_66 74 rfl ?_
          exact x_iret dX12_readTenets_74 h
      · have h := h.2 hc
        refine x_iload_n dX12_readTenets_10 rfl 11 rfl ?_
        refine x_bipush dX12_readTenets_11 kb_16 13 rfl ?_
        refine x_icmp_ne dX12_readTenets_13 35 16 rfl rfl (fun hc => ?_) (fun hc => ?_)
        · have h := h.1 hc
          refine x_aload_n dX12_readTenets_35 rfl 36 rfl ?_
          refine x_bipush dX12_readTenets_36 kb_32 38 rfl ?_
          refine x_iconst dX12_readTenets_38 kc_2 39 rfl ?_
          refine x_iload_n dX12_readTenets_39 rfl 40 rfl ?_
          refine x_imul dX12_readTenets_40 41 rfl ?_
          refine x_iadd dX12_readTenets_41 42 rfl ?_
          refine kX12_readTenet dX12_readTenets_42 45 rfl hk_l0 kw6_214 (Nat.le_of_ble_eq_true rfl) (Nat.le_of_ble_eq_true rfl) h (fun r6 M5 h => ?_)
          refine x_iconst dX12_readTenets_45 kc_m1 46 rfl ?_
          refine x_icmp_ne dX12_readTenets_46 51 49 rfl rfl (fun hc => ?_) (fun hc => ?_)
          · have h := h.1 hc
            refine x_iload_n dX12_readTenets_51 rfl 52 rfl ?_
            refine x_iconst dX12_readTenets_52 kc_1 53 rfl ?_
            refine x_iadd dX12_readTenets_53 54 rfl ?_
            refine x_istore_n dX12_readTenets_54 (Nat.le_of_ble_eq_true rfl) [(0, .ref l0), (1, .int (l1 + 1))] rfl 55 rfl ?_
            refine x_goto dX12_readTenets_55 2 rfl ?_
            exact hB2 _ _ h
          · have h := h.2 hc
            refine x_iconst dX12_readTenets_49 kc_m1 50 rfl ?_
            exact x_iret dX12_readTenets_50 h
        · have h := h.2 hc
          refine x_aload_n dX12_readTenets_16 rfl 17 rfl ?_
          refine x_aload_n dX12_readTenets_17 rfl 18 rfl ?_
          refine gf12_15 dX12_readTenets_18 21 rfl hk_l0 kw5_174 ?_
          refine x_bipush dX12_readTenets_21 kb_15 23 rfl ?_
          refine x_icmp_le dX12_readTenets_23 30 26 rfl rfl (fun hc => ?_) (fun hc => ?_)
          · have h := h.1 hc
            refine x_iconst dX12_readTenets_30 kc_3 31 rfl ?_
            refine x_weak [] [] rfl ?_
            exact nX12_readTenets_31 hk_l0 h
          · have h := h.2 hc
            refine x_iconst dX12_readTenets_26 kc_2 27 rfl ?_
            refine x_goto dX12_readTenets_27 31 rfl ?_
            refine x_weak [] [] rfl ?_
            exact nX12_readTenets_31 hk_l0 h
  exact hB2 n l1 M h
def FX12_readTenets (Q : Int32 → Mem → Prop) (l0 : Nat) (M : Mem) : Prop :=
  NX12_readTenets_2 Q l0 0 M
theorem eX12_readTenets {Q : Int32 → Mem → Prop} {l0 : Nat} {M : Mem} (hk_l0 : SHk l0 = 12) (h : FX12_readTenets Q l0 M) : xX RX12 cX12_readTenets 2 (some .int) 7 0 [(0, .ref l0)] [] M (xQi Q) := by
  unfold FX12_readTenets at h
  refine x_iconst dX12_readTenets_0 kc_0 1 rfl ?_
  refine x_istore_n dX12_readTenets_1 (Nat.le_of_ble_eq_true rfl) [(0, .ref l0), (1, .int 0)] rfl 2 rfl ?_
  exact nX12_readTenets_2 hk_l0 h
theorem cX12_readTenets_ {Q : Int32 → Mem → Prop} {l0 : Nat} {M : Mem} (hk_l0 : SHk l0 = 12) (h : FX12_readTenets Q l0 M) : xM yX12_readTenets cX12_readTenets 2 (some .int) 7 [.ref l0] M (xQi Q) := xM_of (by decide +kernel) (Nat.le_of_ble_eq_true rfl) (eX12_readTenets hk_l0 h)
theorem kX12_readTenets {own : String} {cc : ByteArray} {nL : Nat} {rt : Option FieldType} {d pc ix : Nat} {L : List (Nat × Value)} {st : List Value} {M : Mem} {Rt : xGt → Array Value → State → Outcome → State → Prop} {Q : Int32 → Mem → Prop} {l0 : Nat} (hd : decode cc pc = .ok (.invokevirtual ix, 3)) (q : Nat) (hq : pc + 3 = q) (hk_l0 : SHk l0 = 12) (w1 : Cond.methodLink own ix yX12_readTenets ∈ xTs) (hr : 7 < d) (hst : (st.map fun v => v.category).sum ≤ 8) (h : FX12_readTenets Q l0 M) (k : ∀ (r : Int32) (N : Mem), Q r N → xX own cc nL rt d q L (.int r :: st) N Rt) : xX own cc nL rt d pc L (.ref l0 :: st) M Rt :=
  x_callV_i (n := 0) (As := []) hd q hq hk_l0 (by decide) rfl rfl w1 kw6_212 ks4_12 kw1_14 kw6_213 (by decide +kernel) rfl hr (by decide) hst _ rfl (cX12_readTenets_ hk_l0 h) k
def FX12_readsText (Q : Int32 → Mem → Prop) (l0 : Nat) (l1 : Int32) (M : Mem) : Prop :=
  ∀ M1 : Mem, M1 = xu M l0 24 0 → FX12_reads (fun (M2 : Mem) => ((¬ l1 = 1 → ((¬ l1 = 2 → ((¬ l1 = 3 → FX12_readLaw (fun (r4 : Int32) (M3 : Mem) => Q r4 M3) l0 M2) ∧ (l1 = 3 → FX12_readTenets (fun (r6 : Int32) (M5 : Mem) => Q r6 M5) l0 M2))) ∧ (l1 = 2 → FX12_readPlan (fun (r8 : Int32) (M7 : Mem) => Q r8 M7) l0 M2))) ∧ (l1 = 1 → FX12_readSky (fun (r10 : Int32) (M9 : Mem) => Q r10 M9) l0 M2))) l0 M1
theorem eX12_readsText {Q : Int32 → Mem → Prop} {l0 : Nat} {l1 : Int32} {M : Mem} (hk_l0 : SHk l0 = 12) (h : FX12_readsText Q l0 l1 M) : xX RX12 cX12_readsText 2 (some .int) 10 0 [(0, .ref l0), (1, .int l1)] [] M (xQi Q) := by
  unfold FX12_readsText at h
  refine x_aload_n dX12_readsText_0 rfl 1 rfl ?_
  refine x_iconst dX12_readsText_1 kc_0 2 rfl ?_
  refine pf12_24 dX12_readsText_2 5 rfl hk_l0 kw5_183 (x_mem (fun M1 hM1 => ?_))
  have h := h M1 hM1
  refine x_aload_n dX12_readsText_5 rfl 6 rfl ?_
  refine kX12_reads dX12_readsText_6 9 rfl hk_l0 kw6_146 (Nat.le_of_ble_eq_true rfl) (Nat.le_of_ble_eq_true rfl) h (fun M2 h => ?_)
  refine x_iload_n dX12_readsText_9 rfl 10 rfl ?_
  refine x_iconst dX12_readsText_10 kc_1 11 rfl ?_
  refine x_icmp_ne dX12_readsText_11 19 14 rfl rfl (fun hc => ?_) (fun hc => ?_)
  · have h := h.1 hc
    refine x_iload_n dX12_readsText_19 rfl 20 rfl ?_
    refine x_iconst dX12_readsText_20 kc_2 21 rfl ?_
    refine x_icmp_ne dX12_readsText_21 29 24 rfl rfl (fun hc => ?_) (fun hc => ?_)
    · have h := h.1 hc
      refine x_iload_n dX12_readsText_29 rfl 30 rfl ?_
      refine x_iconst dX12_readsText_30 kc_3 31 rfl ?_
      refine x_icmp_ne dX12_readsText_31 41 34 rfl rfl (fun hc => ?_) (fun hc => ?_)
      · have h := h.1 hc
        refine x_aload_n dX12_readsText_41 rfl 42 rfl ?_
        refine kX12_readLaw dX12_readsText_42 45 rfl hk_l0 kw6_218 (Nat.le_of_ble_eq_true rfl) (Nat.le_of_ble_eq_true rfl) h (fun r4 M3 h => ?_)
        exact x_iret dX12_readsText_45 h
      · have h := h.2 hc
        refine x_aload_n dX12_readsText_34 rfl 35 rfl ?_
        refine kX12_readTenets dX12_readsText_35 38 rfl hk_l0 kw6_210 (Nat.le_of_ble_eq_true rfl) (Nat.le_of_ble_eq_true rfl) h (fun r6 M5 h => ?_)
        refine x_goto dX12_readsText_38 45 rfl ?_
        exact x_iret dX12_readsText_45 h
    · have h := h.2 hc
      refine x_aload_n dX12_readsText_24 rfl 25 rfl ?_
      refine kX12_readPlan dX12_readsText_25 28 rfl hk_l0 kw6_198 (Nat.le_of_ble_eq_true rfl) (Nat.le_of_ble_eq_true rfl) h (fun r8 M7 h => ?_)
      exact x_iret dX12_readsText_28 h
  · have h := h.2 hc
    refine x_aload_n dX12_readsText_14 rfl 15 rfl ?_
    refine kX12_readSky dX12_readsText_15 18 rfl hk_l0 kw6_170 (Nat.le_of_ble_eq_true rfl) (Nat.le_of_ble_eq_true rfl) h (fun r10 M9 h => ?_)
    exact x_iret dX12_readsText_18 h
theorem cX12_readsText_ {Q : Int32 → Mem → Prop} {l0 : Nat} {l1 : Int32} {M : Mem} (hk_l0 : SHk l0 = 12) (h : FX12_readsText Q l0 l1 M) : xM yX12_readsText cX12_readsText 2 (some .int) 10 [.ref l0, .int l1] M (xQi Q) := xM_of (by decide +kernel) (Nat.le_of_ble_eq_true rfl) (eX12_readsText hk_l0 h)
theorem kX12_readsText {own : String} {cc : ByteArray} {nL : Nat} {rt : Option FieldType} {d pc ix : Nat} {L : List (Nat × Value)} {st : List Value} {M : Mem} {Rt : xGt → Array Value → State → Outcome → State → Prop} {Q : Int32 → Mem → Prop} {l0 : Nat} {l1 : Int32} (hd : decode cc pc = .ok (.invokevirtual ix, 3)) (q : Nat) (hq : pc + 3 = q) (hk_l0 : SHk l0 = 12) (w1 : Cond.methodLink own ix yX12_readsText ∈ xTs) (hr : 10 < d) (hst : (st.map fun v => v.category).sum ≤ 8) (h : FX12_readsText Q l0 l1 M) (k : ∀ (r : Int32) (N : Mem), Q r N → xX own cc nL rt d q L (.int r :: st) N Rt) : xX own cc nL rt d pc L (.int l1 :: .ref l0 :: st) M Rt :=
  x_callV_i (n := 1) (As := [.int l1]) hd q hq hk_l0 (by decide) rfl rfl w1 kw6_144 ks3_11 kw1_14 kw6_145 (by decide +kernel) rfl hr (by decide) hst _ rfl (cX12_readsText_ hk_l0 h) k
def lbX12_takesOther_7 (Q : Mem → Prop) (l0 : Nat) (l2 : Int32) (B7 : Int32 → Mem → Prop) (l3 : Int32) (M : Mem) : Prop :=
  (((2 * l2) ≤ l3 → ∀ M1 : Mem, M1 = xu M l0 33 l2 → Q M1) ∧ (¬ (2 * l2) ≤ l3 → vp_in (32 + l3) 64 ∧ vp_in l3 64 ∧ ∀ M2 : Mem, M2 = xu M (l0 + 16) (ix l3) (M (l0 + 16) (ix (32 + l3))) → B7 (l3 + 1) M2))
def NX12_takesOther_7 (Q : Mem → Prop) (l0 : Nat) (l2 : Int32) (l3 : Int32) (M : Mem) : Prop := xlp (fun (B : Int32 × Mem → Prop) a => lbX12_takesOther_7 Q l0 l2 (fun l3 M => B (l3, M)) a.1 a.2) (l3, M)
theorem nX12_takesOther_7 {Q : Mem → Prop} {l0 : Nat} {l2 : Int32} {l3 : Int32} {M : Mem} (hk_l0 : SHk l0 = 12) (h : NX12_takesOther_7 Q l0 l2 l3 M) : xX RX12 cX12_takesOther 4 none 1 7 [(0, .ref l0), (2, .int l2), (3, .int l3)] [] M (xQv Q) := by
  obtain ⟨n, h⟩ := h
  have hB7 : ∀ (n : Nat) (l3 : Int32) (M : Mem), xlpn (fun (B : Int32 × Mem → Prop) a => lbX12_takesOther_7 Q l0 l2 (fun l3 M => B (l3, M)) a.1 a.2) n (l3, M) → xX RX12 cX12_takesOther 4 none 1 7 [(0, .ref l0), (2, .int l2), (3, .int l3)] [] M (xQv Q) := by
    intro n
    induction n with
    | zero => intro l3 M h; exact False.elim h
    | succ n ih =>
      intro l3 M h
      have hB7 := ih
      have h : lbX12_takesOther_7 Q l0 l2 (fun l3 M => xlpn (fun (B : Int32 × Mem → Prop) a => lbX12_takesOther_7 Q l0 l2 (fun l3 M => B (l3, M)) a.1 a.2) n (l3, M)) l3 M := h
      unfold lbX12_takesOther_7 at h
      refine x_iload_n dX12_takesOther_7 rfl 8 rfl ?_
      refine x_iconst dX12_takesOther_8 kc_2 9 rfl ?_
      refine x_iload_n dX12_takesOther_9 rfl 10 rfl ?_
      refine x_imul dX12_takesOther_10 11 rfl ?_
      refine x_icmp_ge dX12_takesOther_11 35 14 rfl rfl (fun hc => ?_) (fun hc => ?_)
      · have h := h.1 hc
        refine x_aload_n dX12_takesOther_35 rfl 36 rfl ?_
        refine x_iload_n dX12_takesOther_36 rfl 37 rfl ?_
        refine pf12_33 dX12_takesOther_37 40 rfl hk_l0 kw5_192 (x_mem (fun M1 hM1 => ?_))
        have h := h M1 hM1
        refine x_goto dX12_takesOther_40 126 rfl ?_
        exact x_vret dX12_takesOther_126 h
      · have h := h.2 hc
        refine x_aload_n dX12_takesOther_14 rfl 15 rfl ?_
        refine gf12_34 dX12_takesOther_15 18 rfl hk_l0 kw5_193 ?_
        refine x_iload_n dX12_takesOther_18 rfl 19 rfl ?_
        refine x_aload_n dX12_takesOther_19 rfl 20 rfl ?_
        refine gf12_34 dX12_takesOther_20 23 rfl hk_l0 kw5_193 ?_
        refine x_bipush dX12_takesOther_23 kb_32 25 rfl ?_
        refine x_iload_n dX12_takesOther_25 rfl 26 rfl ?_
        refine x_iadd dX12_takesOther_26 27 rfl ?_
        obtain ⟨hin, h⟩ := h
        refine x_iaload dX12_takesOther_27 (ly12_34 hk_l0) hin 28 rfl ?_
        obtain ⟨hin, h⟩ := h
        refine x_iastore dX12_takesOther_28 (ly12_34 hk_l0) hin 29 rfl (x_mem (fun M2 hM2 => ?_))
        have h := h M2 hM2
        refine x_iinc dX12_takesOther_29 rfl (congrArg (l3 + ·) kc_1) (Nat.le_of_ble_eq_true rfl) [(0, .ref l0), (2, .int l2), (3, .int (l3 + 1))] rfl 32 rfl ?_
        refine x_goto dX12_takesOther_32 7 rfl ?_
        exact hB7 _ _ h
  exact hB7 n l3 M h
def lbX12_takesOther_50 (Q : Mem → Prop) (l0 : Nat) (l2 : Int32) (B50 : Int32 → Mem → Prop) (l3 : Int32) (M : Mem) : Prop :=
  (((4 * l2) ≤ l3 → ∀ M3 : Mem, M3 = xu M l0 35 l2 → ∀ M4 : Mem, M4 = xu M3 l0 3 0 → Q M4) ∧ (¬ (4 * l2) ≤ l3 → vp_in (64 + l3) 128 ∧ vp_in l3 128 ∧ ∀ M5 : Mem, M5 = xu M (l0 + 17) (ix l3) (M (l0 + 17) (ix (64 + l3))) → B50 (l3 + 1) M5))
def NX12_takesOther_50 (Q : Mem → Prop) (l0 : Nat) (l2 : Int32) (l3 : Int32) (M : Mem) : Prop := xlp (fun (B : Int32 × Mem → Prop) a => lbX12_takesOther_50 Q l0 l2 (fun l3 M => B (l3, M)) a.1 a.2) (l3, M)
theorem nX12_takesOther_50 {Q : Mem → Prop} {l0 : Nat} {l2 : Int32} {l3 : Int32} {M : Mem} (hk_l0 : SHk l0 = 12) (h : NX12_takesOther_50 Q l0 l2 l3 M) : xX RX12 cX12_takesOther 4 none 1 50 [(0, .ref l0), (2, .int l2), (3, .int l3)] [] M (xQv Q) := by
  obtain ⟨n, h⟩ := h
  have hB50 : ∀ (n : Nat) (l3 : Int32) (M : Mem), xlpn (fun (B : Int32 × Mem → Prop) a => lbX12_takesOther_50 Q l0 l2 (fun l3 M => B (l3, M)) a.1 a.2) n (l3, M) → xX RX12 cX12_takesOther 4 none 1 50 [(0, .ref l0), (2, .int l2), (3, .int l3)] [] M (xQv Q) := by
    intro n
    induction n with
    | zero => intro l3 M h; exact False.elim h
    | succ n ih =>
      intro l3 M h
      have hB50 := ih
      have h : lbX12_takesOther_50 Q l0 l2 (fun l3 M => xlpn (fun (B : Int32 × Mem → Prop) a => lbX12_takesOther_50 Q l0 l2 (fun l3 M => B (l3, M)) a.1 a.2) n (l3, M)) l3 M := h
      unfold lbX12_takesOther_50 at h
      refine x_iload_n dX12_takesOther_50 rfl 51 rfl ?_
      refine x_iconst dX12_takesOther_51 kc_4 52 rfl ?_
      refine x_iload_n dX12_takesOther_52 rfl 53 rfl ?_
      refine x_imul dX12_takesOther_53 54 rfl ?_
      refine x_icmp_ge dX12_takesOther_54 78 57 rfl rfl (fun hc => ?_) (fun hc => ?_)
      · have h := h.1 hc
        refine x_aload_n dX12_takesOther_78 rfl 79 rfl ?_
        refine x_iload_n dX12_takesOther_79 rfl 80 rfl ?_
        refine pf12_35 dX12_takesOther_80 83 rfl hk_l0 kw5_194 (x_mem (fun M3 hM3 => ?_))
        have h := h M3 hM3
        refine x_aload_n dX12_takesOther_83 rfl 84 rfl ?_
        refine x_iconst dX12_takesOther_84 kc_0 85 rfl ?_
        refine pf12_3 dX12_takesOther_85 88 rfl hk_l0 kw5_162 (x_mem (fun M4 hM4 => ?_))
        have h := h M4 hM4
        refine x_goto dX12_takesOther_88 126 rfl ?_
        exact x_vret dX12_takesOther_126 h
      · have h := h.2 hc
        refine x_aload_n dX12_takesOther_57 rfl 58 rfl ?_
        refine gf12_36 dX12_takesOther_58 61 rfl hk_l0 kw5_195 ?_
        refine x_iload_n dX12_takesOther_61 rfl 62 rfl ?_
        refine x_aload_n dX12_takesOther_62 rfl 63 rfl ?_
        refine gf12_36 dX12_takesOther_63 66 rfl hk_l0 kw5_195 ?_
        refine x_bipush dX12_takesOther_66 kb_64 68 rfl ?_
        refine x_iload_n dX12_takesOther_68 rfl 69 rfl ?_
        refine x_iadd dX12_takesOther_69 70 rfl ?_
        obtain ⟨hin, h⟩ := h
        refine x_iaload dX12_takesOther_70 (ly12_36 hk_l0) hin 71 rfl ?_
        obtain ⟨hin, h⟩ := h
        refine x_iastore dX12_takesOther_71 (ly12_36 hk_l0) hin 72 rfl (x_mem (fun M5 hM5 => ?_))
        have h := h M5 hM5
        refine x_iinc dX12_takesOther_72 rfl (congrArg (l3 + ·) kc_1) (Nat.le_of_ble_eq_true rfl) [(0, .ref l0), (2, .int l2), (3, .int (l3 + 1))] rfl 75 rfl ?_
        refine x_goto dX12_takesOther_75 50 rfl ?_
        exact hB50 _ _ h
  exact hB50 n l3 M h
def lbX12_takesOther_93 (Q : Mem → Prop) (l0 : Nat) (l2 : Int32) (B93 : Int32 → Mem → Prop) (l3 : Int32) (M : Mem) : Prop :=
  (((2 * l2) ≤ l3 → ∀ M6 : Mem, M6 = xu M l0 37 l2 → Q M6) ∧ (¬ (2 * l2) ≤ l3 → vp_in (32 + l3) 64 ∧ vp_in l3 64 ∧ ∀ M7 : Mem, M7 = xu M (l0 + 18) (ix l3) (M (l0 + 18) (ix (32 + l3))) → B93 (l3 + 1) M7))
def NX12_takesOther_93 (Q : Mem → Prop) (l0 : Nat) (l2 : Int32) (l3 : Int32) (M : Mem) : Prop := xlp (fun (B : Int32 × Mem → Prop) a => lbX12_takesOther_93 Q l0 l2 (fun l3 M => B (l3, M)) a.1 a.2) (l3, M)
theorem nX12_takesOther_93 {Q : Mem → Prop} {l0 : Nat} {l2 : Int32} {l3 : Int32} {M : Mem} (hk_l0 : SHk l0 = 12) (h : NX12_takesOther_93 Q l0 l2 l3 M) : xX RX12 cX12_takesOther 4 none 1 93 [(0, .ref l0), (2, .int l2), (3, .int l3)] [] M (xQv Q) := by
  obtain ⟨n, h⟩ := h
  have hB93 : ∀ (n : Nat) (l3 : Int32) (M : Mem), xlpn (fun (B : Int32 × Mem → Prop) a => lbX12_takesOther_93 Q l0 l2 (fun l3 M => B (l3, M)) a.1 a.2) n (l3, M) → xX RX12 cX12_takesOther 4 none 1 93 [(0, .ref l0), (2, .int l2), (3, .int l3)] [] M (xQv Q) := by
    intro n
    induction n with
    | zero => intro l3 M h; exact False.elim h
    | succ n ih =>
      intro l3 M h
      have hB93 := ih
      have h : lbX12_takesOther_93 Q l0 l2 (fun l3 M => xlpn (fun (B : Int32 × Mem → Prop) a => lbX12_takesOther_93 Q l0 l2 (fun l3 M => B (l3, M)) a.1 a.2) n (l3, M)) l3 M := h
      unfold lbX12_takesOther_93 at h
      refine x_iload_n dX12_takesOther_93 rfl 94 rfl ?_
      refine x_iconst dX12_takesOther_94 kc_2 95 rfl ?_
      refine x_iload_n dX12_takesOther_95 rfl 96 rfl ?_
      refine x_imul dX12_takesOther_96 97 rfl ?_
      refine x_icmp_ge dX12_takesOther_97 121 100 rfl rfl (fun hc => ?_) (fun hc => ?_)
      · have h := h.1 hc
        refine x_aload_n dX12_takesOther_121 rfl 122 rfl ?_
        refine x_iload_n dX12_takesOther_122 rfl 123 rfl ?_
        refine pf12_37 dX12_takesOther_123 126 rfl hk_l0 kw5_196 (x_mem (fun M6 hM6 => ?_))
        have h := h M6 hM6
        exact x_vret dX12_takesOther_126 h
      · have h := h.2 hc
        refine x_aload_n dX12_takesOther_100 rfl 101 rfl ?_
        refine gf12_38 dX12_takesOther_101 104 rfl hk_l0 kw5_197 ?_
        refine x_iload_n dX12_takesOther_104 rfl 105 rfl ?_
        refine x_aload_n dX12_takesOther_105 rfl 106 rfl ?_
        refine gf12_38 dX12_takesOther_106 109 rfl hk_l0 kw5_197 ?_
        refine x_bipush dX12_takesOther_109 kb_32 111 rfl ?_
        refine x_iload_n dX12_takesOther_111 rfl 112 rfl ?_
        refine x_iadd dX12_takesOther_112 113 rfl ?_
        obtain ⟨hin, h⟩ := h
        refine x_iaload dX12_takesOther_113 (ly12_38 hk_l0) hin 114 rfl ?_
        obtain ⟨hin, h⟩ := h
        refine x_iastore dX12_takesOther_114 (ly12_38 hk_l0) hin 115 rfl (x_mem (fun M7 hM7 => ?_))
        have h := h M7 hM7
        refine x_iinc dX12_takesOther_115 rfl (congrArg (l3 + ·) kc_1) (Nat.le_of_ble_eq_true rfl) [(0, .ref l0), (2, .int l2), (3, .int (l3 + 1))] rfl 118 rfl ?_
        refine x_goto dX12_takesOther_118 93 rfl ?_
        exact hB93 _ _ h
  exact hB93 n l3 M h
def FX12_takesOther (Q : Mem → Prop) (l0 : Nat) (l1 : Int32) (l2 : Int32) (M : Mem) : Prop :=
  ((¬ l1 = 1 → ((¬ l1 = 2 → NX12_takesOther_93 Q l0 l2 0 M) ∧ (l1 = 2 → NX12_takesOther_50 Q l0 l2 0 M))) ∧ (l1 = 1 → NX12_takesOther_7 Q l0 l2 0 M))
theorem eX12_takesOther {Q : Mem → Prop} {l0 : Nat} {l1 : Int32} {l2 : Int32} {M : Mem} (hk_l0 : SHk l0 = 12) (h : FX12_takesOther Q l0 l1 l2 M) : xX RX12 cX12_takesOther 4 none 1 0 [(0, .ref l0), (1, .int l1), (2, .int l2)] [] M (xQv Q) := by
  unfold FX12_takesOther at h
  refine x_iload_n dX12_takesOther_0 rfl 1 rfl ?_
  refine x_iconst dX12_takesOther_1 kc_1 2 rfl ?_
  refine x_icmp_ne dX12_takesOther_2 43 5 rfl rfl (fun hc => ?_) (fun hc => ?_)
  · have h := h.1 hc
    refine x_iload_n dX12_takesOther_43 rfl 44 rfl ?_
    refine x_iconst dX12_takesOther_44 kc_2 45 rfl ?_
    refine x_icmp_ne dX12_takesOther_45 91 48 rfl rfl (fun hc => ?_) (fun hc => ?_)
    · have h := h.1 hc
      refine x_iconst dX12_takesOther_91 kc_0 92 rfl ?_
      refine x_istore_n dX12_takesOther_92 (Nat.le_of_ble_eq_true rfl) [(0, .ref l0), (1, .int l1), (2, .int l2), (3, .int 0)] rfl 93 rfl ?_
      refine x_weak [(0, .ref l0), (2, .int l2), (3, .int 0)] [0, 2, 3] rfl ?_
      exact nX12_takesOther_93 hk_l0 h
    · have h := h.2 hc
      refine x_iconst dX12_takesOther_48 kc_0 49 rfl ?_
      refine x_istore_n dX12_takesOther_49 (Nat.le_of_ble_eq_true rfl) [(0, .ref l0), (1, .int l1), (2, .int l2), (3, .int 0)] rfl 50 rfl ?_
      refine x_weak [(0, .ref l0), (2, .int l2), (3, .int 0)] [0, 2, 3] rfl ?_
      exact nX12_takesOther_50 hk_l0 h
  · have h := h.2 hc
    refine x_iconst dX12_takesOther_5 kc_0 6 rfl ?_
    refine x_istore_n dX12_takesOther_6 (Nat.le_of_ble_eq_true rfl) [(0, .ref l0), (1, .int l1), (2, .int l2), (3, .int 0)] rfl 7 rfl ?_
    refine x_weak [(0, .ref l0), (2, .int l2), (3, .int 0)] [0, 2, 3] rfl ?_
    exact nX12_takesOther_7 hk_l0 h
theorem cX12_takesOther_ {Q : Mem → Prop} {l0 : Nat} {l1 : Int32} {l2 : Int32} {M : Mem} (hk_l0 : SHk l0 = 12) (h : FX12_takesOther Q l0 l1 l2 M) : xM yX12_takesOther cX12_takesOther 4 none 1 [.ref l0, .int l1, .int l2] M (xQv Q) := xM_of (by decide +kernel) (Nat.le_of_ble_eq_true rfl) (eX12_takesOther hk_l0 h)
theorem kX12_takesOther {own : String} {cc : ByteArray} {nL : Nat} {rt : Option FieldType} {d pc ix : Nat} {L : List (Nat × Value)} {st : List Value} {M : Mem} {Rt : xGt → Array Value → State → Outcome → State → Prop} {Q : Mem → Prop} {l0 : Nat} {l1 : Int32} {l2 : Int32} (hd : decode cc pc = .ok (.invokevirtual ix, 3)) (q : Nat) (hq : pc + 3 = q) (hk_l0 : SHk l0 = 12) (w1 : Cond.methodLink own ix yX12_takesOther ∈ xTs) (hr : 1 < d) (hst : (st.map fun v => v.category).sum ≤ 8) (h : FX12_takesOther Q l0 l1 l2 M) (k : ∀ (N : Mem), Q N → xX own cc nL rt d q L st N Rt) : xX own cc nL rt d pc L (.int l2 :: .int l1 :: .ref l0 :: st) M Rt :=
  x_callV_v (n := 2) (As := [.int l1, .int l2]) hd q hq hk_l0 (by decide) rfl rfl w1 kw7_28 ks5_10 kw1_14 kw7_29 (by decide +kernel) rfl hr (by decide) hst _ rfl (cX12_takesOther_ hk_l0 h) k
def NX12_text_69 (Q : Int32 → Mem → Prop) (l0 : Nat) (l1 : Int32) (l2 : Int32) (M : Mem) : Prop :=
  ∀ M1 : Mem, M1 = xu M l0 11 0 → ((¬ l2 = (-1) → ((¬ l1 = 0 → FX12_takesOther (fun (M2 : Mem) => Q l2 M2) l0 l1 l2 M1) ∧ (l1 = 0 → FX12_takesLaw (fun (M3 : Mem) => Q l2 M3) l0 l2 M1))) ∧ (l2 = (-1) → Q (-1) M1))
theorem nX12_text_69 {Q : Int32 → Mem → Prop} {l0 : Nat} {l1 : Int32} {l2 : Int32} {M : Mem} (hk_l0 : SHk l0 = 12) (h : NX12_text_69 Q l0 l1 l2 M) : xX RX12 cX12_text 3 (some .int) 11 69 [(0, .ref l0), (1, .int l1), (2, .int l2)] [] M (xQi Q) := by
  unfold NX12_text_69 at h
  refine x_aload_n dX12_text_69 rfl 70 rfl ?_
  refine x_iconst dX12_text_70 kc_0 71 rfl ?_
  refine pf12_11 dX12_text_71 74 rfl hk_l0 kw5_170 (x_mem (fun M1 hM1 => ?_))
  have h := h M1 hM1
  refine x_iload_n dX12_text_74 rfl 75 rfl ?_
  refine x_iconst dX12_text_75 kc_m1 76 rfl ?_
  refine x_icmp_ne dX12_text_76 81 79 rfl rfl (fun hc => ?_) (fun hc => ?_)
  · have h := h.1 hc
    refine x_iload_n dX12_text_81 rfl 82 rfl ?_
    refine x_if_ne dX12_text_82 93 85 rfl rfl (fun hc => ?_) (fun hc => ?_)
    · have h := h.1 hc
      refine x_aload_n dX12_text_93 rfl 94 rfl ?_
      refine x_iload_n dX12_text_94 rfl 95 rfl ?_
      refine x_iload_n dX12_text_95 rfl 96 rfl ?_
      refine kX12_takesOther dX12_text_96 99 rfl hk_l0 kw7_26 (Nat.le_of_ble_eq_true rfl) (Nat.le_of_ble_eq_true rfl) h (fun M2 h => ?_)
      refine x_iload_n dX12_text_99 rfl 100 rfl ?_
      exact x_iret dX12_text_100 h
    · have h := h.2 hc
      refine x_aload_n dX12_text_85 rfl 86 rfl ?_
      refine x_iload_n dX12_text_86 rfl 87 rfl ?_
      refine kX12_takesLaw dX12_text_87 90 rfl hk_l0 kw7_22 (Nat.le_of_ble_eq_true rfl) (Nat.le_of_ble_eq_true rfl) h (fun M3 h => ?_)
      refine x_goto dX12_text_90 99 rfl ?_
      refine x_iload_n dX12_text_99 rfl 100 rfl ?_
      exact x_iret dX12_text_100 h
  · have h := h.2 hc
    refine x_iconst dX12_text_79 kc_m1 80 rfl ?_
    exact x_iret dX12_text_80 h
def FX12_text (Q : Int32 → Mem → Prop) (l0 : Nat) (l1 : Int32) (M : Mem) : Prop :=
  ∀ M4 : Mem, M4 = xu M l0 0 0 → ∀ M5 : Mem, M5 = xu M4 l0 31 0 → ∀ M6 : Mem, M6 = xu M5 l0 32 (-1) → ∀ M7 : Mem, M7 = xu M6 l0 12 0 → ∀ M8 : Mem, M8 = xu M7 l0 25 0 → ∀ M9 : Mem, M9 = xu M8 l0 26 0 → FX12_isIn (fun (r10 : Bool) => ((r10 = false → NX12_text_69 Q l0 l1 (-1) M9) ∧ (r10 = true → FX12_readsText (fun (r12 : Int32) (M11 : Mem) => ((¬ r12 = (-1) → NX12_text_69 Q l0 l1 r12 M11) ∧ (r12 = (-1) → ∀ M13 : Mem, M13 = xu M11 l0 31 (M11 l0 29) → ∀ M14 : Mem, M14 = xu M13 l0 32 (M13 l0 30) → NX12_text_69 Q l0 l1 r12 M14))) l0 l1 M9))) l0 l1 0 3 M9
theorem eX12_text {Q : Int32 → Mem → Prop} {l0 : Nat} {l1 : Int32} {M : Mem} (hk_l0 : SHk l0 = 12) (h : FX12_text Q l0 l1 M) : xX RX12 cX12_text 3 (some .int) 11 0 [(0, .ref l0), (1, .int l1)] [] M (xQi Q) := by
  unfold FX12_text at h
  refine x_aload_n dX12_text_0 rfl 1 rfl ?_
  refine x_iconst dX12_text_1 kc_0 2 rfl ?_
  refine pf12_0 dX12_text_2 5 rfl hk_l0 kw5_159 (x_mem (fun M4 hM4 => ?_))
  have h := h M4 hM4
  refine x_aload_n dX12_text_5 rfl 6 rfl ?_
  refine x_iconst dX12_text_6 kc_0 7 rfl ?_
  refine pf12_31 dX12_text_7 10 rfl hk_l0 kw5_190 (x_mem (fun M5 hM5 => ?_))
  have h := h M5 hM5
  refine x_aload_n dX12_text_10 rfl 11 rfl ?_
  refine x_iconst dX12_text_11 kc_m1 12 rfl ?_
  refine pf12_32 dX12_text_12 15 rfl hk_l0 kw5_191 (x_mem (fun M6 hM6 => ?_))
  have h := h M6 hM6
  refine x_aload_n dX12_text_15 rfl 16 rfl ?_
  refine x_iconst dX12_text_16 kc_0 17 rfl ?_
  refine pf12_12 dX12_text_17 20 rfl hk_l0 kw5_171 (x_mem (fun M7 hM7 => ?_))
  have h := h M7 hM7
  refine x_aload_n dX12_text_20 rfl 21 rfl ?_
  refine x_iconst dX12_text_21 kc_0 22 rfl ?_
  refine pf12_25 dX12_text_22 25 rfl hk_l0 kw5_184 (x_mem (fun M8 hM8 => ?_))
  have h := h M8 hM8
  refine x_aload_n dX12_text_25 rfl 26 rfl ?_
  refine x_iconst dX12_text_26 kc_0 27 rfl ?_
  refine pf12_26 dX12_text_27 30 rfl hk_l0 kw5_185 (x_mem (fun M9 hM9 => ?_))
  have h := h M9 hM9
  refine x_iconst dX12_text_30 kc_m1 31 rfl ?_
  refine x_istore_n dX12_text_31 (Nat.le_of_ble_eq_true rfl) [(0, .ref l0), (1, .int l1), (2, .int (-1))] rfl 32 rfl ?_
  refine x_aload_n dX12_text_32 rfl 33 rfl ?_
  refine x_iload_n dX12_text_33 rfl 34 rfl ?_
  refine x_iconst dX12_text_34 kc_0 35 rfl ?_
  refine x_iconst dX12_text_35 kc_3 36 rfl ?_
  refine kX12_isIn dX12_text_36 39 rfl hk_l0 kw6_82 (Nat.le_of_ble_eq_true rfl) (Nat.le_of_ble_eq_true rfl) h (fun r10 h => ?_)
  refine x_if_eq_b dX12_text_39 69 42 rfl rfl (fun hc => ?_) (fun hc => ?_)
  · have h := h.1 hc
    exact nX12_text_69 hk_l0 h
  · have h := h.2 hc
    refine x_aload_n dX12_text_42 rfl 43 rfl ?_
    refine x_iload_n dX12_text_43 rfl 44 rfl ?_
    refine kX12_readsText dX12_text_44 47 rfl hk_l0 kw6_142 (Nat.le_of_ble_eq_true rfl) (Nat.le_of_ble_eq_true rfl) h (fun r12 M11 h => ?_)
    refine x_istore_n dX12_text_47 (Nat.le_of_ble_eq_true rfl) [(0, .ref l0), (1, .int l1), (2, .int r12)] rfl 48 rfl ?_
    refine x_iload_n dX12_text_48 rfl 49 rfl ?_
    refine x_iconst dX12_text_49 kc_m1 50 rfl ?_
    refine x_icmp_ne dX12_text_50 69 53 rfl rfl (fun hc => ?_) (fun hc => ?_)
    · have h := h.1 hc
      exact nX12_text_69 hk_l0 h
    · have h := h.2 hc
      refine x_aload_n dX12_text_53 rfl 54 rfl ?_
      refine x_aload_n dX12_text_54 rfl 55 rfl ?_
      refine gf12_29 dX12_text_55 58 rfl hk_l0 kw5_188 ?_
      refine pf12_31 dX12_text_58 61 rfl hk_l0 kw5_190 (x_mem (fun M13 hM13 => ?_))
      have h := h M13 hM13
      refine x_aload_n dX12_text_61 rfl 62 rfl ?_
      refine x_aload_n dX12_text_62 rfl 63 rfl ?_
      refine gf12_30 dX12_text_63 66 rfl hk_l0 kw5_189 ?_
      refine pf12_32 dX12_text_66 69 rfl hk_l0 kw5_191 (x_mem (fun M14 hM14 => ?_))
      have h := h M14 hM14
      exact nX12_text_69 hk_l0 h
theorem cX12_text_ {Q : Int32 → Mem → Prop} {l0 : Nat} {l1 : Int32} {M : Mem} (hk_l0 : SHk l0 = 12) (h : FX12_text Q l0 l1 M) : xM yX12_text cX12_text 3 (some .int) 11 [.ref l0, .int l1] M (xQi Q) := xM_of (by decide +kernel) (Nat.le_of_ble_eq_true rfl) (eX12_text hk_l0 h)
theorem kX12_text {own : String} {cc : ByteArray} {nL : Nat} {rt : Option FieldType} {d pc ix : Nat} {L : List (Nat × Value)} {st : List Value} {M : Mem} {Rt : xGt → Array Value → State → Outcome → State → Prop} {Q : Int32 → Mem → Prop} {l0 : Nat} {l1 : Int32} (hd : decode cc pc = .ok (.invokevirtual ix, 3)) (q : Nat) (hq : pc + 3 = q) (hk_l0 : SHk l0 = 12) (w1 : Cond.methodLink own ix yX12_text ∈ xTs) (hr : 11 < d) (hst : (st.map fun v => v.category).sum ≤ 8) (h : FX12_text Q l0 l1 M) (k : ∀ (r : Int32) (N : Mem), Q r N → xX own cc nL rt d q L (.int r :: st) N Rt) : xX own cc nL rt d pc L (.int l1 :: .ref l0 :: st) M Rt :=
  x_callV_i (n := 1) (As := [.int l1]) hd q hq hk_l0 (by decide) rfl rfl w1 kw6_139 kw6_140 kw1_14 kw6_141 (by decide +kernel) rfl hr (by decide) hst _ rfl (cX12_text_ hk_l0 h) k
def FX12_fault (Q : Int32 → Mem → Prop) (l0 : Nat) (l1 : Int32) (M : Mem) : Prop :=
  ∀ M1 : Mem, M1 = xu M l0 0 0 → ((¬ l1 = 0 → ((¬ l1 = 1 → Q (-1) M1) ∧ (l1 = 1 → Q (M1 l0 32) M1))) ∧ (l1 = 0 → Q (M1 l0 31) M1))
theorem eX12_fault {Q : Int32 → Mem → Prop} {l0 : Nat} {l1 : Int32} {M : Mem} (hk_l0 : SHk l0 = 12) (h : FX12_fault Q l0 l1 M) : xX RX12 cX12_fault 2 (some .int) 1 0 [(0, .ref l0), (1, .int l1)] [] M (xQi Q) := by
  unfold FX12_fault at h
  refine x_aload_n dX12_fault_0 rfl 1 rfl ?_
  refine x_iconst dX12_fault_1 kc_0 2 rfl ?_
  refine pf12_0 dX12_fault_2 5 rfl hk_l0 kw5_159 (x_mem (fun M1 hM1 => ?_))
  have h := h M1 hM1
  refine x_iload_n dX12_fault_5 rfl 6 rfl ?_
  refine x_if_ne dX12_fault_6 16 9 rfl rfl (fun hc => ?_) (fun hc => ?_)
  · have h := h.1 hc
    refine x_iload_n dX12_fault_16 rfl 17 rfl ?_
    refine x_iconst dX12_fault_17 kc_1 18 rfl ?_
    refine x_icmp_ne dX12_fault_18 28 21 rfl rfl (fun hc => ?_) (fun hc => ?_)
    · have h := h.1 hc
      refine x_iconst dX12_fault_28 kc_m1 29 rfl ?_
      exact x_iret dX12_fault_29 h
    · have h := h.2 hc
      refine x_aload_n dX12_fault_21 rfl 22 rfl ?_
      refine gf12_32 dX12_fault_22 25 rfl hk_l0 kw5_191 ?_
      refine x_goto dX12_fault_25 29 rfl ?_
      exact x_iret dX12_fault_29 h
  · have h := h.2 hc
    refine x_aload_n dX12_fault_9 rfl 10 rfl ?_
    refine gf12_31 dX12_fault_10 13 rfl hk_l0 kw5_190 ?_
    refine x_goto dX12_fault_13 29 rfl ?_
    exact x_iret dX12_fault_29 h
theorem cX12_fault_ {Q : Int32 → Mem → Prop} {l0 : Nat} {l1 : Int32} {M : Mem} (hk_l0 : SHk l0 = 12) (h : FX12_fault Q l0 l1 M) : xM yX12_fault cX12_fault 2 (some .int) 1 [.ref l0, .int l1] M (xQi Q) := xM_of (by decide +kernel) (Nat.le_of_ble_eq_true rfl) (eX12_fault hk_l0 h)
theorem kX12_fault {own : String} {cc : ByteArray} {nL : Nat} {rt : Option FieldType} {d pc ix : Nat} {L : List (Nat × Value)} {st : List Value} {M : Mem} {Rt : xGt → Array Value → State → Outcome → State → Prop} {Q : Int32 → Mem → Prop} {l0 : Nat} {l1 : Int32} (hd : decode cc pc = .ok (.invokevirtual ix, 3)) (q : Nat) (hq : pc + 3 = q) (hk_l0 : SHk l0 = 12) (w1 : Cond.methodLink own ix yX12_fault ∈ xTs) (hr : 1 < d) (hst : (st.map fun v => v.category).sum ≤ 8) (h : FX12_fault Q l0 l1 M) (k : ∀ (r : Int32) (N : Mem), Q r N → xX own cc nL rt d q L (.int r :: st) N Rt) : xX own cc nL rt d pc L (.int l1 :: .ref l0 :: st) M Rt :=
  x_callV_i (n := 1) (As := [.int l1]) hd q hq hk_l0 (by decide) rfl rfl w1 kw7_31 kw7_32 kw1_14 kw7_33 (by decide +kernel) rfl hr (by decide) hst _ rfl (cX12_fault_ hk_l0 h) k
def FX12_twoOf (Q : Int32 → Prop) (l0 : Nat) (l1 : Int32) (l2 : Int32) (l3 : Int32) (M : Mem) : Prop :=
  ((¬ l1 = 2 → ((¬ l1 = 3 → ((¬ l1 = 4 → ((¬ l1 = 5 → ((¬ l1 = 6 → ((¬ l1 = 7 → ((¬ l1 = 8 → ((¬ l1 = 10 → (((l2 + l3) ≤ 0 → Q 0) ∧ (¬ (l2 + l3) ≤ 0 → Q 1))) ∧ (l1 = 10 → Q (l2 * l3)))) ∧ (l1 = 8 → ((l2 ≤ l3 → Q 0) ∧ (¬ l2 ≤ l3 → Q 1))))) ∧ (l1 = 7 → ((¬ l2 = l3 → Q 0) ∧ (l2 = l3 → Q 1))))) ∧ (l1 = 6 → ((l3 ≤ l2 → Q 0) ∧ (¬ l3 ≤ l2 → Q 1))))) ∧ (l1 = 5 → (¬ (l3 : Int32) = 0) ∧ Q (l2 / l3)))) ∧ (l1 = 4 → Q (l2 * l3)))) ∧ (l1 = 3 → Q (l2 - l3)))) ∧ (l1 = 2 → Q (l2 + l3)))
theorem eX12_twoOf {Q : Int32 → Prop} {l0 : Nat} {l1 : Int32} {l2 : Int32} {l3 : Int32} {M : Mem} (hk_l0 : SHk l0 = 12) (h : FX12_twoOf Q l0 l1 l2 l3 M) : xX RX12 cX12_twoOf 4 (some .int) 1 0 [(0, .ref l0), (1, .int l1), (2, .int l2), (3, .int l3)] [] M (xQi (xP M Q)) := by
  unfold FX12_twoOf at h
  refine x_iload_n dX12_twoOf_0 rfl 1 rfl ?_
  refine x_iconst dX12_twoOf_1 kc_2 2 rfl ?_
  refine x_icmp_ne dX12_twoOf_2 9 5 rfl rfl (fun hc => ?_) (fun hc => ?_)
  · have h := h.1 hc
    refine x_iload_n dX12_twoOf_9 rfl 10 rfl ?_
    refine x_iconst dX12_twoOf_10 kc_3 11 rfl ?_
    refine x_icmp_ne dX12_twoOf_11 18 14 rfl rfl (fun hc => ?_) (fun hc => ?_)
    · have h := h.1 hc
      refine x_iload_n dX12_twoOf_18 rfl 19 rfl ?_
      refine x_iconst dX12_twoOf_19 kc_4 20 rfl ?_
      refine x_icmp_ne dX12_twoOf_20 27 23 rfl rfl (fun hc => ?_) (fun hc => ?_)
      · have h := h.1 hc
        refine x_iload_n dX12_twoOf_27 rfl 28 rfl ?_
        refine x_iconst dX12_twoOf_28 kc_5 29 rfl ?_
        refine x_icmp_ne dX12_twoOf_29 36 32 rfl rfl (fun hc => ?_) (fun hc => ?_)
        · have h := h.1 hc
          refine x_iload_n dX12_twoOf_36 rfl 37 rfl ?_
          refine x_bipush dX12_twoOf_37 kb_6 39 rfl ?_
          refine x_icmp_ne dX12_twoOf_39 53 42 rfl rfl (fun hc => ?_) (fun hc => ?_)
          · have h := h.1 hc
            refine x_iload_n dX12_twoOf_53 rfl 54 rfl ?_
            refine x_bipush dX12_twoOf_54 kb_7 56 rfl ?_
            refine x_icmp_ne dX12_twoOf_56 70 59 rfl rfl (fun hc => ?_) (fun hc => ?_)
            · have h := h.1 hc
              refine x_iload_n dX12_twoOf_70 rfl 71 rfl ?_
              refine x_bipush dX12_twoOf_71 kb_8 73 rfl ?_
              refine x_icmp_ne dX12_twoOf_73 87 76 rfl rfl (fun hc => ?_) (fun hc => ?_)
              · have h := h.1 hc
                refine x_iload_n dX12_twoOf_87 rfl 88 rfl ?_
                refine x_bipush dX12_twoOf_88 kb_10 90 rfl ?_
                refine x_icmp_ne dX12_twoOf_90 99 93 rfl rfl (fun hc => ?_) (fun hc => ?_)
                · have h := h.1 hc
                  refine x_iload_n dX12_twoOf_99 rfl 100 rfl ?_
                  refine x_iload_n dX12_twoOf_100 rfl 101 rfl ?_
                  refine x_iadd dX12_twoOf_101 102 rfl ?_
                  refine x_if_le dX12_twoOf_102 109 105 rfl rfl (fun hc => ?_) (fun hc => ?_)
                  · have h := h.1 hc
                    refine x_iconst dX12_twoOf_109 kc_0 110 rfl ?_
                    exact x_iret dX12_twoOf_110 ⟨rfl, h⟩
                  · have h := h.2 hc
                    refine x_iconst dX12_twoOf_105 kc_1 106 rfl ?_
                    refine x_goto dX12_twoOf_106 110 rfl ?_
                    exact x_iret dX12_twoOf_110 ⟨rfl, h⟩
                · have h := h.2 hc
                  refine x_iload_n dX12_twoOf_93 rfl 94 rfl ?_
                  refine x_iload_n dX12_twoOf_94 rfl 95 rfl ?_
                  refine x_imul dX12_twoOf_95 96 rfl ?_
                  refine x_goto dX12_twoOf_96 110 rfl ?_
                  exact x_iret dX12_twoOf_110 ⟨rfl, h⟩
              · have h := h.2 hc
                refine x_iload_n dX12_twoOf_76 rfl 77 rfl ?_
                refine x_iload_n dX12_twoOf_77 rfl 78 rfl ?_
                refine x_icmp_le dX12_twoOf_78 85 81 rfl rfl (fun hc => ?_) (fun hc => ?_)
                · have h := h.1 hc
                  refine x_iconst dX12_twoOf_85 kc_0 86 rfl ?_
                  exact x_iret dX12_twoOf_86 ⟨rfl, h⟩
                · have h := h.2 hc
                  refine x_iconst dX12_twoOf_81 kc_1 82 rfl ?_
                  refine x_goto dX12_twoOf_82 86 rfl ?_
                  exact x_iret dX12_twoOf_86 ⟨rfl, h⟩
            · have h := h.2 hc
              refine x_iload_n dX12_twoOf_59 rfl 60 rfl ?_
              refine x_iload_n dX12_twoOf_60 rfl 61 rfl ?_
              refine x_icmp_ne dX12_twoOf_61 68 64 rfl rfl (fun hc => ?_) (fun hc => ?_)
              · have h := h.1 hc
                refine x_iconst dX12_twoOf_68 kc_0 69 rfl ?_
                exact x_iret dX12_twoOf_69 ⟨rfl, h⟩
              · have h := h.2 hc
                refine x_iconst dX12_twoOf_64 kc_1 65 rfl ?_
                refine x_goto dX12_twoOf_65 69 rfl ?_
                exact x_iret dX12_twoOf_69 ⟨rfl, h⟩
          · have h := h.2 hc
            refine x_iload_n dX12_twoOf_42 rfl 43 rfl ?_
            refine x_iload_n dX12_twoOf_43 rfl 44 rfl ?_
            refine x_icmp_ge dX12_twoOf_44 51 47 rfl rfl (fun hc => ?_) (fun hc => ?_)
            · have h := h.1 hc
              refine x_iconst dX12_twoOf_51 kc_0 52 rfl ?_
              exact x_iret dX12_twoOf_52 ⟨rfl, h⟩
            · have h := h.2 hc
              refine x_iconst dX12_twoOf_47 kc_1 48 rfl ?_
              refine x_goto dX12_twoOf_48 52 rfl ?_
              exact x_iret dX12_twoOf_52 ⟨rfl, h⟩
        · have h := h.2 hc
          refine x_iload_n dX12_twoOf_32 rfl 33 rfl ?_
          refine x_iload_n dX12_twoOf_33 rfl 34 rfl ?_
          obtain ⟨hne, h⟩ := h
          refine x_idiv dX12_twoOf_34 hne 35 rfl ?_
          exact x_iret dX12_twoOf_35 ⟨rfl, h⟩
      · have h := h.2 hc
        refine x_iload_n dX12_twoOf_23 rfl 24 rfl ?_
        refine x_iload_n dX12_twoOf_24 rfl 25 rfl ?_
        refine x_imul dX12_twoOf_25 26 rfl ?_
        exact x_iret dX12_twoOf_26 ⟨rfl, h⟩
    · have h := h.2 hc
      refine x_iload_n dX12_twoOf_14 rfl 15 rfl ?_
      refine x_iload_n dX12_twoOf_15 rfl 16 rfl ?_
      refine x_isub dX12_twoOf_16 17 rfl ?_
      exact x_iret dX12_twoOf_17 ⟨rfl, h⟩
  · have h := h.2 hc
    refine x_iload_n dX12_twoOf_5 rfl 6 rfl ?_
    refine x_iload_n dX12_twoOf_6 rfl 7 rfl ?_
    refine x_iadd dX12_twoOf_7 8 rfl ?_
    exact x_iret dX12_twoOf_8 ⟨rfl, h⟩
theorem cX12_twoOf_ {Q : Int32 → Prop} {l0 : Nat} {l1 : Int32} {l2 : Int32} {l3 : Int32} {M : Mem} (hk_l0 : SHk l0 = 12) (h : FX12_twoOf Q l0 l1 l2 l3 M) : xM yX12_twoOf cX12_twoOf 4 (some .int) 1 [.ref l0, .int l1, .int l2, .int l3] M (xQi (xP M Q)) := xM_of (by decide +kernel) (Nat.le_of_ble_eq_true rfl) (eX12_twoOf hk_l0 h)
theorem kX12_twoOf {own : String} {cc : ByteArray} {nL : Nat} {rt : Option FieldType} {d pc ix : Nat} {L : List (Nat × Value)} {st : List Value} {M : Mem} {Rt : xGt → Array Value → State → Outcome → State → Prop} {Q : Int32 → Prop} {l0 : Nat} {l1 : Int32} {l2 : Int32} {l3 : Int32} (hd : decode cc pc = .ok (.invokevirtual ix, 3)) (q : Nat) (hq : pc + 3 = q) (hk_l0 : SHk l0 = 12) (w1 : Cond.methodLink own ix yX12_twoOf ∈ xTs) (hr : 1 < d) (hst : (st.map fun v => v.category).sum ≤ 8) (h : FX12_twoOf Q l0 l1 l2 l3 M) (k : ∀ (r : Int32), Q r → xX own cc nL rt d q L (.int r :: st) M Rt) : xX own cc nL rt d pc L (.int l3 :: .int l2 :: .int l1 :: .ref l0 :: st) M Rt :=
  x_callV_i (n := 3) (As := [.int l1, .int l2, .int l3]) hd q hq hk_l0 (by decide) rfl rfl w1 kw7_124 ks6_15 kw1_14 kw7_125 (by decide +kernel) rfl hr (by decide) hst _ rfl (cX12_twoOf_ hk_l0 h) (fun r N hN => by obtain ⟨rfl, hN⟩ := hN; exact k r hN)
def NX12_runs_83 (Q : Int32 → Mem → Prop) (B12 : Int32 → Int32 → Mem → Prop) (l0 : Nat) (l1 : Int32) (l3 : Int32) (l4 : Int32) (l5 : Int32) (s0 : Nat) (s1 : Int32) (s2 : Int32) (M : Mem) : Prop :=
  vp_in s1 (SHn s0) ∧ ∀ M1 : Mem, M1 = xu M s0 (ix s1) s2 → B12 (l4 + 1) (l5 + 1) M1
theorem nX12_runs_83 {Q : Int32 → Mem → Prop} {B12 : Int32 → Int32 → Mem → Prop} {l0 : Nat} {l1 : Int32} {l3 : Int32} {l4 : Int32} {l5 : Int32} {s0 : Nat} {s1 : Int32} {s2 : Int32} {M : Mem} (hB12 : ∀ (l4 : Int32) (l5 : Int32) (M : Mem), B12 l4 l5 M → xX RX12 cX12_runs 6 (some .int) 2 12 [(0, .ref l0), (1, .int l1), (3, .int l3), (4, .int l4), (5, .int l5)] [] M (xQi Q)) (hk_l0 : SHk l0 = 12) (hk_s0 : SHk s0 = 13) (h : NX12_runs_83 Q B12 l0 l1 l3 l4 l5 s0 s1 s2 M) : xX RX12 cX12_runs 6 (some .int) 2 83 [(0, .ref l0), (1, .int l1), (3, .int l3), (4, .int l4), (5, .int l5)] [.int s2, .int s1, .ref s0] M (xQi Q) := by
  unfold NX12_runs_83 at h
  obtain ⟨hin, h⟩ := h
  refine x_iastore dX12_runs_83 ⟨hk_s0, rfl⟩ hin 84 rfl (x_mem (fun M1 hM1 => ?_))
  have h := h M1 hM1
  refine x_iload dX12_runs_84 rfl 86 rfl ?_
  refine x_iconst dX12_runs_86 kc_1 87 rfl ?_
  refine x_iadd dX12_runs_87 88 rfl ?_
  refine x_istore dX12_runs_88 (Nat.le_of_ble_eq_true rfl) [(0, .ref l0), (1, .int l1), (3, .int l3), (4, .int (l4 + 1)), (5, .int l5)] rfl 90 rfl ?_
  refine x_goto dX12_runs_90 170 rfl ?_
  refine x_iinc dX12_runs_170 rfl (congrArg (l5 + ·) kc_1) (Nat.le_of_ble_eq_true rfl) [(0, .ref l0), (1, .int l1), (3, .int l3), (4, .int (l4 + 1)), (5, .int (l5 + 1))] rfl 173 rfl ?_
  refine x_goto dX12_runs_173 12 rfl ?_
  exact hB12 _ _ _ h
def NX12_runs_45 (Q : Int32 → Mem → Prop) (B12 : Int32 → Int32 → Mem → Prop) (l0 : Nat) (l1 : Int32) (l3 : Int32) (l4 : Int32) (l5 : Int32) (M : Mem) : Prop :=
  vp_in l5 1200 ∧ ((¬ (M (l0 + 13) (ix l5)) = 0 → vp_in l5 1200 ∧ vp_in (M (l0 + 14) (ix l5)) 9 ∧ NX12_runs_83 Q B12 l0 l1 l3 l4 l5 (l0 + 20) l4 (M (l0 + 19) (ix (M (l0 + 14) (ix l5)))) M) ∧ ((M (l0 + 13) (ix l5)) = 0 → vp_in l5 1200 ∧ NX12_runs_83 Q B12 l0 l1 l3 l4 l5 (l0 + 20) l4 (M (l0 + 14) (ix l5)) M))
theorem nX12_runs_45 {Q : Int32 → Mem → Prop} {B12 : Int32 → Int32 → Mem → Prop} {l0 : Nat} {l1 : Int32} {l3 : Int32} {l4 : Int32} {l5 : Int32} {M : Mem} (hB12 : ∀ (l4 : Int32) (l5 : Int32) (M : Mem), B12 l4 l5 M → xX RX12 cX12_runs 6 (some .int) 2 12 [(0, .ref l0), (1, .int l1), (3, .int l3), (4, .int l4), (5, .int l5)] [] M (xQi Q)) (hk_l0 : SHk l0 = 12) (h : NX12_runs_45 Q B12 l0 l1 l3 l4 l5 M) : xX RX12 cX12_runs 6 (some .int) 2 45 [(0, .ref l0), (1, .int l1), (3, .int l3), (4, .int l4), (5, .int l5)] [] M (xQi Q) := by
  unfold NX12_runs_45 at h
  refine x_aload_n dX12_runs_45 rfl 46 rfl ?_
  refine gf12_40 dX12_runs_46 49 rfl hk_l0 kw5_199 ?_
  refine x_iload dX12_runs_49 rfl 51 rfl ?_
  refine x_aload_n dX12_runs_51 rfl 52 rfl ?_
  refine gf12_22 dX12_runs_52 55 rfl hk_l0 kw5_181 ?_
  refine x_iload dX12_runs_55 rfl 57 rfl ?_
  obtain ⟨hin, h⟩ := h
  refine x_iaload dX12_runs_57 (ly12_22 hk_l0) hin 58 rfl ?_
  refine x_if_ne dX12_runs_58 71 61 rfl rfl (fun hc => ?_) (fun hc => ?_)
  · have h := h.1 hc
    refine x_aload_n dX12_runs_71 rfl 72 rfl ?_
    refine gf12_39 dX12_runs_72 75 rfl hk_l0 kw5_198 ?_
    refine x_aload_n dX12_runs_75 rfl 76 rfl ?_
    refine gf12_23 dX12_runs_76 79 rfl hk_l0 kw5_182 ?_
    refine x_iload dX12_runs_79 rfl 81 rfl ?_
    obtain ⟨hin, h⟩ := h
    refine x_iaload dX12_runs_81 (ly12_23 hk_l0) hin 82 rfl ?_
    obtain ⟨hin, h⟩ := h
    refine x_iaload dX12_runs_82 (ly12_39 hk_l0) hin 83 rfl ?_
    exact nX12_runs_83 hB12 hk_l0 (ly12_40 hk_l0).1 h
  · have h := h.2 hc
    refine x_aload_n dX12_runs_61 rfl 62 rfl ?_
    refine gf12_23 dX12_runs_62 65 rfl hk_l0 kw5_182 ?_
    refine x_iload dX12_runs_65 rfl 67 rfl ?_
    obtain ⟨hin, h⟩ := h
    refine x_iaload dX12_runs_67 (ly12_23 hk_l0) hin 68 rfl ?_
    refine x_goto dX12_runs_68 83 rfl ?_
    exact nX12_runs_83 hB12 hk_l0 (ly12_40 hk_l0).1 h
def lbX12_runs_12 (Q : Int32 → Mem → Prop) (l0 : Nat) (l1 : Int32) (l3 : Int32) (B12 : Int32 → Int32 → Mem → Prop) (l4 : Int32) (l5 : Int32) (M : Mem) : Prop :=
  ((((400 * l1) + l3) ≤ l5 → Q (M (l0 + 20) 0) M) ∧ (¬ ((400 * l1) + l3) ≤ l5 → vp_in l5 1200 ∧ (((M (l0 + 13) (ix l5)) = 0 → NX12_runs_45 Q B12 l0 l1 l3 l4 l5 M) ∧ (¬ (M (l0 + 13) (ix l5)) = 0 → vp_in l5 1200 ∧ ((¬ (M (l0 + 13) (ix l5)) = 1 → vp_in l5 1200 ∧ ((¬ (M (l0 + 13) (ix l5)) = 9 → vp_in l5 1200 ∧ vp_in ((l4 - 1) - 1) 420 ∧ vp_in (l4 - 1) 420 ∧ FX12_twoOf (fun (r2 : Int32) => vp_in ((l4 - 1) - 1) 420 ∧ ∀ M3 : Mem, M3 = xu M (l0 + 20) (ix ((l4 - 1) - 1)) r2 → B12 (l4 - 1) (l5 + 1) M3) l0 (M (l0 + 13) (ix l5)) (M (l0 + 20) (ix ((l4 - 1) - 1))) (M (l0 + 20) (ix (l4 - 1))) M) ∧ ((M (l0 + 13) (ix l5)) = 9 → vp_in (l4 - 1) 420 ∧ vp_in (l4 - 1) 420 ∧ ∀ M4 : Mem, M4 = xu M (l0 + 20) (ix (l4 - 1)) (1 - (M (l0 + 20) (ix (l4 - 1)))) → B12 l4 (l5 + 1) M4))) ∧ ((M (l0 + 13) (ix l5)) = 1 → NX12_runs_45 Q B12 l0 l1 l3 l4 l5 M))))))
def NX12_runs_12 (Q : Int32 → Mem → Prop) (l0 : Nat) (l1 : Int32) (l3 : Int32) (l4 : Int32) (l5 : Int32) (M : Mem) : Prop := xlp (fun (B : Int32 × Int32 × Mem → Prop) a => lbX12_runs_12 Q l0 l1 l3 (fun l4 l5 M => B (l4, l5, M)) a.1 a.2.1 a.2.2) (l4, l5, M)
theorem nX12_runs_12 {Q : Int32 → Mem → Prop} {l0 : Nat} {l1 : Int32} {l3 : Int32} {l4 : Int32} {l5 : Int32} {M : Mem} (hk_l0 : SHk l0 = 12) (h : NX12_runs_12 Q l0 l1 l3 l4 l5 M) : xX RX12 cX12_runs 6 (some .int) 2 12 [(0, .ref l0), (1, .int l1), (3, .int l3), (4, .int l4), (5, .int l5)] [] M (xQi Q) := by
  obtain ⟨n, h⟩ := h
  have hB12 : ∀ (n : Nat) (l4 : Int32) (l5 : Int32) (M : Mem), xlpn (fun (B : Int32 × Int32 × Mem → Prop) a => lbX12_runs_12 Q l0 l1 l3 (fun l4 l5 M => B (l4, l5, M)) a.1 a.2.1 a.2.2) n (l4, l5, M) → xX RX12 cX12_runs 6 (some .int) 2 12 [(0, .ref l0), (1, .int l1), (3, .int l3), (4, .int l4), (5, .int l5)] [] M (xQi Q) := by
    intro n
    induction n with
    | zero => intro l4 l5 M h; exact False.elim h
    | succ n ih =>
      intro l4 l5 M h
      have hB12 := ih
      have h : lbX12_runs_12 Q l0 l1 l3 (fun l4 l5 M => xlpn (fun (B : Int32 × Int32 × Mem → Prop) a => lbX12_runs_12 Q l0 l1 l3 (fun l4 l5 M => B (l4, l5, M)) a.1 a.2.1 a.2.2) n (l4, l5, M)) l4 l5 M := h
      unfold lbX12_runs_12 at h
      refine x_iload dX12_runs_12 rfl 14 rfl ?_
      refine x_sipush dX12_runs_14 kh_400 17 rfl ?_
      refine x_iload_n dX12_runs_17 rfl 18 rfl ?_
      refine x_imul dX12_runs_18 19 rfl ?_
      refine x_iload_n dX12_runs_19 rfl 20 rfl ?_
      refine x_iadd dX12_runs_20 21 rfl ?_
      refine x_icmp_ge dX12_runs_21 176 24 rfl rfl (fun hc => ?_) (fun hc => ?_)
      · have h := h.1 hc
        refine x_aload_n dX12_runs_176 rfl 177 rfl ?_
        refine gf12_40 dX12_runs_177 180 rfl hk_l0 kw5_199 ?_
        refine x_iconst dX12_runs_180 kc_0 181 rfl ?_
        refine x_iaload dX12_runs_181 (ly12_40 hk_l0) (by unfold vp_in; decide) 182 rfl ?_
        exact x_iret dX12_runs_182 h
      · have h := h.2 hc
        refine x_aload_n dX12_runs_24 rfl 25 rfl ?_
        refine gf12_22 dX12_runs_25 28 rfl hk_l0 kw5_181 ?_
        refine x_iload dX12_runs_28 rfl 30 rfl ?_
        obtain ⟨hin, h⟩ := h
        refine x_iaload dX12_runs_30 (ly12_22 hk_l0) hin 31 rfl ?_
        refine x_if_eq dX12_runs_31 45 34 rfl rfl (fun hc => ?_) (fun hc => ?_)
        · have h := h.1 hc
          exact nX12_runs_45 hB12 hk_l0 h
        · have h := h.2 hc
          refine x_aload_n dX12_runs_34 rfl 35 rfl ?_
          refine gf12_22 dX12_runs_35 38 rfl hk_l0 kw5_181 ?_
          refine x_iload dX12_runs_38 rfl 40 rfl ?_
          obtain ⟨hin, h⟩ := h
          refine x_iaload dX12_runs_40 (ly12_22 hk_l0) hin 41 rfl ?_
          refine x_iconst dX12_runs_41 kc_1 42 rfl ?_
          refine x_icmp_ne dX12_runs_42 93 45 rfl rfl (fun hc => ?_) (fun hc => ?_)
          · have h := h.1 hc
            refine x_aload_n dX12_runs_93 rfl 94 rfl ?_
            refine gf12_22 dX12_runs_94 97 rfl hk_l0 kw5_181 ?_
            refine x_iload dX12_runs_97 rfl 99 rfl ?_
            obtain ⟨hin, h⟩ := h
            refine x_iaload dX12_runs_99 (ly12_22 hk_l0) hin 100 rfl ?_
            refine x_bipush dX12_runs_100 kb_9 102 rfl ?_
            refine x_icmp_ne dX12_runs_102 128 105 rfl rfl (fun hc => ?_) (fun hc => ?_)
            · have h := h.1 hc
              refine x_iload dX12_runs_128 rfl 130 rfl ?_
              refine x_iconst dX12_runs_130 kc_1 131 rfl ?_
              refine x_isub dX12_runs_131 132 rfl ?_
              refine x_istore dX12_runs_132 (Nat.le_of_ble_eq_true rfl) [(0, .ref l0), (1, .int l1), (3, .int l3), (4, .int (l4 - 1)), (5, .int l5)] rfl 134 rfl ?_
              refine x_aload_n dX12_runs_134 rfl 135 rfl ?_
              refine gf12_40 dX12_runs_135 138 rfl hk_l0 kw5_199 ?_
              refine x_iload dX12_runs_138 rfl 140 rfl ?_
              refine x_iconst dX12_runs_140 kc_1 141 rfl ?_
              refine x_isub dX12_runs_141 142 rfl ?_
              refine x_aload_n dX12_runs_142 rfl 143 rfl ?_
              refine x_aload_n dX12_runs_143 rfl 144 rfl ?_
              refine gf12_22 dX12_runs_144 147 rfl hk_l0 kw5_181 ?_
              refine x_iload dX12_runs_147 rfl 149 rfl ?_
              obtain ⟨hin, h⟩ := h
              refine x_iaload dX12_runs_149 (ly12_22 hk_l0) hin 150 rfl ?_
              refine x_aload_n dX12_runs_150 rfl 151 rfl ?_
              refine gf12_40 dX12_runs_151 154 rfl hk_l0 kw5_199 ?_
              refine x_iload dX12_runs_154 rfl 156 rfl ?_
              refine x_iconst dX12_runs_156 kc_1 157 rfl ?_
              refine x_isub dX12_runs_157 158 rfl ?_
              obtain ⟨hin, h⟩ := h
              refine x_iaload dX12_runs_158 (ly12_40 hk_l0) hin 159 rfl ?_
              refine x_aload_n dX12_runs_159 rfl 160 rfl ?_
              refine gf12_40 dX12_runs_160 163 rfl hk_l0 kw5_199 ?_
              refine x_iload dX12_runs_163 rfl 165 rfl ?_
              obtain ⟨hin, h⟩ := h
              refine x_iaload dX12_runs_165 (ly12_40 hk_l0) hin 166 rfl ?_
              refine kX12_twoOf dX12_runs_166 169 rfl hk_l0 kw7_122 (Nat.le_of_ble_eq_true rfl) (Nat.le_of_ble_eq_true rfl) h (fun r2 h => ?_)
              obtain ⟨hin, h⟩ := h
              refine x_iastore dX12_runs_169 (ly12_40 hk_l0) hin 170 rfl (x_mem (fun M3 hM3 => ?_))
              have h := h M3 hM3
              refine x_iinc dX12_runs_170 rfl (congrArg (l5 + ·) kc_1) (Nat.le_of_ble_eq_true rfl) [(0, .ref l0), (1, .int l1), (3, .int l3), (4, .int (l4 - 1)), (5, .int (l5 + 1))] rfl 173 rfl ?_
              refine x_goto dX12_runs_173 12 rfl ?_
              exact hB12 _ _ _ h
            · have h := h.2 hc
              refine x_aload_n dX12_runs_105 rfl 106 rfl ?_
              refine gf12_40 dX12_runs_106 109 rfl hk_l0 kw5_199 ?_
              refine x_iload dX12_runs_109 rfl 111 rfl ?_
              refine x_iconst dX12_runs_111 kc_1 112 rfl ?_
              refine x_isub dX12_runs_112 113 rfl ?_
              refine x_iconst dX12_runs_113 kc_1 114 rfl ?_
              refine x_aload_n dX12_runs_114 rfl 115 rfl ?_
              refine gf12_40 dX12_runs_115 118 rfl hk_l0 kw5_199 ?_
              refine x_iload dX12_runs_118 rfl 120 rfl ?_
              refine x_iconst dX12_runs_120 kc_1 121 rfl ?_
              refine x_isub dX12_runs_121 122 rfl ?_
              obtain ⟨hin, h⟩ := h
              refine x_iaload dX12_runs_122 (ly12_40 hk_l0) hin 123 rfl ?_
              refine x_isub dX12_runs_123 124 rfl ?_
              obtain ⟨hin, h⟩ := h
              refine x_iastore dX12_runs_124 (ly12_40 hk_l0) hin 125 rfl (x_mem (fun M4 hM4 => ?_))
              have h := h M4 hM4
              refine x_goto dX12_runs_125 170 rfl ?_
              refine x_iinc dX12_runs_170 rfl (congrArg (l5 + ·) kc_1) (Nat.le_of_ble_eq_true rfl) [(0, .ref l0), (1, .int l1), (3, .int l3), (4, .int l4), (5, .int (l5 + 1))] rfl 173 rfl ?_
              refine x_goto dX12_runs_173 12 rfl ?_
              exact hB12 _ _ _ h
          · have h := h.2 hc
            exact nX12_runs_45 hB12 hk_l0 h
  exact hB12 n l4 l5 M h
def FX12_runs (Q : Int32 → Mem → Prop) (l0 : Nat) (l1 : Int32) (l2 : Int32) (l3 : Int32) (M : Mem) : Prop :=
  NX12_runs_12 Q l0 l1 l3 0 ((400 * l1) + l2) M
theorem eX12_runs {Q : Int32 → Mem → Prop} {l0 : Nat} {l1 : Int32} {l2 : Int32} {l3 : Int32} {M : Mem} (hk_l0 : SHk l0 = 12) (h : FX12_runs Q l0 l1 l2 l3 M) : xX RX12 cX12_runs 6 (some .int) 2 0 [(0, .ref l0), (1, .int l1), (2, .int l2), (3, .int l3)] [] M (xQi Q) := by
  unfold FX12_runs at h
  refine x_iconst dX12_runs_0 kc_0 1 rfl ?_
  refine x_istore dX12_runs_1 (Nat.le_of_ble_eq_true rfl) [(0, .ref l0), (1, .int l1), (2, .int l2), (3, .int l3), (4, .int 0)] rfl 3 rfl ?_
  refine x_sipush dX12_runs_3 kh_400 6 rfl ?_
  refine x_iload_n dX12_runs_6 rfl 7 rfl ?_
  refine x_imul dX12_runs_7 8 rfl ?_
  refine x_iload_n dX12_runs_8 rfl 9 rfl ?_
  refine x_iadd dX12_runs_9 10 rfl ?_
  refine x_istore dX12_runs_10 (Nat.le_of_ble_eq_true rfl) [(0, .ref l0), (1, .int l1), (2, .int l2), (3, .int l3), (4, .int 0), (5, .int ((400 * l1) + l2))] rfl 12 rfl ?_
  refine x_weak [(0, .ref l0), (1, .int l1), (3, .int l3), (4, .int 0), (5, .int ((400 * l1) + l2))] [0, 1, 3, 4, 5] rfl ?_
  exact nX12_runs_12 hk_l0 h
theorem cX12_runs_ {Q : Int32 → Mem → Prop} {l0 : Nat} {l1 : Int32} {l2 : Int32} {l3 : Int32} {M : Mem} (hk_l0 : SHk l0 = 12) (h : FX12_runs Q l0 l1 l2 l3 M) : xM yX12_runs cX12_runs 6 (some .int) 2 [.ref l0, .int l1, .int l2, .int l3] M (xQi Q) := xM_of (by decide +kernel) (Nat.le_of_ble_eq_true rfl) (eX12_runs hk_l0 h)
theorem kX12_runs {own : String} {cc : ByteArray} {nL : Nat} {rt : Option FieldType} {d pc ix : Nat} {L : List (Nat × Value)} {st : List Value} {M : Mem} {Rt : xGt → Array Value → State → Outcome → State → Prop} {Q : Int32 → Mem → Prop} {l0 : Nat} {l1 : Int32} {l2 : Int32} {l3 : Int32} (hd : decode cc pc = .ok (.invokevirtual ix, 3)) (q : Nat) (hq : pc + 3 = q) (hk_l0 : SHk l0 = 12) (w1 : Cond.methodLink own ix yX12_runs ∈ xTs) (hr : 2 < d) (hst : (st.map fun v => v.category).sum ≤ 8) (h : FX12_runs Q l0 l1 l2 l3 M) (k : ∀ (r : Int32) (N : Mem), Q r N → xX own cc nL rt d q L (.int r :: st) N Rt) : xX own cc nL rt d pc L (.int l3 :: .int l2 :: .int l1 :: .ref l0 :: st) M Rt :=
  x_callV_i (n := 3) (As := [.int l1, .int l2, .int l3]) hd q hq hk_l0 (by decide) rfl rfl w1 kw7_120 ks6_14 kw1_14 kw7_121 (by decide +kernel) rfl hr (by decide) hst _ rfl (cX12_runs_ hk_l0 h) k
