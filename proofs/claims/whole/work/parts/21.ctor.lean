theorem zkkb_m100 : (Int8.ofInt (-100)).toInt32 = (-100) := by decide
theorem zkkb_6 : (Int8.ofInt 6).toInt32 = 6 := by decide
theorem zkkb_7 : (Int8.ofInt 7).toInt32 = 7 := by decide
theorem zkkb_8 : (Int8.ofInt 8).toInt32 = 8 := by decide
theorem zkkb_9 : (Int8.ofInt 9).toInt32 = 9 := by decide
theorem zkkb_10 : (Int8.ofInt 10).toInt32 = 10 := by decide
theorem zkkb_11 : (Int8.ofInt 11).toInt32 = 11 := by decide
theorem zkkb_12 : (Int8.ofInt 12).toInt32 = 12 := by decide
theorem zkkb_13 : (Int8.ofInt 13).toInt32 = 13 := by decide
theorem zkkb_14 : (Int8.ofInt 14).toInt32 = 14 := by decide
theorem zkkb_15 : (Int8.ofInt 15).toInt32 = 15 := by decide
theorem zkkb_16 : (Int8.ofInt 16).toInt32 = 16 := by decide
theorem zkkb_17 : (Int8.ofInt 17).toInt32 = 17 := by decide
theorem zkkb_18 : (Int8.ofInt 18).toInt32 = 18 := by decide
theorem zkkb_19 : (Int8.ofInt 19).toInt32 = 19 := by decide
theorem zkkb_20 : (Int8.ofInt 20).toInt32 = 20 := by decide
theorem zkkb_21 : (Int8.ofInt 21).toInt32 = 21 := by decide
theorem zkkb_22 : (Int8.ofInt 22).toInt32 = 22 := by decide
theorem zkkb_23 : (Int8.ofInt 23).toInt32 = 23 := by decide
theorem zkkb_24 : (Int8.ofInt 24).toInt32 = 24 := by decide
theorem zkkb_25 : (Int8.ofInt 25).toInt32 = 25 := by decide
theorem zkkb_26 : (Int8.ofInt 26).toInt32 = 26 := by decide
theorem zkkb_27 : (Int8.ofInt 27).toInt32 = 27 := by decide
theorem zkkb_28 : (Int8.ofInt 28).toInt32 = 28 := by decide
theorem zkkb_29 : (Int8.ofInt 29).toInt32 = 29 := by decide
theorem zkkb_30 : (Int8.ofInt 30).toInt32 = 30 := by decide
theorem zkkb_31 : (Int8.ofInt 31).toInt32 = 31 := by decide
theorem zkkb_32 : (Int8.ofInt 32).toInt32 = 32 := by decide
theorem zkkb_33 : (Int8.ofInt 33).toInt32 = 33 := by decide
theorem zkkb_34 : (Int8.ofInt 34).toInt32 = 34 := by decide
theorem zkkb_35 : (Int8.ofInt 35).toInt32 = 35 := by decide
theorem zkkb_36 : (Int8.ofInt 36).toInt32 = 36 := by decide
theorem zkkb_37 : (Int8.ofInt 37).toInt32 = 37 := by decide
theorem zkkb_38 : (Int8.ofInt 38).toInt32 = 38 := by decide
theorem zkkb_39 : (Int8.ofInt 39).toInt32 = 39 := by decide
theorem zkkb_40 : (Int8.ofInt 40).toInt32 = 40 := by decide
theorem zkkb_41 : (Int8.ofInt 41).toInt32 = 41 := by decide
theorem zkkb_42 : (Int8.ofInt 42).toInt32 = 42 := by decide
theorem zkkb_43 : (Int8.ofInt 43).toInt32 = 43 := by decide
theorem zkkb_44 : (Int8.ofInt 44).toInt32 = 44 := by decide
theorem zkkb_45 : (Int8.ofInt 45).toInt32 = 45 := by decide
theorem zkkb_46 : (Int8.ofInt 46).toInt32 = 46 := by decide
theorem zkkb_47 : (Int8.ofInt 47).toInt32 = 47 := by decide
theorem zkkb_48 : (Int8.ofInt 48).toInt32 = 48 := by decide
theorem zkkb_49 : (Int8.ofInt 49).toInt32 = 49 := by decide
theorem zkkb_50 : (Int8.ofInt 50).toInt32 = 50 := by decide
theorem zkkb_51 : (Int8.ofInt 51).toInt32 = 51 := by decide
theorem zkkb_52 : (Int8.ofInt 52).toInt32 = 52 := by decide
theorem zkkb_53 : (Int8.ofInt 53).toInt32 = 53 := by decide
theorem zkkb_54 : (Int8.ofInt 54).toInt32 = 54 := by decide
theorem zkkb_55 : (Int8.ofInt 55).toInt32 = 55 := by decide
theorem zkkb_56 : (Int8.ofInt 56).toInt32 = 56 := by decide
theorem zkkb_57 : (Int8.ofInt 57).toInt32 = 57 := by decide
theorem zkkb_58 : (Int8.ofInt 58).toInt32 = 58 := by decide
theorem zkkb_59 : (Int8.ofInt 59).toInt32 = 59 := by decide
theorem zkkb_60 : (Int8.ofInt 60).toInt32 = 60 := by decide
theorem zkkb_61 : (Int8.ofInt 61).toInt32 = 61 := by decide
theorem zkkb_62 : (Int8.ofInt 62).toInt32 = 62 := by decide
theorem zkkb_63 : (Int8.ofInt 63).toInt32 = 63 := by decide
theorem zkkb_64 : (Int8.ofInt 64).toInt32 = 64 := by decide
theorem zkkb_65 : (Int8.ofInt 65).toInt32 = 65 := by decide
theorem zkkb_66 : (Int8.ofInt 66).toInt32 = 66 := by decide
theorem zkkb_67 : (Int8.ofInt 67).toInt32 = 67 := by decide
theorem zkkb_68 : (Int8.ofInt 68).toInt32 = 68 := by decide
theorem zkkb_69 : (Int8.ofInt 69).toInt32 = 69 := by decide
theorem zkkb_70 : (Int8.ofInt 70).toInt32 = 70 := by decide
theorem zkkb_71 : (Int8.ofInt 71).toInt32 = 71 := by decide
theorem zkkb_72 : (Int8.ofInt 72).toInt32 = 72 := by decide
theorem zkkb_73 : (Int8.ofInt 73).toInt32 = 73 := by decide
theorem zkkb_74 : (Int8.ofInt 74).toInt32 = 74 := by decide
theorem zkkb_75 : (Int8.ofInt 75).toInt32 = 75 := by decide
theorem zkkb_76 : (Int8.ofInt 76).toInt32 = 76 := by decide
theorem zkkb_77 : (Int8.ofInt 77).toInt32 = 77 := by decide
theorem zkkb_78 : (Int8.ofInt 78).toInt32 = 78 := by decide
theorem zkkb_79 : (Int8.ofInt 79).toInt32 = 79 := by decide
theorem zkkb_80 : (Int8.ofInt 80).toInt32 = 80 := by decide
theorem zkkb_81 : (Int8.ofInt 81).toInt32 = 81 := by decide
theorem zkkb_82 : (Int8.ofInt 82).toInt32 = 82 := by decide
theorem zkkb_83 : (Int8.ofInt 83).toInt32 = 83 := by decide
theorem zkkb_84 : (Int8.ofInt 84).toInt32 = 84 := by decide
theorem zkkb_85 : (Int8.ofInt 85).toInt32 = 85 := by decide
theorem zkkb_86 : (Int8.ofInt 86).toInt32 = 86 := by decide
theorem zkkb_87 : (Int8.ofInt 87).toInt32 = 87 := by decide
theorem zkkb_88 : (Int8.ofInt 88).toInt32 = 88 := by decide
theorem zkkb_89 : (Int8.ofInt 89).toInt32 = 89 := by decide
theorem zkkb_90 : (Int8.ofInt 90).toInt32 = 90 := by decide
theorem zkkb_91 : (Int8.ofInt 91).toInt32 = 91 := by decide
theorem zkkb_92 : (Int8.ofInt 92).toInt32 = 92 := by decide
theorem zkkb_93 : (Int8.ofInt 93).toInt32 = 93 := by decide
theorem zkkb_94 : (Int8.ofInt 94).toInt32 = 94 := by decide
theorem zkkb_95 : (Int8.ofInt 95).toInt32 = 95 := by decide
theorem zkkb_96 : (Int8.ofInt 96).toInt32 = 96 := by decide
theorem zkkb_97 : (Int8.ofInt 97).toInt32 = 97 := by decide
theorem zkkb_98 : (Int8.ofInt 98).toInt32 = 98 := by decide
theorem zkkb_99 : (Int8.ofInt 99).toInt32 = 99 := by decide
theorem zkkb_100 : (Int8.ofInt 100).toInt32 = 100 := by decide
theorem zkkb_101 : (Int8.ofInt 101).toInt32 = 101 := by decide
theorem zkkb_102 : (Int8.ofInt 102).toInt32 = 102 := by decide
theorem zkkb_103 : (Int8.ofInt 103).toInt32 = 103 := by decide
theorem zkkb_104 : (Int8.ofInt 104).toInt32 = 104 := by decide
theorem zkkb_105 : (Int8.ofInt 105).toInt32 = 105 := by decide
theorem zkkb_106 : (Int8.ofInt 106).toInt32 = 106 := by decide
theorem zkkb_107 : (Int8.ofInt 107).toInt32 = 107 := by decide
theorem zkkb_108 : (Int8.ofInt 108).toInt32 = 108 := by decide
theorem zkkb_109 : (Int8.ofInt 109).toInt32 = 109 := by decide
theorem zkkb_110 : (Int8.ofInt 110).toInt32 = 110 := by decide
theorem zkkb_111 : (Int8.ofInt 111).toInt32 = 111 := by decide
theorem zkkb_112 : (Int8.ofInt 112).toInt32 = 112 := by decide
theorem zkkb_113 : (Int8.ofInt 113).toInt32 = 113 := by decide
theorem zkkb_114 : (Int8.ofInt 114).toInt32 = 114 := by decide
theorem zkkb_115 : (Int8.ofInt 115).toInt32 = 115 := by decide
theorem zkkb_116 : (Int8.ofInt 116).toInt32 = 116 := by decide
theorem zkkb_117 : (Int8.ofInt 117).toInt32 = 117 := by decide
theorem zkkb_118 : (Int8.ofInt 118).toInt32 = 118 := by decide
theorem zkkb_119 : (Int8.ofInt 119).toInt32 = 119 := by decide
theorem zkkb_120 : (Int8.ofInt 120).toInt32 = 120 := by decide
theorem zkkb_121 : (Int8.ofInt 121).toInt32 = 121 := by decide
theorem zkkb_122 : (Int8.ofInt 122).toInt32 = 122 := by decide
theorem zkkb_123 : (Int8.ofInt 123).toInt32 = 123 := by decide
theorem zkkb_124 : (Int8.ofInt 124).toInt32 = 124 := by decide
theorem zkkb_125 : (Int8.ofInt 125).toInt32 = 125 := by decide
theorem zkkc_m1 : Int32.ofInt (-1) = (-1) := by decide
theorem zkkc_0 : Int32.ofInt 0 = 0 := by decide
theorem zkkc_1 : Int32.ofInt 1 = 1 := by decide
theorem zkkc_2 : Int32.ofInt 2 = 2 := by decide
theorem zkkc_3 : Int32.ofInt 3 = 3 := by decide
theorem zkkc_4 : Int32.ofInt 4 = 4 := by decide
theorem zkkc_5 : Int32.ofInt 5 = 5 := by decide
theorem zkkh_128 : (Int16.ofInt 128).toInt32 = 128 := by decide
theorem zkkh_400 : (Int16.ofInt 400).toInt32 = 400 := by decide
theorem zkkh_401 : (Int16.ofInt 401).toInt32 = 401 := by decide
theorem zkkh_420 : (Int16.ofInt 420).toInt32 = 420 := by decide
theorem zkkh_600 : (Int16.ofInt 600).toInt32 = 600 := by decide
theorem zkkh_642 : (Int16.ofInt 642).toInt32 = 642 := by decide
theorem zkkh_1200 : (Int16.ofInt 1200).toInt32 = 1200 := by decide
theorem zkkh_2100 : (Int16.ofInt 2100).toInt32 = 2100 := by decide
theorem z_eq {own : String} {cc : ByteArray} {nL d pc : Nat} {L : List (Nat × Value)} {st : List Value} {n : Nat} {Z : Nat → Nat → Bool} {M : Mem} {u v kc sc n1 : Nat} {Z1 : Nat → Nat → Bool} {M1 : Mem} (n2 u2 v2 : Nat) (hn : n = n2) (hu : u = u2) (hv : v = v2) (k : zX own cc nL d pc L st n2 Z M u2 v2 kc sc n1 Z1 M1) : zX own cc nL d pc L st n Z M u v kc sc n1 Z1 M1 := by
  subst hn; subst hu; subst hv; exact k
theorem zdf0 : ∀ (w : Value) (j : Nat), j < 6 → defaultValue (tyX0 j) = (if xoff 0 j = 0 then Value.int 0 else if false = true then w else Value.null) := by
  intro w j hj
  have : ∀ j, j < 6 → defaultValue (tyX0 j) = (if xoff 0 j = 0 then Value.int 0 else Value.null) := by decide +kernel
  rw [this j hj]
  simp
theorem zdf1 : ∀ (w : Value) (j : Nat), j < 2 → defaultValue (tyX1 j) = (if xoff 1 j = 0 then Value.int 0 else if false = true then w else Value.null) := by
  intro w j hj
  have : ∀ j, j < 2 → defaultValue (tyX1 j) = (if xoff 1 j = 0 then Value.int 0 else Value.null) := by decide +kernel
  rw [this j hj]
  simp
theorem zdf2 : ∀ (w : Value) (j : Nat), j < 8 → defaultValue (tyX2 j) = (if xoff 2 j = 0 then Value.int 0 else if false = true then w else Value.null) := by
  intro w j hj
  have : ∀ j, j < 8 → defaultValue (tyX2 j) = (if xoff 2 j = 0 then Value.int 0 else Value.null) := by decide +kernel
  rw [this j hj]
  simp
theorem zdf3 : ∀ (w : Value) (j : Nat), j < 2 → defaultValue (tyX3 j) = (if xoff 3 j = 0 then Value.int 0 else if false = true then w else Value.null) := by
  intro w j hj
  have : ∀ j, j < 2 → defaultValue (tyX3 j) = (if xoff 3 j = 0 then Value.int 0 else Value.null) := by decide +kernel
  rw [this j hj]
  simp
theorem zdf4 : ∀ (w : Value) (j : Nat), j < 5 → defaultValue (tyX4 j) = (if xoff 4 j = 0 then Value.int 0 else if false = true then w else Value.null) := by
  intro w j hj
  have : ∀ j, j < 5 → defaultValue (tyX4 j) = (if xoff 4 j = 0 then Value.int 0 else Value.null) := by decide +kernel
  rw [this j hj]
  simp
theorem zdf5 : ∀ (w : Value) (j : Nat), j < 12 → defaultValue (tyX5 j) = (if xoff 5 j = 0 then Value.int 0 else if false = true then w else Value.null) := by
  intro w j hj
  have : ∀ j, j < 12 → defaultValue (tyX5 j) = (if xoff 5 j = 0 then Value.int 0 else Value.null) := by decide +kernel
  rw [this j hj]
  simp
theorem zdf6 : ∀ (w : Value) (j : Nat), j < 3 → defaultValue (tyX6 j) = (if xoff 6 j = 0 then Value.int 0 else if false = true then w else Value.null) := by
  intro w j hj
  have : ∀ j, j < 3 → defaultValue (tyX6 j) = (if xoff 6 j = 0 then Value.int 0 else Value.null) := by decide +kernel
  rw [this j hj]
  simp
theorem zdf7 : ∀ (w : Value) (j : Nat), j < 3 → defaultValue (tyX7 j) = (if xoff 7 j = 0 then Value.int 0 else if false = true then w else Value.null) := by
  intro w j hj
  have : ∀ j, j < 3 → defaultValue (tyX7 j) = (if xoff 7 j = 0 then Value.int 0 else Value.null) := by decide +kernel
  rw [this j hj]
  simp
theorem zdf8 : ∀ (w : Value) (j : Nat), j < 4 → defaultValue (tyX8 j) = (if xoff 8 j = 0 then Value.int 0 else if false = true then w else Value.null) := by
  intro w j hj
  have : ∀ j, j < 4 → defaultValue (tyX8 j) = (if xoff 8 j = 0 then Value.int 0 else Value.null) := by decide +kernel
  rw [this j hj]
  simp
theorem zdf9 : ∀ (w : Value) (j : Nat), j < 19 → defaultValue (tyX9 j) = (if xoff 9 j = 0 then Value.int 0 else if false = true then w else Value.null) := by
  intro w j hj
  have : ∀ j, j < 19 → defaultValue (tyX9 j) = (if xoff 9 j = 0 then Value.int 0 else Value.null) := by decide +kernel
  rw [this j hj]
  simp
theorem zdf10 : ∀ (w : Value) (j : Nat), j < 4 → defaultValue (tyX10 j) = (if xoff 10 j = 0 then Value.int 0 else if false = true then w else Value.null) := by
  intro w j hj
  have : ∀ j, j < 4 → defaultValue (tyX10 j) = (if xoff 10 j = 0 then Value.int 0 else Value.null) := by decide +kernel
  rw [this j hj]
  simp
theorem zdf11 : ∀ (w : Value) (j : Nat), j < 9 → defaultValue (tyX11 j) = (if xoff 11 j = 0 then Value.int 0 else if false = true then w else Value.null) := by
  intro w j hj
  have : ∀ j, j < 9 → defaultValue (tyX11 j) = (if xoff 11 j = 0 then Value.int 0 else Value.null) := by decide +kernel
  rw [this j hj]
  simp
theorem zdf12 : ∀ (w : Value) (j : Nat), j < 50 → defaultValue (tyX12 j) = (if xoff 12 j = 0 then Value.int 0 else if false = true then w else Value.null) := by
  intro w j hj
  have : ∀ j, j < 50 → defaultValue (tyX12 j) = (if xoff 12 j = 0 then Value.int 0 else Value.null) := by decide +kernel
  rw [this j hj]
  simp
def zfill (M : Mem) (c N : Nat) (x : Int32) : Mem := xuC M c (fun j => if j < N then x else M c j)
theorem lyt2 {c : Nat} (h : SHk c = 2) : c + 7 ≤ 192 := xall (P := fun c => SHk c = 2 → c + 7 ≤ 192) (by decide +kernel) (by decide) c h h
theorem lyt6 {c : Nat} (h : SHk c = 6) : c + 3 ≤ 192 := xall (P := fun c => SHk c = 6 → c + 3 ≤ 192) (by decide +kernel) (by decide) c h h
theorem lyt4 {c : Nat} (h : SHk c = 4) : c + 5 ≤ 192 := xall (P := fun c => SHk c = 4 → c + 5 ≤ 192) (by decide +kernel) (by decide) c h h
theorem lyt7 {c : Nat} (h : SHk c = 7) : c + 3 ≤ 192 := xall (P := fun c => SHk c = 7 → c + 3 ≤ 192) (by decide +kernel) (by decide) c h h
theorem lyt10 {c : Nat} (h : SHk c = 10) : c + 4 ≤ 192 := xall (P := fun c => SHk c = 10 → c + 4 ≤ 192) (by decide +kernel) (by decide) c h h
theorem lyt8 {c : Nat} (h : SHk c = 8) : c + 4 ≤ 192 := xall (P := fun c => SHk c = 8 → c + 4 ≤ 192) (by decide +kernel) (by decide) c h h
theorem lyt1 {c : Nat} (h : SHk c = 1) : c + 3 ≤ 192 := xall (P := fun c => SHk c = 1 → c + 3 ≤ 192) (by decide +kernel) (by decide) c h h
theorem lyt9 {c : Nat} (h : SHk c = 9) : c + 10 ≤ 192 := xall (P := fun c => SHk c = 9 → c + 10 ≤ 192) (by decide +kernel) (by decide) c h h
theorem lyt0 {c : Nat} (h : SHk c = 0) : c + 33 ≤ 192 := xall (P := fun c => SHk c = 0 → c + 33 ≤ 192) (by decide +kernel) (by decide) c h h
def zZ_X2 (c : Nat) (Z : Nat → Nat → Bool) : Nat → Nat → Bool := zu (zu (zu (zu (zu (zu Z c 0) c 1) c 2) c 3) c 4) c 5
def zM_X2 (c : Nat) (M : Mem) : Mem := xuC (xuC (xuC (xuC (xuC (xuC M (c + 1) (fun _ => 0)) (c + 2) (fun _ => 0)) (c + 3) (fun _ => 0)) (c + 4) (fun _ => 0)) (c + 5) (fun _ => 0)) (c + 6) (fun _ => 0)
set_option maxRecDepth 4000 in
theorem zc_X2 {c : Nat} {Z : Nat → Nat → Bool} {M : Mem} (hk : SHk c = 2) : zM yX2_init cX2_init 1 1 [.ref c] (c + 1) Z M 6 496 (c + 7) (zZ_X2 c Z) (zM_X2 c M) := by
  refine zM_of (by decide +kernel) rfl (Nat.le_of_ble_eq_true rfl) ?_
  show zX RX2 _ _ _ _ [(0, .ref c)] _ _ _ _ _ _ _ _ _ _ _
  refine z_aload_n dX2_init_0 rfl 1 rfl ?_
  refine z_obj dX2_init_1 kw1_142 kw1_28 kw1_29 (by decide) (Nat.le_of_ble_eq_true rfl) 4 rfl ?_
  refine z_aload_n dX2_init_4 rfl 5 rfl ?_
  refine z_sipush dX2_init_5 zkkh_400 8 rfl ?_
  refine z_newi (N := 400) dX2_init_8 (ly2_0 hk) (by have := lyt2 hk; omega) (by omega) (by decide) (by decide) (by decide) (by decide) (by decide) 10 rfl ?_
  refine z_eq (c + 2) 1 400 rfl rfl rfl ?_
  refine z_putr (f := 1) (j := 0) (N := 8) dX2_init_10 hk (by decide) (lyn2 hk) (by omega) (by have := lyt2 hk; omega) rfl (by decide) kf2 tyX2 tyX2_ok nmX2 rfl rfl kw1_143 (by decide) (by decide) rfl (tyX2_ok 0 (by decide)) (fun _ => rfl) (fun _ => rfl) 13 rfl ?_
  refine z_aload_n dX2_init_13 rfl 14 rfl ?_
  refine z_bipush dX2_init_14 zkkb_16 16 rfl ?_
  refine z_newi (N := 16) dX2_init_16 (ly2_1 hk) (by have := lyt2 hk; omega) (by omega) (by decide) (by decide) (by decide) (by decide) (by decide) 18 rfl ?_
  refine z_eq (c + 3) 2 416 rfl rfl rfl ?_
  refine z_putr (f := 2) (j := 1) (N := 8) dX2_init_18 hk (by decide) (lyn2 hk) (by omega) (by have := lyt2 hk; omega) rfl (by decide) kf2 tyX2 tyX2_ok nmX2 rfl rfl kw1_144 (by decide) (by decide) rfl (tyX2_ok 1 (by decide)) (fun _ => rfl) (fun _ => rfl) 21 rfl ?_
  refine z_aload_n dX2_init_21 rfl 22 rfl ?_
  refine z_bipush dX2_init_22 zkkb_16 24 rfl ?_
  refine z_newi (N := 16) dX2_init_24 (ly2_2 hk) (by have := lyt2 hk; omega) (by omega) (by decide) (by decide) (by decide) (by decide) (by decide) 26 rfl ?_
  refine z_eq (c + 4) 3 432 rfl rfl rfl ?_
  refine z_putr (f := 3) (j := 2) (N := 8) dX2_init_26 hk (by decide) (lyn2 hk) (by omega) (by have := lyt2 hk; omega) rfl (by decide) kf2 tyX2 tyX2_ok nmX2 rfl rfl kw1_145 (by decide) (by decide) rfl (tyX2_ok 2 (by decide)) (fun _ => rfl) (fun _ => rfl) 29 rfl ?_
  refine z_aload_n dX2_init_29 rfl 30 rfl ?_
  refine z_bipush dX2_init_30 zkkb_16 32 rfl ?_
  refine z_newi (N := 16) dX2_init_32 (ly2_3 hk) (by have := lyt2 hk; omega) (by omega) (by decide) (by decide) (by decide) (by decide) (by decide) 34 rfl ?_
  refine z_eq (c + 5) 4 448 rfl rfl rfl ?_
  refine z_putr (f := 4) (j := 3) (N := 8) dX2_init_34 hk (by decide) (lyn2 hk) (by omega) (by have := lyt2 hk; omega) rfl (by decide) kf2 tyX2 tyX2_ok nmX2 rfl rfl kw1_146 (by decide) (by decide) rfl (tyX2_ok 3 (by decide)) (fun _ => rfl) (fun _ => rfl) 37 rfl ?_
  refine z_aload_n dX2_init_37 rfl 38 rfl ?_
  refine z_bipush dX2_init_38 zkkb_16 40 rfl ?_
  refine z_newi (N := 16) dX2_init_40 (ly2_4 hk) (by have := lyt2 hk; omega) (by omega) (by decide) (by decide) (by decide) (by decide) (by decide) 42 rfl ?_
  refine z_eq (c + 6) 5 464 rfl rfl rfl ?_
  refine z_putr (f := 5) (j := 4) (N := 8) dX2_init_42 hk (by decide) (lyn2 hk) (by omega) (by have := lyt2 hk; omega) rfl (by decide) kf2 tyX2 tyX2_ok nmX2 rfl rfl kw1_147 (by decide) (by decide) rfl (tyX2_ok 4 (by decide)) (fun _ => rfl) (fun _ => rfl) 45 rfl ?_
  refine z_aload_n dX2_init_45 rfl 46 rfl ?_
  refine z_bipush dX2_init_46 zkkb_32 48 rfl ?_
  refine z_newi (N := 32) dX2_init_48 (ly2_5 hk) (by have := lyt2 hk; omega) (by omega) (by decide) (by decide) (by decide) (by decide) (by decide) 50 rfl ?_
  refine z_eq (c + 7) 6 496 rfl rfl rfl ?_
  refine z_putr (f := 6) (j := 5) (N := 8) dX2_init_50 hk (by decide) (lyn2 hk) (by omega) (by have := lyt2 hk; omega) rfl (by decide) kf2 tyX2 tyX2_ok nmX2 rfl rfl kw1_148 (by decide) (by decide) rfl (tyX2_ok 5 (by decide)) (fun _ => rfl) (fun _ => rfl) 53 rfl ?_
  exact z_ret dX2_init_53 rfl rfl rfl rfl rfl
def zZ_X6 (c : Nat) (Z : Nat → Nat → Bool) : Nat → Nat → Bool := zu (zu Z c 0) c 1
def zM_X6 (c : Nat) (M : Mem) : Mem := xuC (xuC M (c + 1) (fun _ => 0)) (c + 2) (fun _ => 0)
set_option maxRecDepth 4000 in
theorem zc_X6 {c : Nat} {Z : Nat → Nat → Bool} {M : Mem} (hk : SHk c = 6) : zM yX6_init cX6_init 1 1 [.ref c] (c + 1) Z M 2 32 (c + 3) (zZ_X6 c Z) (zM_X6 c M) := by
  refine zM_of (by decide +kernel) rfl (Nat.le_of_ble_eq_true rfl) ?_
  show zX RX6 _ _ _ _ [(0, .ref c)] _ _ _ _ _ _ _ _ _ _ _
  refine z_aload_n dX6_init_0 rfl 1 rfl ?_
  refine z_obj dX6_init_1 kw1_174 kw1_28 kw1_29 (by decide) (Nat.le_of_ble_eq_true rfl) 4 rfl ?_
  refine z_aload_n dX6_init_4 rfl 5 rfl ?_
  refine z_bipush dX6_init_5 zkkb_16 7 rfl ?_
  refine z_newi (N := 16) dX6_init_7 (ly6_0 hk) (by have := lyt6 hk; omega) (by omega) (by decide) (by decide) (by decide) (by decide) (by decide) 9 rfl ?_
  refine z_eq (c + 2) 1 16 rfl rfl rfl ?_
  refine z_putr (f := 1) (j := 0) (N := 3) dX6_init_9 hk (by decide) (lyn6 hk) (by omega) (by have := lyt6 hk; omega) rfl (by decide) kf6 tyX6 tyX6_ok nmX6 rfl rfl kw1_175 (by decide) (by decide) rfl (tyX6_ok 0 (by decide)) (fun _ => rfl) (fun _ => rfl) 12 rfl ?_
  refine z_aload_n dX6_init_12 rfl 13 rfl ?_
  refine z_bipush dX6_init_13 zkkb_16 15 rfl ?_
  refine z_newi (N := 16) dX6_init_15 (ly6_1 hk) (by have := lyt6 hk; omega) (by omega) (by decide) (by decide) (by decide) (by decide) (by decide) 17 rfl ?_
  refine z_eq (c + 3) 2 32 rfl rfl rfl ?_
  refine z_putr (f := 2) (j := 1) (N := 3) dX6_init_17 hk (by decide) (lyn6 hk) (by omega) (by have := lyt6 hk; omega) rfl (by decide) kf6 tyX6 tyX6_ok nmX6 rfl rfl kw1_176 (by decide) (by decide) rfl (tyX6_ok 1 (by decide)) (fun _ => rfl) (fun _ => rfl) 20 rfl ?_
  exact z_ret dX6_init_20 rfl rfl rfl rfl rfl
def zZ_X4 (c : Nat) (Z : Nat → Nat → Bool) : Nat → Nat → Bool := zu (zu (zu (zu Z c 0) c 1) c 2) c 3
def zM_X4 (c : Nat) (M : Mem) : Mem := xuC (xuC (xuC (xuC M (c + 1) (fun _ => 0)) (c + 2) (fun _ => 0)) (c + 3) (fun _ => 0)) (c + 4) (fun _ => 0)
set_option maxRecDepth 4000 in
theorem zc_X4 {c : Nat} {Z : Nat → Nat → Bool} {M : Mem} (hk : SHk c = 4) : zM yX4_init cX4_init 1 1 [.ref c] (c + 1) Z M 4 64 (c + 5) (zZ_X4 c Z) (zM_X4 c M) := by
  refine zM_of (by decide +kernel) rfl (Nat.le_of_ble_eq_true rfl) ?_
  show zX RX4 _ _ _ _ [(0, .ref c)] _ _ _ _ _ _ _ _ _ _ _
  refine z_aload_n dX4_init_0 rfl 1 rfl ?_
  refine z_obj dX4_init_1 kw1_192 kw1_28 kw1_29 (by decide) (Nat.le_of_ble_eq_true rfl) 4 rfl ?_
  refine z_aload_n dX4_init_4 rfl 5 rfl ?_
  refine z_bipush dX4_init_5 zkkb_16 7 rfl ?_
  refine z_newi (N := 16) dX4_init_7 (ly4_0 hk) (by have := lyt4 hk; omega) (by omega) (by decide) (by decide) (by decide) (by decide) (by decide) 9 rfl ?_
  refine z_eq (c + 2) 1 16 rfl rfl rfl ?_
  refine z_putr (f := 1) (j := 0) (N := 5) dX4_init_9 hk (by decide) (lyn4 hk) (by omega) (by have := lyt4 hk; omega) rfl (by decide) kf4 tyX4 tyX4_ok nmX4 rfl rfl kw1_193 (by decide) (by decide) rfl (tyX4_ok 0 (by decide)) (fun _ => rfl) (fun _ => rfl) 12 rfl ?_
  refine z_aload_n dX4_init_12 rfl 13 rfl ?_
  refine z_bipush dX4_init_13 zkkb_16 15 rfl ?_
  refine z_newi (N := 16) dX4_init_15 (ly4_1 hk) (by have := lyt4 hk; omega) (by omega) (by decide) (by decide) (by decide) (by decide) (by decide) 17 rfl ?_
  refine z_eq (c + 3) 2 32 rfl rfl rfl ?_
  refine z_putr (f := 2) (j := 1) (N := 5) dX4_init_17 hk (by decide) (lyn4 hk) (by omega) (by have := lyt4 hk; omega) rfl (by decide) kf4 tyX4 tyX4_ok nmX4 rfl rfl kw1_194 (by decide) (by decide) rfl (tyX4_ok 1 (by decide)) (fun _ => rfl) (fun _ => rfl) 20 rfl ?_
  refine z_aload_n dX4_init_20 rfl 21 rfl ?_
  refine z_bipush dX4_init_21 zkkb_16 23 rfl ?_
  refine z_newi (N := 16) dX4_init_23 (ly4_2 hk) (by have := lyt4 hk; omega) (by omega) (by decide) (by decide) (by decide) (by decide) (by decide) 25 rfl ?_
  refine z_eq (c + 4) 3 48 rfl rfl rfl ?_
  refine z_putr (f := 3) (j := 2) (N := 5) dX4_init_25 hk (by decide) (lyn4 hk) (by omega) (by have := lyt4 hk; omega) rfl (by decide) kf4 tyX4 tyX4_ok nmX4 rfl rfl kw1_195 (by decide) (by decide) rfl (tyX4_ok 2 (by decide)) (fun _ => rfl) (fun _ => rfl) 28 rfl ?_
  refine z_aload_n dX4_init_28 rfl 29 rfl ?_
  refine z_bipush dX4_init_29 zkkb_16 31 rfl ?_
  refine z_newi (N := 16) dX4_init_31 (ly4_3 hk) (by have := lyt4 hk; omega) (by omega) (by decide) (by decide) (by decide) (by decide) (by decide) 33 rfl ?_
  refine z_eq (c + 5) 4 64 rfl rfl rfl ?_
  refine z_putr (f := 4) (j := 3) (N := 5) dX4_init_33 hk (by decide) (lyn4 hk) (by omega) (by have := lyt4 hk; omega) rfl (by decide) kf4 tyX4 tyX4_ok nmX4 rfl rfl kw1_196 (by decide) (by decide) rfl (tyX4_ok 3 (by decide)) (fun _ => rfl) (fun _ => rfl) 36 rfl ?_
  exact z_ret dX4_init_36 rfl rfl rfl rfl rfl
def zZ_X7 (c : Nat) (Z : Nat → Nat → Bool) : Nat → Nat → Bool := zu (zu Z c 0) c 1
def zM_X7 (c : Nat) (M : Mem) : Mem := xuC (xuC M (c + 1) (fun _ => 0)) (c + 2) (fun _ => 0)
set_option maxRecDepth 4000 in
theorem zc_X7 {c : Nat} {Z : Nat → Nat → Bool} {M : Mem} (hk : SHk c = 7) : zM yX7_init cX7_init 1 1 [.ref c] (c + 1) Z M 2 32 (c + 3) (zZ_X7 c Z) (zM_X7 c M) := by
  refine zM_of (by decide +kernel) rfl (Nat.le_of_ble_eq_true rfl) ?_
  show zX RX7 _ _ _ _ [(0, .ref c)] _ _ _ _ _ _ _ _ _ _ _
  refine z_aload_n dX7_init_0 rfl 1 rfl ?_
  refine z_obj dX7_init_1 kw1_216 kw1_28 kw1_29 (by decide) (Nat.le_of_ble_eq_true rfl) 4 rfl ?_
  refine z_aload_n dX7_init_4 rfl 5 rfl ?_
  refine z_bipush dX7_init_5 zkkb_16 7 rfl ?_
  refine z_newi (N := 16) dX7_init_7 (ly7_0 hk) (by have := lyt7 hk; omega) (by omega) (by decide) (by decide) (by decide) (by decide) (by decide) 9 rfl ?_
  refine z_eq (c + 2) 1 16 rfl rfl rfl ?_
  refine z_putr (f := 1) (j := 0) (N := 3) dX7_init_9 hk (by decide) (lyn7 hk) (by omega) (by have := lyt7 hk; omega) rfl (by decide) kf7 tyX7 tyX7_ok nmX7 rfl rfl kw1_217 (by decide) (by decide) rfl (tyX7_ok 0 (by decide)) (fun _ => rfl) (fun _ => rfl) 12 rfl ?_
  refine z_aload_n dX7_init_12 rfl 13 rfl ?_
  refine z_bipush dX7_init_13 zkkb_16 15 rfl ?_
  refine z_newi (N := 16) dX7_init_15 (ly7_1 hk) (by have := lyt7 hk; omega) (by omega) (by decide) (by decide) (by decide) (by decide) (by decide) 17 rfl ?_
  refine z_eq (c + 3) 2 32 rfl rfl rfl ?_
  refine z_putr (f := 2) (j := 1) (N := 3) dX7_init_17 hk (by decide) (lyn7 hk) (by omega) (by have := lyt7 hk; omega) rfl (by decide) kf7 tyX7 tyX7_ok nmX7 rfl rfl kw1_218 (by decide) (by decide) rfl (tyX7_ok 1 (by decide)) (fun _ => rfl) (fun _ => rfl) 20 rfl ?_
  exact z_ret dX7_init_20 rfl rfl rfl rfl rfl
def zZ_X10 (c : Nat) (Z : Nat → Nat → Bool) : Nat → Nat → Bool := zu (zu (zu Z c 0) c 1) c 2
def zM_X10 (c : Nat) (M : Mem) : Mem := xuC (xuC (xuC M (c + 1) (fun _ => 0)) (c + 2) (fun _ => 0)) (c + 3) (fun _ => 0)
set_option maxRecDepth 4000 in
theorem zc_X10 {c : Nat} {Z : Nat → Nat → Bool} {M : Mem} (hk : SHk c = 10) : zM yX10_init cX10_init 1 1 [.ref c] (c + 1) Z M 3 21 (c + 4) (zZ_X10 c Z) (zM_X10 c M) := by
  refine zM_of (by decide +kernel) rfl (Nat.le_of_ble_eq_true rfl) ?_
  show zX RX10 _ _ _ _ [(0, .ref c)] _ _ _ _ _ _ _ _ _ _ _
  refine z_aload_n dX10_init_0 rfl 1 rfl ?_
  refine z_obj dX10_init_1 kw1_234 kw1_28 kw1_29 (by decide) (Nat.le_of_ble_eq_true rfl) 4 rfl ?_
  refine z_aload_n dX10_init_4 rfl 5 rfl ?_
  refine z_bipush dX10_init_5 zkkb_7 7 rfl ?_
  refine z_newi (N := 7) dX10_init_7 (ly10_0 hk) (by have := lyt10 hk; omega) (by omega) (by decide) (by decide) (by decide) (by decide) (by decide) 9 rfl ?_
  refine z_eq (c + 2) 1 7 rfl rfl rfl ?_
  refine z_putr (f := 1) (j := 0) (N := 4) dX10_init_9 hk (by decide) (lyn10 hk) (by omega) (by have := lyt10 hk; omega) rfl (by decide) kf10 tyX10 tyX10_ok nmX10 rfl rfl kw1_235 (by decide) (by decide) rfl (tyX10_ok 0 (by decide)) (fun _ => rfl) (fun _ => rfl) 12 rfl ?_
  refine z_aload_n dX10_init_12 rfl 13 rfl ?_
  refine z_bipush dX10_init_13 zkkb_7 15 rfl ?_
  refine z_newi (N := 7) dX10_init_15 (ly10_1 hk) (by have := lyt10 hk; omega) (by omega) (by decide) (by decide) (by decide) (by decide) (by decide) 17 rfl ?_
  refine z_eq (c + 3) 2 14 rfl rfl rfl ?_
  refine z_putr (f := 2) (j := 1) (N := 4) dX10_init_17 hk (by decide) (lyn10 hk) (by omega) (by have := lyt10 hk; omega) rfl (by decide) kf10 tyX10 tyX10_ok nmX10 rfl rfl kw1_236 (by decide) (by decide) rfl (tyX10_ok 1 (by decide)) (fun _ => rfl) (fun _ => rfl) 20 rfl ?_
  refine z_aload_n dX10_init_20 rfl 21 rfl ?_
  refine z_bipush dX10_init_21 zkkb_7 23 rfl ?_
  refine z_newi (N := 7) dX10_init_23 (ly10_2 hk) (by have := lyt10 hk; omega) (by omega) (by decide) (by decide) (by decide) (by decide) (by decide) 25 rfl ?_
  refine z_eq (c + 4) 3 21 rfl rfl rfl ?_
  refine z_putr (f := 3) (j := 2) (N := 4) dX10_init_25 hk (by decide) (lyn10 hk) (by omega) (by have := lyt10 hk; omega) rfl (by decide) kf10 tyX10 tyX10_ok nmX10 rfl rfl kw1_237 (by decide) (by decide) rfl (tyX10_ok 2 (by decide)) (fun _ => rfl) (fun _ => rfl) 28 rfl ?_
  exact z_ret dX10_init_28 rfl rfl rfl rfl rfl
def zZ_X8 (c : Nat) (Z : Nat → Nat → Bool) : Nat → Nat → Bool := zu (zu (zu Z c 0) c 1) c 2
def zM_X8 (c : Nat) (M : Mem) : Mem := xuC (xuC (xuC M (c + 1) (fun _ => 0)) (c + 2) (fun _ => 0)) (c + 3) (fun _ => 0)
set_option maxRecDepth 4000 in
theorem zc_X8 {c : Nat} {Z : Nat → Nat → Bool} {M : Mem} (hk : SHk c = 8) : zM yX8_init cX8_init 1 1 [.ref c] (c + 1) Z M 3 1203 (c + 4) (zZ_X8 c Z) (zM_X8 c M) := by
  refine zM_of (by decide +kernel) rfl (Nat.le_of_ble_eq_true rfl) ?_
  show zX RX8 _ _ _ _ [(0, .ref c)] _ _ _ _ _ _ _ _ _ _ _
  refine z_aload_n dX8_init_0 rfl 1 rfl ?_
  refine z_obj dX8_init_1 kw2_72 kw1_28 kw1_29 (by decide) (Nat.le_of_ble_eq_true rfl) 4 rfl ?_
  refine z_aload_n dX8_init_4 rfl 5 rfl ?_
  refine z_sipush dX8_init_5 zkkh_401 8 rfl ?_
  refine z_newi (N := 401) dX8_init_8 (ly8_0 hk) (by have := lyt8 hk; omega) (by omega) (by decide) (by decide) (by decide) (by decide) (by decide) 10 rfl ?_
  refine z_eq (c + 2) 1 401 rfl rfl rfl ?_
  refine z_putr (f := 1) (j := 0) (N := 4) dX8_init_10 hk (by decide) (lyn8 hk) (by omega) (by have := lyt8 hk; omega) rfl (by decide) kf8 tyX8 tyX8_ok nmX8 rfl rfl kw2_73 (by decide) (by decide) rfl (tyX8_ok 0 (by decide)) (fun _ => rfl) (fun _ => rfl) 13 rfl ?_
  refine z_aload_n dX8_init_13 rfl 14 rfl ?_
  refine z_sipush dX8_init_14 zkkh_401 17 rfl ?_
  refine z_newi (N := 401) dX8_init_17 (ly8_1 hk) (by have := lyt8 hk; omega) (by omega) (by decide) (by decide) (by decide) (by decide) (by decide) 19 rfl ?_
  refine z_eq (c + 3) 2 802 rfl rfl rfl ?_
  refine z_putr (f := 2) (j := 1) (N := 4) dX8_init_19 hk (by decide) (lyn8 hk) (by omega) (by have := lyt8 hk; omega) rfl (by decide) kf8 tyX8 tyX8_ok nmX8 rfl rfl kw2_75 (by decide) (by decide) rfl (tyX8_ok 1 (by decide)) (fun _ => rfl) (fun _ => rfl) 22 rfl ?_
  refine z_aload_n dX8_init_22 rfl 23 rfl ?_
  refine z_sipush dX8_init_23 zkkh_401 26 rfl ?_
  refine z_newi (N := 401) dX8_init_26 (ly8_2 hk) (by have := lyt8 hk; omega) (by omega) (by decide) (by decide) (by decide) (by decide) (by decide) 28 rfl ?_
  refine z_eq (c + 4) 3 1203 rfl rfl rfl ?_
  refine z_putr (f := 3) (j := 2) (N := 4) dX8_init_28 hk (by decide) (lyn8 hk) (by omega) (by have := lyt8 hk; omega) rfl (by decide) kf8 tyX8 tyX8_ok nmX8 rfl rfl kw2_77 (by decide) (by decide) rfl (tyX8_ok 2 (by decide)) (fun _ => rfl) (fun _ => rfl) 31 rfl ?_
  exact z_ret dX8_init_31 rfl rfl rfl rfl rfl
def zZ_X1 (c : Nat) (Z : Nat → Nat → Bool) : Nat → Nat → Bool := zu (zu Z c 0) c 1
def zM_X1 (c : Nat) (M : Mem) : Mem := xuC (xuC M (c + 1) (fun _ => 0)) (c + 2) (fun _ => 0)
set_option maxRecDepth 4000 in
theorem zc_X1 {c : Nat} {Z : Nat → Nat → Bool} {M : Mem} (hk : SHk c = 1) : zM yX1_init cX1_init 1 1 [.ref c] (c + 1) Z M 2 20 (c + 3) (zZ_X1 c Z) (zM_X1 c M) := by
  refine zM_of (by decide +kernel) rfl (Nat.le_of_ble_eq_true rfl) ?_
  show zX RX1 _ _ _ _ [(0, .ref c)] _ _ _ _ _ _ _ _ _ _ _
  refine z_aload_n dX1_init_0 rfl 1 rfl ?_
  refine z_obj dX1_init_1 kw2_138 kw1_28 kw1_29 (by decide) (Nat.le_of_ble_eq_true rfl) 4 rfl ?_
  refine z_aload_n dX1_init_4 rfl 5 rfl ?_
  refine z_bipush dX1_init_5 zkkb_10 7 rfl ?_
  refine z_newi (N := 10) dX1_init_7 (ly1_0 hk) (by have := lyt1 hk; omega) (by omega) (by decide) (by decide) (by decide) (by decide) (by decide) 9 rfl ?_
  refine z_eq (c + 2) 1 10 rfl rfl rfl ?_
  refine z_putr (f := 1) (j := 0) (N := 2) dX1_init_9 hk (by decide) (lyn1 hk) (by omega) (by have := lyt1 hk; omega) rfl (by decide) kf1 tyX1 tyX1_ok nmX1 rfl rfl kw2_139 (by decide) (by decide) rfl (tyX1_ok 0 (by decide)) (fun _ => rfl) (fun _ => rfl) 12 rfl ?_
  refine z_aload_n dX1_init_12 rfl 13 rfl ?_
  refine z_bipush dX1_init_13 zkkb_10 15 rfl ?_
  refine z_newi (N := 10) dX1_init_15 (ly1_1 hk) (by have := lyt1 hk; omega) (by omega) (by decide) (by decide) (by decide) (by decide) (by decide) 17 rfl ?_
  refine z_eq (c + 3) 2 20 rfl rfl rfl ?_
  refine z_putr (f := 2) (j := 1) (N := 2) dX1_init_17 hk (by decide) (lyn1 hk) (by omega) (by have := lyt1 hk; omega) rfl (by decide) kf1 tyX1 tyX1_ok nmX1 rfl rfl kw2_141 (by decide) (by decide) rfl (tyX1_ok 1 (by decide)) (fun _ => rfl) (fun _ => rfl) 20 rfl ?_
  exact z_ret dX1_init_20 rfl rfl rfl rfl rfl
def zZ_X9_1 (c : Nat) (Z : Nat → Nat → Bool) : Nat → Nat → Bool := zu (zu (zu (zu (zu (zu (zu (zu (zu Z c 1) c 2) c 3) c 4) c 5) c 6) c 7) c 8) c 0
def zM_X9_1 (c : Nat) (M : Mem) : Mem := zfill (zfill (xuC (xuC (xuC (xuC (xuC (xuC (xuC (xuC (xuC M (c + 1) (fun _ => 0)) (c + 2) (fun _ => 0)) (c + 3) (fun _ => 0)) (c + 4) (fun _ => 0)) (c + 5) (fun _ => 0)) (c + 6) (fun _ => 0)) (c + 7) (fun _ => 0)) (c + 8) (fun _ => 0)) (c + 9) (fun _ => 0)) (c + 2) 10 (-1)) (c + 3) 10 (-100)
set_option maxRecDepth 4000 in
theorem zc_X9_1 {c : Nat} {Z : Nat → Nat → Bool} {M : Mem} (hk : SHk c = 9) (hw : SHn (c + 9) = 600) : zM yX9_init cX9_init 2 2 [.ref c, .int 1] (c + 1) Z M 9 700 (c + 10) (zZ_X9_1 c Z) (zM_X9_1 c M) := by
  refine zM_of (by decide +kernel) rfl (Nat.le_of_ble_eq_true rfl) ?_
  show zX RX9 _ _ _ _ [(0, .ref c), (1, .int 1)] _ _ _ _ _ _ _ _ _ _ _
  refine z_aload_n dX9_init_0 rfl 1 rfl ?_
  refine z_obj dX9_init_1 kw1_41 kw1_28 kw1_29 (by decide) (Nat.le_of_ble_eq_true rfl) 4 rfl ?_
  refine z_aload_n dX9_init_4 rfl 5 rfl ?_
  refine z_bipush dX9_init_5 zkkb_10 7 rfl ?_
  refine z_newi (N := 10) dX9_init_7 (ly9_1 hk) (by have := lyt9 hk; omega) (by omega) (by decide) (by decide) (by decide) (by decide) (by decide) 9 rfl ?_
  refine z_eq (c + 2) 1 10 rfl rfl rfl ?_
  refine z_putr (f := 1) (j := 1) (N := 19) dX9_init_9 hk (by decide) (lyn9 hk) (by omega) (by have := lyt9 hk; omega) rfl (by decide) kf9 tyX9 tyX9_ok nmX9 rfl rfl kw1_46 (by decide) (by decide) rfl (tyX9_ok 1 (by decide)) (fun _ => rfl) (fun _ => rfl) 12 rfl ?_
  refine z_aload_n dX9_init_12 rfl 13 rfl ?_
  refine z_bipush dX9_init_13 zkkb_10 15 rfl ?_
  refine z_newi (N := 10) dX9_init_15 (ly9_2 hk) (by have := lyt9 hk; omega) (by omega) (by decide) (by decide) (by decide) (by decide) (by decide) 17 rfl ?_
  refine z_eq (c + 3) 2 20 rfl rfl rfl ?_
  refine z_putr (f := 2) (j := 2) (N := 19) dX9_init_17 hk (by decide) (lyn9 hk) (by omega) (by have := lyt9 hk; omega) rfl (by decide) kf9 tyX9 tyX9_ok nmX9 rfl rfl kw1_50 (by decide) (by decide) rfl (tyX9_ok 2 (by decide)) (fun _ => rfl) (fun _ => rfl) 20 rfl ?_
  refine z_aload_n dX9_init_20 rfl 21 rfl ?_
  refine z_bipush dX9_init_21 zkkb_10 23 rfl ?_
  refine z_newi (N := 10) dX9_init_23 (ly9_3 hk) (by have := lyt9 hk; omega) (by omega) (by decide) (by decide) (by decide) (by decide) (by decide) 25 rfl ?_
  refine z_eq (c + 4) 3 30 rfl rfl rfl ?_
  refine z_putr (f := 3) (j := 3) (N := 19) dX9_init_25 hk (by decide) (lyn9 hk) (by omega) (by have := lyt9 hk; omega) rfl (by decide) kf9 tyX9 tyX9_ok nmX9 rfl rfl kw1_52 (by decide) (by decide) rfl (tyX9_ok 3 (by decide)) (fun _ => rfl) (fun _ => rfl) 28 rfl ?_
  refine z_aload_n dX9_init_28 rfl 29 rfl ?_
  refine z_bipush dX9_init_29 zkkb_14 31 rfl ?_
  refine z_newi (N := 14) dX9_init_31 (ly9_4 hk) (by have := lyt9 hk; omega) (by omega) (by decide) (by decide) (by decide) (by decide) (by decide) 33 rfl ?_
  refine z_eq (c + 5) 4 44 rfl rfl rfl ?_
  refine z_putr (f := 4) (j := 4) (N := 19) dX9_init_33 hk (by decide) (lyn9 hk) (by omega) (by have := lyt9 hk; omega) rfl (by decide) kf9 tyX9 tyX9_ok nmX9 rfl rfl kw1_55 (by decide) (by decide) rfl (tyX9_ok 4 (by decide)) (fun _ => rfl) (fun _ => rfl) 36 rfl ?_
  refine z_aload_n dX9_init_36 rfl 37 rfl ?_
  refine z_bipush dX9_init_37 zkkb_14 39 rfl ?_
  refine z_newi (N := 14) dX9_init_39 (ly9_5 hk) (by have := lyt9 hk; omega) (by omega) (by decide) (by decide) (by decide) (by decide) (by decide) 41 rfl ?_
  refine z_eq (c + 6) 5 58 rfl rfl rfl ?_
  refine z_putr (f := 5) (j := 5) (N := 19) dX9_init_41 hk (by decide) (lyn9 hk) (by omega) (by have := lyt9 hk; omega) rfl (by decide) kf9 tyX9 tyX9_ok nmX9 rfl rfl kw1_58 (by decide) (by decide) rfl (tyX9_ok 5 (by decide)) (fun _ => rfl) (fun _ => rfl) 44 rfl ?_
  refine z_aload_n dX9_init_44 rfl 45 rfl ?_
  refine z_bipush dX9_init_45 zkkb_14 47 rfl ?_
  refine z_newi (N := 14) dX9_init_47 (ly9_6 hk) (by have := lyt9 hk; omega) (by omega) (by decide) (by decide) (by decide) (by decide) (by decide) 49 rfl ?_
  refine z_eq (c + 7) 6 72 rfl rfl rfl ?_
  refine z_putr (f := 6) (j := 6) (N := 19) dX9_init_49 hk (by decide) (lyn9 hk) (by omega) (by have := lyt9 hk; omega) rfl (by decide) kf9 tyX9 tyX9_ok nmX9 rfl rfl kw1_60 (by decide) (by decide) rfl (tyX9_ok 6 (by decide)) (fun _ => rfl) (fun _ => rfl) 52 rfl ?_
  refine z_aload_n dX9_init_52 rfl 53 rfl ?_
  refine z_bipush dX9_init_53 zkkb_14 55 rfl ?_
  refine z_newi (N := 14) dX9_init_55 (ly9_7 hk) (by have := lyt9 hk; omega) (by omega) (by decide) (by decide) (by decide) (by decide) (by decide) 57 rfl ?_
  refine z_eq (c + 8) 7 86 rfl rfl rfl ?_
  refine z_putr (f := 7) (j := 7) (N := 19) dX9_init_57 hk (by decide) (lyn9 hk) (by omega) (by have := lyt9 hk; omega) rfl (by decide) kf9 tyX9 tyX9_ok nmX9 rfl rfl kw1_63 (by decide) (by decide) rfl (tyX9_ok 7 (by decide)) (fun _ => rfl) (fun _ => rfl) 60 rfl ?_
  refine z_aload_n dX9_init_60 rfl 61 rfl ?_
  refine z_bipush dX9_init_61 zkkb_14 63 rfl ?_
  refine z_newi (N := 14) dX9_init_63 (ly9_8 hk) (by have := lyt9 hk; omega) (by omega) (by decide) (by decide) (by decide) (by decide) (by decide) 65 rfl ?_
  refine z_eq (c + 9) 8 100 rfl rfl rfl ?_
  refine z_putr (f := 8) (j := 8) (N := 19) dX9_init_65 hk (by decide) (lyn9 hk) (by omega) (by have := lyt9 hk; omega) rfl (by decide) kf9 tyX9 tyX9_ok nmX9 rfl rfl kw1_65 (by decide) (by decide) rfl (tyX9_ok 8 (by decide)) (fun _ => rfl) (fun _ => rfl) 68 rfl ?_
  refine z_aload_n dX9_init_68 rfl 69 rfl ?_
  refine z_iload_n dX9_init_69 rfl 70 rfl ?_
  refine z_if_eq dX9_init_70 79 73 rfl rfl (fun h => absurd h (by decide)) (fun _ => ?_)
  refine z_sipush dX9_init_73 zkkh_600 76 rfl ?_
  refine z_goto dX9_init_76 80 rfl ?_
  refine z_newi (N := 600) dX9_init_80 ⟨ly9_0 hk, hw⟩ (by have := lyt9 hk; omega) (by omega) (by decide) (by decide) (by decide) (by decide) (by decide) 82 rfl ?_
  refine z_eq (c + 10) 9 700 rfl rfl rfl ?_
  refine z_putr (f := 9) (j := 0) (N := 19) dX9_init_82 hk (by decide) (lyn9 hk) (by omega) (by have := lyt9 hk; omega) rfl (by decide) kf9 tyX9 tyX9_ok nmX9 rfl rfl kw1_45 (by decide) (by decide) rfl (tyX9_ok 0 (by decide)) (fun _ => rfl) (fun _ => rfl) 85 rfl ?_
  refine z_aload_n dX9_init_85 rfl 86 rfl ?_
  refine z_getr (f := 2) (j := 2) (N := 19) dX9_init_86 hk (by decide) (lyn9 hk) (by omega) rfl (by decide) kf9 rfl kw1_50 (by decide) (by decide) (by simp [zu]) 89 rfl ?_
  refine z_iconst dX9_init_89 zkkc_m1 90 rfl ?_
  refine z_fill (N := 10) dX9_init_90 kw1_42 kw1_43 kw1_4 kw1_44 (ly9_2 hk) (by omega) (by have := lyt9 hk; omega) (by decide) (by decide) (Nat.le_of_ble_eq_true rfl) (by decide) (by decide) 93 rfl ?_
  refine z_aload_n dX9_init_93 rfl 94 rfl ?_
  refine z_getr (f := 3) (j := 3) (N := 19) dX9_init_94 hk (by decide) (lyn9 hk) (by omega) rfl (by decide) kf9 rfl kw1_52 (by decide) (by decide) (by simp [zu]) 97 rfl ?_
  refine z_bipush dX9_init_97 zkkb_m100 99 rfl ?_
  refine z_fill (N := 10) dX9_init_99 kw1_42 kw1_43 kw1_4 kw1_44 (ly9_3 hk) (by omega) (by have := lyt9 hk; omega) (by decide) (by decide) (Nat.le_of_ble_eq_true rfl) (by decide) (by decide) 102 rfl ?_
  exact z_ret dX9_init_102 rfl rfl rfl rfl rfl
def zZ_X9_0 (c : Nat) (Z : Nat → Nat → Bool) : Nat → Nat → Bool := zu (zu (zu (zu (zu (zu (zu (zu (zu Z c 1) c 2) c 3) c 4) c 5) c 6) c 7) c 8) c 0
def zM_X9_0 (c : Nat) (M : Mem) : Mem := zfill (zfill (xuC (xuC (xuC (xuC (xuC (xuC (xuC (xuC (xuC M (c + 1) (fun _ => 0)) (c + 2) (fun _ => 0)) (c + 3) (fun _ => 0)) (c + 4) (fun _ => 0)) (c + 5) (fun _ => 0)) (c + 6) (fun _ => 0)) (c + 7) (fun _ => 0)) (c + 8) (fun _ => 0)) (c + 9) (fun _ => 0)) (c + 2) 10 (-1)) (c + 3) 10 (-100)
set_option maxRecDepth 4000 in
theorem zc_X9_0 {c : Nat} {Z : Nat → Nat → Bool} {M : Mem} (hk : SHk c = 9) (hw : SHn (c + 9) = 0) : zM yX9_init cX9_init 2 2 [.ref c, .int 0] (c + 1) Z M 9 100 (c + 10) (zZ_X9_0 c Z) (zM_X9_0 c M) := by
  refine zM_of (by decide +kernel) rfl (Nat.le_of_ble_eq_true rfl) ?_
  show zX RX9 _ _ _ _ [(0, .ref c), (1, .int 0)] _ _ _ _ _ _ _ _ _ _ _
  refine z_aload_n dX9_init_0 rfl 1 rfl ?_
  refine z_obj dX9_init_1 kw1_41 kw1_28 kw1_29 (by decide) (Nat.le_of_ble_eq_true rfl) 4 rfl ?_
  refine z_aload_n dX9_init_4 rfl 5 rfl ?_
  refine z_bipush dX9_init_5 zkkb_10 7 rfl ?_
  refine z_newi (N := 10) dX9_init_7 (ly9_1 hk) (by have := lyt9 hk; omega) (by omega) (by decide) (by decide) (by decide) (by decide) (by decide) 9 rfl ?_
  refine z_eq (c + 2) 1 10 rfl rfl rfl ?_
  refine z_putr (f := 1) (j := 1) (N := 19) dX9_init_9 hk (by decide) (lyn9 hk) (by omega) (by have := lyt9 hk; omega) rfl (by decide) kf9 tyX9 tyX9_ok nmX9 rfl rfl kw1_46 (by decide) (by decide) rfl (tyX9_ok 1 (by decide)) (fun _ => rfl) (fun _ => rfl) 12 rfl ?_
  refine z_aload_n dX9_init_12 rfl 13 rfl ?_
  refine z_bipush dX9_init_13 zkkb_10 15 rfl ?_
  refine z_newi (N := 10) dX9_init_15 (ly9_2 hk) (by have := lyt9 hk; omega) (by omega) (by decide) (by decide) (by decide) (by decide) (by decide) 17 rfl ?_
  refine z_eq (c + 3) 2 20 rfl rfl rfl ?_
  refine z_putr (f := 2) (j := 2) (N := 19) dX9_init_17 hk (by decide) (lyn9 hk) (by omega) (by have := lyt9 hk; omega) rfl (by decide) kf9 tyX9 tyX9_ok nmX9 rfl rfl kw1_50 (by decide) (by decide) rfl (tyX9_ok 2 (by decide)) (fun _ => rfl) (fun _ => rfl) 20 rfl ?_
  refine z_aload_n dX9_init_20 rfl 21 rfl ?_
  refine z_bipush dX9_init_21 zkkb_10 23 rfl ?_
  refine z_newi (N := 10) dX9_init_23 (ly9_3 hk) (by have := lyt9 hk; omega) (by omega) (by decide) (by decide) (by decide) (by decide) (by decide) 25 rfl ?_
  refine z_eq (c + 4) 3 30 rfl rfl rfl ?_
  refine z_putr (f := 3) (j := 3) (N := 19) dX9_init_25 hk (by decide) (lyn9 hk) (by omega) (by have := lyt9 hk; omega) rfl (by decide) kf9 tyX9 tyX9_ok nmX9 rfl rfl kw1_52 (by decide) (by decide) rfl (tyX9_ok 3 (by decide)) (fun _ => rfl) (fun _ => rfl) 28 rfl ?_
  refine z_aload_n dX9_init_28 rfl 29 rfl ?_
  refine z_bipush dX9_init_29 zkkb_14 31 rfl ?_
  refine z_newi (N := 14) dX9_init_31 (ly9_4 hk) (by have := lyt9 hk; omega) (by omega) (by decide) (by decide) (by decide) (by decide) (by decide) 33 rfl ?_
  refine z_eq (c + 5) 4 44 rfl rfl rfl ?_
  refine z_putr (f := 4) (j := 4) (N := 19) dX9_init_33 hk (by decide) (lyn9 hk) (by omega) (by have := lyt9 hk; omega) rfl (by decide) kf9 tyX9 tyX9_ok nmX9 rfl rfl kw1_55 (by decide) (by decide) rfl (tyX9_ok 4 (by decide)) (fun _ => rfl) (fun _ => rfl) 36 rfl ?_
  refine z_aload_n dX9_init_36 rfl 37 rfl ?_
  refine z_bipush dX9_init_37 zkkb_14 39 rfl ?_
  refine z_newi (N := 14) dX9_init_39 (ly9_5 hk) (by have := lyt9 hk; omega) (by omega) (by decide) (by decide) (by decide) (by decide) (by decide) 41 rfl ?_
  refine z_eq (c + 6) 5 58 rfl rfl rfl ?_
  refine z_putr (f := 5) (j := 5) (N := 19) dX9_init_41 hk (by decide) (lyn9 hk) (by omega) (by have := lyt9 hk; omega) rfl (by decide) kf9 tyX9 tyX9_ok nmX9 rfl rfl kw1_58 (by decide) (by decide) rfl (tyX9_ok 5 (by decide)) (fun _ => rfl) (fun _ => rfl) 44 rfl ?_
  refine z_aload_n dX9_init_44 rfl 45 rfl ?_
  refine z_bipush dX9_init_45 zkkb_14 47 rfl ?_
  refine z_newi (N := 14) dX9_init_47 (ly9_6 hk) (by have := lyt9 hk; omega) (by omega) (by decide) (by decide) (by decide) (by decide) (by decide) 49 rfl ?_
  refine z_eq (c + 7) 6 72 rfl rfl rfl ?_
  refine z_putr (f := 6) (j := 6) (N := 19) dX9_init_49 hk (by decide) (lyn9 hk) (by omega) (by have := lyt9 hk; omega) rfl (by decide) kf9 tyX9 tyX9_ok nmX9 rfl rfl kw1_60 (by decide) (by decide) rfl (tyX9_ok 6 (by decide)) (fun _ => rfl) (fun _ => rfl) 52 rfl ?_
  refine z_aload_n dX9_init_52 rfl 53 rfl ?_
  refine z_bipush dX9_init_53 zkkb_14 55 rfl ?_
  refine z_newi (N := 14) dX9_init_55 (ly9_7 hk) (by have := lyt9 hk; omega) (by omega) (by decide) (by decide) (by decide) (by decide) (by decide) 57 rfl ?_
  refine z_eq (c + 8) 7 86 rfl rfl rfl ?_
  refine z_putr (f := 7) (j := 7) (N := 19) dX9_init_57 hk (by decide) (lyn9 hk) (by omega) (by have := lyt9 hk; omega) rfl (by decide) kf9 tyX9 tyX9_ok nmX9 rfl rfl kw1_63 (by decide) (by decide) rfl (tyX9_ok 7 (by decide)) (fun _ => rfl) (fun _ => rfl) 60 rfl ?_
  refine z_aload_n dX9_init_60 rfl 61 rfl ?_
  refine z_bipush dX9_init_61 zkkb_14 63 rfl ?_
  refine z_newi (N := 14) dX9_init_63 (ly9_8 hk) (by have := lyt9 hk; omega) (by omega) (by decide) (by decide) (by decide) (by decide) (by decide) 65 rfl ?_
  refine z_eq (c + 9) 8 100 rfl rfl rfl ?_
  refine z_putr (f := 8) (j := 8) (N := 19) dX9_init_65 hk (by decide) (lyn9 hk) (by omega) (by have := lyt9 hk; omega) rfl (by decide) kf9 tyX9 tyX9_ok nmX9 rfl rfl kw1_65 (by decide) (by decide) rfl (tyX9_ok 8 (by decide)) (fun _ => rfl) (fun _ => rfl) 68 rfl ?_
  refine z_aload_n dX9_init_68 rfl 69 rfl ?_
  refine z_iload_n dX9_init_69 rfl 70 rfl ?_
  refine z_if_eq dX9_init_70 79 73 rfl rfl (fun _ => ?_) (fun h => absurd (by decide) h)
  refine z_iconst dX9_init_79 zkkc_0 80 rfl ?_
  refine z_newi (N := 0) dX9_init_80 ⟨ly9_0 hk, hw⟩ (by have := lyt9 hk; omega) (by omega) (by decide) (by decide) (by decide) (by decide) (by decide) 82 rfl ?_
  refine z_eq (c + 10) 9 100 rfl rfl rfl ?_
  refine z_putr (f := 9) (j := 0) (N := 19) dX9_init_82 hk (by decide) (lyn9 hk) (by omega) (by have := lyt9 hk; omega) rfl (by decide) kf9 tyX9 tyX9_ok nmX9 rfl rfl kw1_45 (by decide) (by decide) rfl (tyX9_ok 0 (by decide)) (fun _ => rfl) (fun _ => rfl) 85 rfl ?_
  refine z_aload_n dX9_init_85 rfl 86 rfl ?_
  refine z_getr (f := 2) (j := 2) (N := 19) dX9_init_86 hk (by decide) (lyn9 hk) (by omega) rfl (by decide) kf9 rfl kw1_50 (by decide) (by decide) (by simp [zu]) 89 rfl ?_
  refine z_iconst dX9_init_89 zkkc_m1 90 rfl ?_
  refine z_fill (N := 10) dX9_init_90 kw1_42 kw1_43 kw1_4 kw1_44 (ly9_2 hk) (by omega) (by have := lyt9 hk; omega) (by decide) (by decide) (Nat.le_of_ble_eq_true rfl) (by decide) (by decide) 93 rfl ?_
  refine z_aload_n dX9_init_93 rfl 94 rfl ?_
  refine z_getr (f := 3) (j := 3) (N := 19) dX9_init_94 hk (by decide) (lyn9 hk) (by omega) rfl (by decide) kf9 rfl kw1_52 (by decide) (by decide) (by simp [zu]) 97 rfl ?_
  refine z_bipush dX9_init_97 zkkb_m100 99 rfl ?_
  refine z_fill (N := 10) dX9_init_99 kw1_42 kw1_43 kw1_4 kw1_44 (ly9_3 hk) (by omega) (by have := lyt9 hk; omega) (by decide) (by decide) (Nat.le_of_ble_eq_true rfl) (by decide) (by decide) 102 rfl ?_
  exact z_ret dX9_init_102 rfl rfl rfl rfl rfl
theorem lyD {c : Nat} (h : SHk c = 0) : SHn (c + 1 + 9) = 600 := xall (P := fun c => SHk c = 0 → SHn (c + 1 + 9) = 600) (by decide +kernel) (by decide) c h h
def zZ_X0 (c : Nat) (Z : Nat → Nat → Bool) : Nat → Nat → Bool := zu (zZ_X10 (c + 29) (zu (zZ_X7 (c + 26) (zu (zZ_X4 (c + 21) (zu (zZ_X6 (c + 18) (zu (zZ_X2 (c + 11) (zu (zZ_X9_1 (c + 1) Z) c 0)) c 1)) c 2)) c 3)) c 4)) c 5
def zM_X0 (c : Nat) (M : Mem) : Mem := zM_X10 (c + 29) (xuC (zM_X7 (c + 26) (xuC (zM_X4 (c + 21) (xuC (zM_X6 (c + 18) (xuC (zM_X2 (c + 11) (xuC (zM_X9_1 (c + 1) (xuC M (c + 1) (fun _ => 0))) (c + 11) (fun _ => 0))) (c + 18) (fun _ => 0))) (c + 21) (fun _ => 0))) (c + 26) (fun _ => 0))) (c + 29) (fun _ => 0))
set_option maxRecDepth 4000 in
theorem zc_X0 {c : Nat} {Z : Nat → Nat → Bool} {M : Mem} (hk : SHk c = 0) : zM yX0_init cX0_init 1 3 [.ref c] (c + 1) Z M 32 1387 (c + 33) (zZ_X0 c Z) (zM_X0 c M) := by
  refine zM_of (by decide +kernel) rfl (Nat.le_of_ble_eq_true rfl) ?_
  show zX RX0 _ _ _ _ [(0, .ref c)] _ _ _ _ _ _ _ _ _ _ _
  refine z_aload_n dX0_init_0 rfl 1 rfl ?_
  refine z_obj dX0_init_1 kw1_35 kw1_28 kw1_29 (by decide) (Nat.le_of_ble_eq_true rfl) 4 rfl ?_
  refine z_aload_n dX0_init_4 rfl 5 rfl ?_
  refine z_new dX0_init_5 (ly0_0 hk).1 (by decide) (lyn9 (ly0_0 hk).1) (by have := lyt0 hk; omega) (by omega) rfl kf9 tyX9 tyX9_ok zdf9 kw1_36 kw1_37 kw1_3 (by decide) (by decide) 8 rfl ?_
  refine z_eq (c + 2) 1 19 rfl rfl rfl ?_
  refine z_dup dX0_init_8 rfl 9 rfl ?_
  refine z_iconst dX0_init_9 zkkc_1 10 rfl ?_
  refine z_call (nn := 1) (As := [.int 1]) dX0_init_10 13 rfl kw1_38 kw1_39 kw1_3 kw1_40 rfl (by decide +kernel) rfl (by decide) (by decide) (Nat.le_of_ble_eq_true rfl) _ rfl (by omega) (by have := lyt0 hk; omega) (by decide) (by decide) rfl (zc_X9_1 (ly0_0 hk).1 (lyD hk)) ?_
  refine z_eq (c + 11) 10 719 rfl rfl rfl ?_
  refine z_putr (f := 1) (j := 0) (N := 6) dX0_init_13 hk (by decide) (lyn0 hk) (by omega) (by have := lyt0 hk; omega) rfl (by decide) kf0 tyX0 tyX0_ok nmX0 rfl rfl kw2_9 (by decide) (by decide) rfl (tyX0_ok 0 (by decide)) (fun _ => rfl) (fun _ => rfl) 16 rfl ?_
  refine z_aload_n dX0_init_16 rfl 17 rfl ?_
  refine z_new dX0_init_17 (ly0_1 hk).1 (by decide) (lyn2 (ly0_1 hk).1) (by have := lyt0 hk; omega) (by omega) rfl kf2 tyX2 tyX2_ok zdf2 kw1_137 kw1_138 kw1_5 (by decide) (by decide) 20 rfl ?_
  refine z_eq (c + 12) 11 727 rfl rfl rfl ?_
  refine z_dup dX0_init_20 rfl 21 rfl ?_
  refine z_callN (nn := 0) (As := []) dX0_init_21 24 rfl kn1_139 kw1_140 kw1_5 kw1_141 rfl (by decide +kernel) rfl (by decide) (by decide) (Nat.le_of_ble_eq_true rfl) _ rfl (by omega) (by have := lyt0 hk; omega) (by decide) (by decide) rfl (zc_X2 (ly0_1 hk).1) ?_
  refine z_eq (c + 18) 17 1223 rfl rfl rfl ?_
  refine z_putr (f := 11) (j := 1) (N := 6) dX0_init_24 hk (by decide) (lyn0 hk) (by omega) (by have := lyt0 hk; omega) rfl (by decide) kf0 tyX0 tyX0_ok nmX0 rfl rfl kw2_11 (by decide) (by decide) rfl (tyX0_ok 1 (by decide)) (fun _ => rfl) (fun _ => rfl) 27 rfl ?_
  refine z_aload_n dX0_init_27 rfl 28 rfl ?_
  refine z_new dX0_init_28 (ly0_2 hk).1 (by decide) (lyn6 (ly0_2 hk).1) (by have := lyt0 hk; omega) (by omega) rfl kf6 tyX6 tyX6_ok zdf6 kw1_169 kw1_170 kw1_6 (by decide) (by decide) 31 rfl ?_
  refine z_eq (c + 19) 18 1226 rfl rfl rfl ?_
  refine z_dup dX0_init_31 rfl 32 rfl ?_
  refine z_callN (nn := 0) (As := []) dX0_init_32 35 rfl kn1_171 kw1_172 kw1_6 kw1_173 rfl (by decide +kernel) rfl (by decide) (by decide) (Nat.le_of_ble_eq_true rfl) _ rfl (by omega) (by have := lyt0 hk; omega) (by decide) (by decide) rfl (zc_X6 (ly0_2 hk).1) ?_
  refine z_eq (c + 21) 20 1258 rfl rfl rfl ?_
  refine z_putr (f := 18) (j := 2) (N := 6) dX0_init_35 hk (by decide) (lyn0 hk) (by omega) (by have := lyt0 hk; omega) rfl (by decide) kf0 tyX0 tyX0_ok nmX0 rfl rfl kw2_13 (by decide) (by decide) rfl (tyX0_ok 2 (by decide)) (fun _ => rfl) (fun _ => rfl) 38 rfl ?_
  refine z_aload_n dX0_init_38 rfl 39 rfl ?_
  refine z_new dX0_init_39 (ly0_3 hk).1 (by decide) (lyn4 (ly0_3 hk).1) (by have := lyt0 hk; omega) (by omega) rfl kf4 tyX4 tyX4_ok zdf4 kw1_187 kw1_188 kw1_7 (by decide) (by decide) 42 rfl ?_
  refine z_eq (c + 22) 21 1263 rfl rfl rfl ?_
  refine z_dup dX0_init_42 rfl 43 rfl ?_
  refine z_callN (nn := 0) (As := []) dX0_init_43 46 rfl kn1_189 kw1_190 kw1_7 kw1_191 rfl (by decide +kernel) rfl (by decide) (by decide) (Nat.le_of_ble_eq_true rfl) _ rfl (by omega) (by have := lyt0 hk; omega) (by decide) (by decide) rfl (zc_X4 (ly0_3 hk).1) ?_
  refine z_eq (c + 26) 25 1327 rfl rfl rfl ?_
  refine z_putr (f := 21) (j := 3) (N := 6) dX0_init_46 hk (by decide) (lyn0 hk) (by omega) (by have := lyt0 hk; omega) rfl (by decide) kf0 tyX0 tyX0_ok nmX0 rfl rfl kw2_15 (by decide) (by decide) rfl (tyX0_ok 3 (by decide)) (fun _ => rfl) (fun _ => rfl) 49 rfl ?_
  refine z_aload_n dX0_init_49 rfl 50 rfl ?_
  refine z_new dX0_init_50 (ly0_4 hk).1 (by decide) (lyn7 (ly0_4 hk).1) (by have := lyt0 hk; omega) (by omega) rfl kf7 tyX7 tyX7_ok zdf7 kw1_211 kw1_212 kw1_8 (by decide) (by decide) 53 rfl ?_
  refine z_eq (c + 27) 26 1330 rfl rfl rfl ?_
  refine z_dup dX0_init_53 rfl 54 rfl ?_
  refine z_callN (nn := 0) (As := []) dX0_init_54 57 rfl kn1_213 kw1_214 kw1_8 kw1_215 rfl (by decide +kernel) rfl (by decide) (by decide) (Nat.le_of_ble_eq_true rfl) _ rfl (by omega) (by have := lyt0 hk; omega) (by decide) (by decide) rfl (zc_X7 (ly0_4 hk).1) ?_
  refine z_eq (c + 29) 28 1362 rfl rfl rfl ?_
  refine z_putr (f := 26) (j := 4) (N := 6) dX0_init_57 hk (by decide) (lyn0 hk) (by omega) (by have := lyt0 hk; omega) rfl (by decide) kf0 tyX0 tyX0_ok nmX0 rfl rfl kw2_17 (by decide) (by decide) rfl (tyX0_ok 4 (by decide)) (fun _ => rfl) (fun _ => rfl) 60 rfl ?_
  refine z_aload_n dX0_init_60 rfl 61 rfl ?_
  refine z_new dX0_init_61 (ly0_5 hk).1 (by decide) (lyn10 (ly0_5 hk).1) (by have := lyt0 hk; omega) (by omega) rfl kf10 tyX10 tyX10_ok zdf10 kw1_229 kw1_230 kw1_9 (by decide) (by decide) 64 rfl ?_
  refine z_eq (c + 30) 29 1366 rfl rfl rfl ?_
  refine z_dup dX0_init_64 rfl 65 rfl ?_
  refine z_callN (nn := 0) (As := []) dX0_init_65 68 rfl kn1_231 kw1_232 kw1_9 kw1_233 rfl (by decide +kernel) rfl (by decide) (by decide) (Nat.le_of_ble_eq_true rfl) _ rfl (by omega) (by have := lyt0 hk; omega) (by decide) (by decide) rfl (zc_X10 (ly0_5 hk).1) ?_
  refine z_eq (c + 33) 32 1387 rfl rfl rfl ?_
  refine z_putr (f := 29) (j := 5) (N := 6) dX0_init_68 hk (by decide) (lyn0 hk) (by omega) (by have := lyt0 hk; omega) rfl (by decide) kf0 tyX0 tyX0_ok nmX0 rfl rfl kw2_19 (by decide) (by decide) rfl (tyX0_ok 5 (by decide)) (fun _ => rfl) (fun _ => rfl) 71 rfl ?_
  exact z_ret dX0_init_71 rfl rfl rfl rfl rfl
def zZ_X3 (_ : Nat) (Z : Nat → Nat → Bool) : Nat → Nat → Bool := zZ_X9_0 129 (zZ_X9_0 119 (zZ_X9_0 109 (zZ_X9_0 99 (zZ_X9_0 89 (zZ_X9_0 79 (zu Z 77 0))))))
def zM_X3 (_ : Nat) (M : Mem) : Mem := xu (zM_X9_0 129 (xuC (xu (zM_X9_0 119 (xuC (xu (zM_X9_0 109 (xuC (xu (zM_X9_0 99 (xuC (xu (zM_X9_0 89 (xuC (xu (zM_X9_0 79 (xuC (xuC M 78 (fun _ => 0)) 79 (fun _ => 0))) 78 0 (nI 79)) 89 (fun _ => 0))) 78 1 (nI 89)) 99 (fun _ => 0))) 78 2 (nI 99)) 109 (fun _ => 0))) 78 3 (nI 109)) 119 (fun _ => 0))) 78 4 (nI 119)) 129 (fun _ => 0))) 78 5 (nI 129)
set_option maxRecDepth 4000 in
theorem zc_X3 {Z : Nat → Nat → Bool} {M : Mem} (hk : SHk 77 = 3) : zM yX3_init cX3_init 2 3 [.ref 77] 78 Z M 61 720 139 (zZ_X3 77 Z) (zM_X3 77 M) := by
  refine zM_of (by decide +kernel) rfl (Nat.le_of_ble_eq_true rfl) ?_
  show zX RX3 _ _ _ _ [(0, .ref 77)] _ _ _ _ _ _ _ _ _ _ _
  refine z_aload_n dX3_init_0 rfl 1 rfl ?_
  refine z_obj dX3_init_1 kw2_41 kw1_28 kw1_29 (by decide) (Nat.le_of_ble_eq_true rfl) 4 rfl ?_
  refine z_aload_n dX3_init_4 rfl 5 rfl ?_
  refine z_bipush dX3_init_5 zkkb_6 7 rfl ?_
  refine z_newq (N := 6) dX3_init_7 (by decide) (by decide) (by omega) kw2_42 (by decide) (by decide) (by decide) (by decide) (by decide) 10 rfl ?_
  refine z_eq 79 1 6 rfl rfl rfl ?_
  refine z_putr (f := 1) (j := 0) (N := 2) dX3_init_10 hk (by decide) (lyn3 hk) (by omega) (by decide) rfl (by decide) kf3 tyX3 tyX3_ok nmX3 rfl rfl kw2_45 (by decide) (by decide) rfl (tyX3_ok 0 (by decide)) (fun _ => rfl) (fun _ => rfl) 13 rfl ?_
  refine z_iconst dX3_init_13 zkkc_0 14 rfl ?_
  refine z_istore_n dX3_init_14 (by decide) [(0, .ref 77), (1, .int 0)] rfl 15 rfl ?_
  refine z_iload_n dX3_init_15 rfl 16 rfl ?_
  refine z_bipush dX3_init_16 zkkb_6 18 rfl ?_
  refine z_icmp_ge dX3_init_18 41 21 rfl rfl (fun h => absurd h (by decide)) (fun _ => ?_)
  refine z_aload_n dX3_init_21 rfl 22 rfl ?_
  refine z_getr (f := 1) (j := 0) (N := 2) dX3_init_22 hk (by decide) (lyn3 hk) (by omega) rfl (by decide) kf3 rfl kw2_45 (by decide) (by decide) (by simp [zu, zZ_X9_0]) 25 rfl ?_
  refine z_iload_n dX3_init_25 rfl 26 rfl ?_
  refine z_new dX3_init_26 (by decide) (by decide) (lyn9 (by decide)) (by decide) (by omega) rfl kf9 tyX9 tyX9_ok zdf9 kw2_42 kw1_37 kw1_3 (by decide) (by decide) 29 rfl ?_
  refine z_eq 80 2 25 rfl rfl rfl ?_
  refine z_dup dX3_init_29 rfl 30 rfl ?_
  refine z_iconst dX3_init_30 zkkc_0 31 rfl ?_
  refine z_call (nn := 1) (As := [.int 0]) dX3_init_31 34 rfl kw2_44 kw1_39 kw1_3 kw1_40 rfl (by decide +kernel) rfl (by decide) (by decide) (Nat.le_of_ble_eq_true rfl) _ rfl (by omega) (by decide) (by decide) (by decide) rfl (zc_X9_0 (by decide) (by decide)) ?_
  refine z_eq 89 11 125 rfl rfl rfl ?_
  refine z_aast (j := 0) (N := 6) dX3_init_34 (by decide) (by decide) (by omega) (by omega) (by decide) (by unfold vp_in; decide) (by decide) 35 rfl ?_
  refine z_iinc (y := 1) dX3_init_35 rfl (by decide) (by decide) [(0, .ref 77), (1, .int 1)] rfl 38 rfl ?_
  refine z_goto dX3_init_38 15 rfl ?_
  refine z_iload_n dX3_init_15 rfl 16 rfl ?_
  refine z_bipush dX3_init_16 zkkb_6 18 rfl ?_
  refine z_icmp_ge dX3_init_18 41 21 rfl rfl (fun h => absurd h (by decide)) (fun _ => ?_)
  refine z_aload_n dX3_init_21 rfl 22 rfl ?_
  refine z_getr (f := 1) (j := 0) (N := 2) dX3_init_22 hk (by decide) (lyn3 hk) (by omega) rfl (by decide) kf3 rfl kw2_45 (by decide) (by decide) (by simp [zu, zZ_X9_0]) 25 rfl ?_
  refine z_iload_n dX3_init_25 rfl 26 rfl ?_
  refine z_new dX3_init_26 (by decide) (by decide) (lyn9 (by decide)) (by decide) (by omega) rfl kf9 tyX9 tyX9_ok zdf9 kw2_42 kw1_37 kw1_3 (by decide) (by decide) 29 rfl ?_
  refine z_eq 90 12 144 rfl rfl rfl ?_
  refine z_dup dX3_init_29 rfl 30 rfl ?_
  refine z_iconst dX3_init_30 zkkc_0 31 rfl ?_
  refine z_call (nn := 1) (As := [.int 0]) dX3_init_31 34 rfl kw2_44 kw1_39 kw1_3 kw1_40 rfl (by decide +kernel) rfl (by decide) (by decide) (Nat.le_of_ble_eq_true rfl) _ rfl (by omega) (by decide) (by decide) (by decide) rfl (zc_X9_0 (by decide) (by decide)) ?_
  refine z_eq 99 21 244 rfl rfl rfl ?_
  refine z_aast (j := 1) (N := 6) dX3_init_34 (by decide) (by decide) (by omega) (by omega) (by decide) (by unfold vp_in; decide) (by decide) 35 rfl ?_
  refine z_iinc (y := 2) dX3_init_35 rfl (by decide) (by decide) [(0, .ref 77), (1, .int 2)] rfl 38 rfl ?_
  refine z_goto dX3_init_38 15 rfl ?_
  refine z_iload_n dX3_init_15 rfl 16 rfl ?_
  refine z_bipush dX3_init_16 zkkb_6 18 rfl ?_
  refine z_icmp_ge dX3_init_18 41 21 rfl rfl (fun h => absurd h (by decide)) (fun _ => ?_)
  refine z_aload_n dX3_init_21 rfl 22 rfl ?_
  refine z_getr (f := 1) (j := 0) (N := 2) dX3_init_22 hk (by decide) (lyn3 hk) (by omega) rfl (by decide) kf3 rfl kw2_45 (by decide) (by decide) (by simp [zu, zZ_X9_0]) 25 rfl ?_
  refine z_iload_n dX3_init_25 rfl 26 rfl ?_
  refine z_new dX3_init_26 (by decide) (by decide) (lyn9 (by decide)) (by decide) (by omega) rfl kf9 tyX9 tyX9_ok zdf9 kw2_42 kw1_37 kw1_3 (by decide) (by decide) 29 rfl ?_
  refine z_eq 100 22 263 rfl rfl rfl ?_
  refine z_dup dX3_init_29 rfl 30 rfl ?_
  refine z_iconst dX3_init_30 zkkc_0 31 rfl ?_
  refine z_call (nn := 1) (As := [.int 0]) dX3_init_31 34 rfl kw2_44 kw1_39 kw1_3 kw1_40 rfl (by decide +kernel) rfl (by decide) (by decide) (Nat.le_of_ble_eq_true rfl) _ rfl (by omega) (by decide) (by decide) (by decide) rfl (zc_X9_0 (by decide) (by decide)) ?_
  refine z_eq 109 31 363 rfl rfl rfl ?_
  refine z_aast (j := 2) (N := 6) dX3_init_34 (by decide) (by decide) (by omega) (by omega) (by decide) (by unfold vp_in; decide) (by decide) 35 rfl ?_
  refine z_iinc (y := 3) dX3_init_35 rfl (by decide) (by decide) [(0, .ref 77), (1, .int 3)] rfl 38 rfl ?_
  refine z_goto dX3_init_38 15 rfl ?_
  refine z_iload_n dX3_init_15 rfl 16 rfl ?_
  refine z_bipush dX3_init_16 zkkb_6 18 rfl ?_
  refine z_icmp_ge dX3_init_18 41 21 rfl rfl (fun h => absurd h (by decide)) (fun _ => ?_)
  refine z_aload_n dX3_init_21 rfl 22 rfl ?_
  refine z_getr (f := 1) (j := 0) (N := 2) dX3_init_22 hk (by decide) (lyn3 hk) (by omega) rfl (by decide) kf3 rfl kw2_45 (by decide) (by decide) (by simp [zu, zZ_X9_0]) 25 rfl ?_
  refine z_iload_n dX3_init_25 rfl 26 rfl ?_
  refine z_new dX3_init_26 (by decide) (by decide) (lyn9 (by decide)) (by decide) (by omega) rfl kf9 tyX9 tyX9_ok zdf9 kw2_42 kw1_37 kw1_3 (by decide) (by decide) 29 rfl ?_
  refine z_eq 110 32 382 rfl rfl rfl ?_
  refine z_dup dX3_init_29 rfl 30 rfl ?_
  refine z_iconst dX3_init_30 zkkc_0 31 rfl ?_
  refine z_call (nn := 1) (As := [.int 0]) dX3_init_31 34 rfl kw2_44 kw1_39 kw1_3 kw1_40 rfl (by decide +kernel) rfl (by decide) (by decide) (Nat.le_of_ble_eq_true rfl) _ rfl (by omega) (by decide) (by decide) (by decide) rfl (zc_X9_0 (by decide) (by decide)) ?_
  refine z_eq 119 41 482 rfl rfl rfl ?_
  refine z_aast (j := 3) (N := 6) dX3_init_34 (by decide) (by decide) (by omega) (by omega) (by decide) (by unfold vp_in; decide) (by decide) 35 rfl ?_
  refine z_iinc (y := 4) dX3_init_35 rfl (by decide) (by decide) [(0, .ref 77), (1, .int 4)] rfl 38 rfl ?_
  refine z_goto dX3_init_38 15 rfl ?_
  refine z_iload_n dX3_init_15 rfl 16 rfl ?_
  refine z_bipush dX3_init_16 zkkb_6 18 rfl ?_
  refine z_icmp_ge dX3_init_18 41 21 rfl rfl (fun h => absurd h (by decide)) (fun _ => ?_)
  refine z_aload_n dX3_init_21 rfl 22 rfl ?_
  refine z_getr (f := 1) (j := 0) (N := 2) dX3_init_22 hk (by decide) (lyn3 hk) (by omega) rfl (by decide) kf3 rfl kw2_45 (by decide) (by decide) (by simp [zu, zZ_X9_0]) 25 rfl ?_
  refine z_iload_n dX3_init_25 rfl 26 rfl ?_
  refine z_new dX3_init_26 (by decide) (by decide) (lyn9 (by decide)) (by decide) (by omega) rfl kf9 tyX9 tyX9_ok zdf9 kw2_42 kw1_37 kw1_3 (by decide) (by decide) 29 rfl ?_
  refine z_eq 120 42 501 rfl rfl rfl ?_
  refine z_dup dX3_init_29 rfl 30 rfl ?_
  refine z_iconst dX3_init_30 zkkc_0 31 rfl ?_
  refine z_call (nn := 1) (As := [.int 0]) dX3_init_31 34 rfl kw2_44 kw1_39 kw1_3 kw1_40 rfl (by decide +kernel) rfl (by decide) (by decide) (Nat.le_of_ble_eq_true rfl) _ rfl (by omega) (by decide) (by decide) (by decide) rfl (zc_X9_0 (by decide) (by decide)) ?_
  refine z_eq 129 51 601 rfl rfl rfl ?_
  refine z_aast (j := 4) (N := 6) dX3_init_34 (by decide) (by decide) (by omega) (by omega) (by decide) (by unfold vp_in; decide) (by decide) 35 rfl ?_
  refine z_iinc (y := 5) dX3_init_35 rfl (by decide) (by decide) [(0, .ref 77), (1, .int 5)] rfl 38 rfl ?_
  refine z_goto dX3_init_38 15 rfl ?_
  refine z_iload_n dX3_init_15 rfl 16 rfl ?_
  refine z_bipush dX3_init_16 zkkb_6 18 rfl ?_
  refine z_icmp_ge dX3_init_18 41 21 rfl rfl (fun h => absurd h (by decide)) (fun _ => ?_)
  refine z_aload_n dX3_init_21 rfl 22 rfl ?_
  refine z_getr (f := 1) (j := 0) (N := 2) dX3_init_22 hk (by decide) (lyn3 hk) (by omega) rfl (by decide) kf3 rfl kw2_45 (by decide) (by decide) (by simp [zu, zZ_X9_0]) 25 rfl ?_
  refine z_iload_n dX3_init_25 rfl 26 rfl ?_
  refine z_new dX3_init_26 (by decide) (by decide) (lyn9 (by decide)) (by decide) (by omega) rfl kf9 tyX9 tyX9_ok zdf9 kw2_42 kw1_37 kw1_3 (by decide) (by decide) 29 rfl ?_
  refine z_eq 130 52 620 rfl rfl rfl ?_
  refine z_dup dX3_init_29 rfl 30 rfl ?_
  refine z_iconst dX3_init_30 zkkc_0 31 rfl ?_
  refine z_call (nn := 1) (As := [.int 0]) dX3_init_31 34 rfl kw2_44 kw1_39 kw1_3 kw1_40 rfl (by decide +kernel) rfl (by decide) (by decide) (Nat.le_of_ble_eq_true rfl) _ rfl (by omega) (by decide) (by decide) (by decide) rfl (zc_X9_0 (by decide) (by decide)) ?_
  refine z_eq 139 61 720 rfl rfl rfl ?_
  refine z_aast (j := 5) (N := 6) dX3_init_34 (by decide) (by decide) (by omega) (by omega) (by decide) (by unfold vp_in; decide) (by decide) 35 rfl ?_
  refine z_iinc (y := 6) dX3_init_35 rfl (by decide) (by decide) [(0, .ref 77), (1, .int 6)] rfl 38 rfl ?_
  refine z_goto dX3_init_38 15 rfl ?_
  refine z_iload_n dX3_init_15 rfl 16 rfl ?_
  refine z_bipush dX3_init_16 zkkb_6 18 rfl ?_
  refine z_icmp_ge dX3_init_18 41 21 rfl rfl (fun _ => ?_) (fun h => absurd (by decide) h)
  exact z_ret dX3_init_41 rfl rfl rfl rfl rfl
def zZ_X5 (_ : Nat) (Z : Nat → Nat → Bool) : Nat → Nat → Bool := zu (zZ_X8 158 (zu (zZ_X7 155 (zu (zZ_X4 150 (zu (zZ_X6 147 (zu (zZ_X2 140 Z) 139 0)) 139 1)) 139 2)) 139 3)) 139 4
def zM_X5 (_ : Nat) (M : Mem) : Mem := xu (zM_X8 158 (xuC (zM_X7 155 (xuC (zM_X4 150 (xuC (zM_X6 147 (xuC (zM_X2 140 (xuC M 140 (fun _ => 0))) 147 (fun _ => 0))) 150 (fun _ => 0))) 155 (fun _ => 0))) 158 (fun _ => 0))) 139 11 (-1)
set_option maxRecDepth 4000 in
theorem zc_X5 {Z : Nat → Nat → Bool} {M : Mem} (hk : SHk 139 = 5) : zM yX5_init cX5_init 1 2 [.ref 139] 140 Z M 22 1850 162 (zZ_X5 139 Z) (zM_X5 139 M) := by
  refine zM_of (by decide +kernel) rfl (Nat.le_of_ble_eq_true rfl) ?_
  show zX RX5 _ _ _ _ [(0, .ref 139)] _ _ _ _ _ _ _ _ _ _ _
  refine z_aload_n dX5_init_0 rfl 1 rfl ?_
  refine z_obj dX5_init_1 kw2_58 kw1_28 kw1_29 (by decide) (Nat.le_of_ble_eq_true rfl) 4 rfl ?_
  refine z_aload_n dX5_init_4 rfl 5 rfl ?_
  refine z_new dX5_init_5 (by decide) (by decide) (lyn2 (by decide)) (by decide) (by omega) rfl kf2 tyX2 tyX2_ok zdf2 kw2_59 kw1_138 kw1_5 (by decide) (by decide) 8 rfl ?_
  refine z_eq 141 1 8 rfl rfl rfl ?_
  refine z_dup dX5_init_8 rfl 9 rfl ?_
  refine z_callN (nn := 0) (As := []) dX5_init_9 12 rfl kn2_60 kw1_140 kw1_5 kw1_141 rfl (by decide +kernel) rfl (by decide) (by decide) (Nat.le_of_ble_eq_true rfl) _ rfl (by omega) (by decide) (by decide) (by decide) rfl (zc_X2 (by decide)) ?_
  refine z_eq 147 7 504 rfl rfl rfl ?_
  refine z_putr (f := 1) (j := 0) (N := 12) dX5_init_12 hk (by decide) (lyn5 hk) (by omega) (by decide) rfl (by decide) kf5 tyX5 tyX5_ok nmX5 rfl rfl kw2_90 (by decide) (by decide) rfl (tyX5_ok 0 (by decide)) (fun _ => rfl) (fun _ => rfl) 15 rfl ?_
  refine z_aload_n dX5_init_15 rfl 16 rfl ?_
  refine z_new dX5_init_16 (by decide) (by decide) (lyn6 (by decide)) (by decide) (by omega) rfl kf6 tyX6 tyX6_ok zdf6 kw2_61 kw1_170 kw1_6 (by decide) (by decide) 19 rfl ?_
  refine z_eq 148 8 507 rfl rfl rfl ?_
  refine z_dup dX5_init_19 rfl 20 rfl ?_
  refine z_callN (nn := 0) (As := []) dX5_init_20 23 rfl kn2_62 kw1_172 kw1_6 kw1_173 rfl (by decide +kernel) rfl (by decide) (by decide) (Nat.le_of_ble_eq_true rfl) _ rfl (by omega) (by decide) (by decide) (by decide) rfl (zc_X6 (by decide)) ?_
  refine z_eq 150 10 539 rfl rfl rfl ?_
  refine z_putr (f := 8) (j := 1) (N := 12) dX5_init_23 hk (by decide) (lyn5 hk) (by omega) (by decide) rfl (by decide) kf5 tyX5 tyX5_ok nmX5 rfl rfl kw2_92 (by decide) (by decide) rfl (tyX5_ok 1 (by decide)) (fun _ => rfl) (fun _ => rfl) 26 rfl ?_
  refine z_aload_n dX5_init_26 rfl 27 rfl ?_
  refine z_new dX5_init_27 (by decide) (by decide) (lyn4 (by decide)) (by decide) (by omega) rfl kf4 tyX4 tyX4_ok zdf4 kw2_63 kw1_188 kw1_7 (by decide) (by decide) 30 rfl ?_
  refine z_eq 151 11 544 rfl rfl rfl ?_
  refine z_dup dX5_init_30 rfl 31 rfl ?_
  refine z_callN (nn := 0) (As := []) dX5_init_31 34 rfl kn2_64 kw1_190 kw1_7 kw1_191 rfl (by decide +kernel) rfl (by decide) (by decide) (Nat.le_of_ble_eq_true rfl) _ rfl (by omega) (by decide) (by decide) (by decide) rfl (zc_X4 (by decide)) ?_
  refine z_eq 155 15 608 rfl rfl rfl ?_
  refine z_putr (f := 11) (j := 2) (N := 12) dX5_init_34 hk (by decide) (lyn5 hk) (by omega) (by decide) rfl (by decide) kf5 tyX5 tyX5_ok nmX5 rfl rfl kw2_94 (by decide) (by decide) rfl (tyX5_ok 2 (by decide)) (fun _ => rfl) (fun _ => rfl) 37 rfl ?_
  refine z_aload_n dX5_init_37 rfl 38 rfl ?_
  refine z_new dX5_init_38 (by decide) (by decide) (lyn7 (by decide)) (by decide) (by omega) rfl kf7 tyX7 tyX7_ok zdf7 kw2_65 kw1_212 kw1_8 (by decide) (by decide) 41 rfl ?_
  refine z_eq 156 16 611 rfl rfl rfl ?_
  refine z_dup dX5_init_41 rfl 42 rfl ?_
  refine z_callN (nn := 0) (As := []) dX5_init_42 45 rfl kn2_66 kw1_214 kw1_8 kw1_215 rfl (by decide +kernel) rfl (by decide) (by decide) (Nat.le_of_ble_eq_true rfl) _ rfl (by omega) (by decide) (by decide) (by decide) rfl (zc_X7 (by decide)) ?_
  refine z_eq 158 18 643 rfl rfl rfl ?_
  refine z_putr (f := 16) (j := 3) (N := 12) dX5_init_45 hk (by decide) (lyn5 hk) (by omega) (by decide) rfl (by decide) kf5 tyX5 tyX5_ok nmX5 rfl rfl kw2_96 (by decide) (by decide) rfl (tyX5_ok 3 (by decide)) (fun _ => rfl) (fun _ => rfl) 48 rfl ?_
  refine z_aload_n dX5_init_48 rfl 49 rfl ?_
  refine z_new dX5_init_49 (by decide) (by decide) (lyn8 (by decide)) (by decide) (by omega) rfl kf8 tyX8 tyX8_ok zdf8 kw2_67 kw2_68 kw1_12 (by decide) (by decide) 52 rfl ?_
  refine z_eq 159 19 647 rfl rfl rfl ?_
  refine z_dup dX5_init_52 rfl 53 rfl ?_
  refine z_callN (nn := 0) (As := []) dX5_init_53 56 rfl kn2_69 kw2_70 kw1_12 kw2_71 rfl (by decide +kernel) rfl (by decide) (by decide) (Nat.le_of_ble_eq_true rfl) _ rfl (by omega) (by decide) (by decide) (by decide) rfl (zc_X8 (by decide)) ?_
  refine z_eq 162 22 1850 rfl rfl rfl ?_
  refine z_putr (f := 19) (j := 4) (N := 12) dX5_init_56 hk (by decide) (lyn5 hk) (by omega) (by decide) rfl (by decide) kf5 tyX5 tyX5_ok nmX5 rfl rfl kw2_98 (by decide) (by decide) rfl (tyX5_ok 4 (by decide)) (fun _ => rfl) (fun _ => rfl) 59 rfl ?_
  refine z_aload_n dX5_init_59 rfl 60 rfl ?_
  refine z_iconst dX5_init_60 zkkc_m1 61 rfl ?_
  refine z_puti (j := 11) (N := 12) dX5_init_61 hk (by decide) (lyn5 hk) (by omega) (by decide) rfl (by decide) kf5 tyX5 tyX5_ok nmX5 rfl kw2_106 (by decide) rfl (tyX5_ok 11 (by decide)) (fun _ => rfl) (fun _ => rfl) 64 rfl ?_
  exact z_ret dX5_init_64 rfl rfl rfl rfl rfl
def zZ_X11 (_ : Nat) (Z : Nat → Nat → Bool) : Nat → Nat → Bool := zu (zu (zZ_X1 162 (zu (zZ_X5 139 (zu (zZ_X3 77 (zu (zZ_X9_0 67 (zu (zZ_X0 34 (zu (zZ_X0 1 Z) 0 0)) 0 1)) 0 2)) 0 3)) 0 4)) 0 5) 0 6
def zM_X11 (_ : Nat) (M : Mem) : Mem := xuC (zM_X1 162 (xuC (zM_X5 139 (xuC (zM_X3 77 (xuC (zM_X9_0 67 (xuC (zM_X0 34 (xuC (zM_X0 1 (xuC M 1 (fun _ => 0))) 34 (fun _ => 0))) 67 (fun _ => 0))) 77 (fun _ => 0))) 139 (fun _ => 0))) 162 (fun _ => 0))) 165 (fun _ => 0)
set_option maxRecDepth 4000 in
theorem zc_X11 {Z : Nat → Nat → Bool} {M : Mem} (hk : SHk 0 = 11) : zM yX11_init cX11_init 1 4 [.ref 0] 1 Z M 165 5911 166 (zZ_X11 0 Z) (zM_X11 0 M) := by
  refine zM_of (by decide +kernel) rfl (Nat.le_of_ble_eq_true rfl) ?_
  show zX RX11 _ _ _ _ [(0, .ref 0)] _ _ _ _ _ _ _ _ _ _ _
  refine z_aload_n dX11_init_0 rfl 1 rfl ?_
  refine z_obj dX11_init_1 kw1_27 kw1_28 kw1_29 (by decide) (Nat.le_of_ble_eq_true rfl) 4 rfl ?_
  refine z_aload_n dX11_init_4 rfl 5 rfl ?_
  refine z_new dX11_init_5 (by decide) (by decide) (lyn0 (by decide)) (by decide) (by omega) rfl kf0 tyX0 tyX0_ok zdf0 kw1_30 kw1_31 kw1_2 (by decide) (by decide) 8 rfl ?_
  refine z_eq 2 1 6 rfl rfl rfl ?_
  refine z_dup dX11_init_8 rfl 9 rfl ?_
  refine z_callN (nn := 0) (As := []) dX11_init_9 12 rfl kn1_32 kw1_33 kw1_2 kw1_34 rfl (by decide +kernel) rfl (by decide) (by decide) (Nat.le_of_ble_eq_true rfl) _ rfl (by omega) (by decide) (by decide) (by decide) rfl (zc_X0 (by decide)) ?_
  refine z_eq 34 33 1393 rfl rfl rfl ?_
  refine z_putr (f := 1) (j := 0) (N := 9) dX11_init_12 hk (by decide) (lyn11 hk) (by omega) (by decide) rfl (by decide) kf11 tyX11 tyX11_ok nmX11 rfl rfl kw2_148 (by decide) (by decide) rfl (tyX11_ok 0 (by decide)) (fun _ => rfl) (fun _ => rfl) 15 rfl ?_
  refine z_aload_n dX11_init_15 rfl 16 rfl ?_
  refine z_new dX11_init_16 (by decide) (by decide) (lyn0 (by decide)) (by decide) (by omega) rfl kf0 tyX0 tyX0_ok zdf0 kw1_30 kw1_31 kw1_2 (by decide) (by decide) 19 rfl ?_
  refine z_eq 35 34 1399 rfl rfl rfl ?_
  refine z_dup dX11_init_19 rfl 20 rfl ?_
  refine z_callN (nn := 0) (As := []) dX11_init_20 23 rfl kn1_32 kw1_33 kw1_2 kw1_34 rfl (by decide +kernel) rfl (by decide) (by decide) (Nat.le_of_ble_eq_true rfl) _ rfl (by omega) (by decide) (by decide) (by decide) rfl (zc_X0 (by decide)) ?_
  refine z_eq 67 66 2786 rfl rfl rfl ?_
  refine z_putr (f := 34) (j := 1) (N := 9) dX11_init_23 hk (by decide) (lyn11 hk) (by omega) (by decide) rfl (by decide) kf11 tyX11 tyX11_ok nmX11 rfl rfl kw2_149 (by decide) (by decide) rfl (tyX11_ok 1 (by decide)) (fun _ => rfl) (fun _ => rfl) 26 rfl ?_
  refine z_aload_n dX11_init_26 rfl 27 rfl ?_
  refine z_new dX11_init_27 (by decide) (by decide) (lyn9 (by decide)) (by decide) (by omega) rfl kf9 tyX9 tyX9_ok zdf9 kw2_34 kw1_37 kw1_3 (by decide) (by decide) 30 rfl ?_
  refine z_eq 68 67 2805 rfl rfl rfl ?_
  refine z_dup dX11_init_30 rfl 31 rfl ?_
  refine z_iconst dX11_init_31 zkkc_0 32 rfl ?_
  refine z_call (nn := 1) (As := [.int 0]) dX11_init_32 35 rfl kw2_35 kw1_39 kw1_3 kw1_40 rfl (by decide +kernel) rfl (by decide) (by decide) (Nat.le_of_ble_eq_true rfl) _ rfl (by omega) (by decide) (by decide) (by decide) rfl (zc_X9_0 (by decide) (by decide)) ?_
  refine z_eq 77 76 2905 rfl rfl rfl ?_
  refine z_putr (f := 67) (j := 2) (N := 9) dX11_init_35 hk (by decide) (lyn11 hk) (by omega) (by decide) rfl (by decide) kf11 tyX11 tyX11_ok nmX11 rfl rfl kw2_150 (by decide) (by decide) rfl (tyX11_ok 2 (by decide)) (fun _ => rfl) (fun _ => rfl) 38 rfl ?_
  refine z_aload_n dX11_init_38 rfl 39 rfl ?_
  refine z_new dX11_init_39 (by decide) (by decide) (lyn3 (by decide)) (by decide) (by omega) rfl kf3 tyX3 tyX3_ok zdf3 kw2_36 kw2_37 kw1_10 (by decide) (by decide) 42 rfl ?_
  refine z_eq 78 77 2907 rfl rfl rfl ?_
  refine z_dup dX11_init_42 rfl 43 rfl ?_
  refine z_call (nn := 0) (As := []) dX11_init_43 46 rfl kw2_38 kw2_39 kw1_10 kw2_40 rfl (by decide +kernel) rfl (by decide) (by decide) (Nat.le_of_ble_eq_true rfl) _ rfl (by omega) (by decide) (by decide) (by decide) rfl (zc_X3 (by decide)) ?_
  refine z_eq 139 138 3627 rfl rfl rfl ?_
  refine z_putr (f := 77) (j := 3) (N := 9) dX11_init_46 hk (by decide) (lyn11 hk) (by omega) (by decide) rfl (by decide) kf11 tyX11 tyX11_ok nmX11 rfl rfl kw2_151 (by decide) (by decide) rfl (tyX11_ok 3 (by decide)) (fun _ => rfl) (fun _ => rfl) 49 rfl ?_
  refine z_aload_n dX11_init_49 rfl 50 rfl ?_
  refine z_new dX11_init_50 (by decide) (by decide) (lyn5 (by decide)) (by decide) (by omega) rfl kf5 tyX5 tyX5_ok zdf5 kw2_53 kw2_54 kw1_11 (by decide) (by decide) 53 rfl ?_
  refine z_eq 140 139 3639 rfl rfl rfl ?_
  refine z_dup dX11_init_53 rfl 54 rfl ?_
  refine z_callN (nn := 0) (As := []) dX11_init_54 57 rfl kn2_55 kw2_56 kw1_11 kw2_57 rfl (by decide +kernel) rfl (by decide) (by decide) (Nat.le_of_ble_eq_true rfl) _ rfl (by omega) (by decide) (by decide) (by decide) rfl (zc_X5 (by decide)) ?_
  refine z_eq 162 161 5489 rfl rfl rfl ?_
  refine z_putr (f := 139) (j := 4) (N := 9) dX11_init_57 hk (by decide) (lyn11 hk) (by omega) (by decide) rfl (by decide) kf11 tyX11 tyX11_ok nmX11 rfl rfl kw2_152 (by decide) (by decide) rfl (tyX11_ok 4 (by decide)) (fun _ => rfl) (fun _ => rfl) 60 rfl ?_
  refine z_aload_n dX11_init_60 rfl 61 rfl ?_
  refine z_new dX11_init_61 (by decide) (by decide) (lyn1 (by decide)) (by decide) (by omega) rfl kf1 tyX1 tyX1_ok zdf1 kw2_133 kw2_134 kw1_13 (by decide) (by decide) 64 rfl ?_
  refine z_eq 163 162 5491 rfl rfl rfl ?_
  refine z_dup dX11_init_64 rfl 65 rfl ?_
  refine z_callN (nn := 0) (As := []) dX11_init_65 68 rfl kn2_135 kw2_136 kw1_13 kw2_137 rfl (by decide +kernel) rfl (by decide) (by decide) (Nat.le_of_ble_eq_true rfl) _ rfl (by omega) (by decide) (by decide) (by decide) rfl (zc_X1 (by decide)) ?_
  refine z_eq 165 164 5511 rfl rfl rfl ?_
  refine z_putr (f := 162) (j := 5) (N := 9) dX11_init_68 hk (by decide) (lyn11 hk) (by omega) (by decide) rfl (by decide) kf11 tyX11 tyX11_ok nmX11 rfl rfl kw2_153 (by decide) (by decide) rfl (tyX11_ok 5 (by decide)) (fun _ => rfl) (fun _ => rfl) 71 rfl ?_
  refine z_aload_n dX11_init_71 rfl 72 rfl ?_
  refine z_sipush dX11_init_72 zkkh_400 75 rfl ?_
  refine z_newb (N := 400) dX11_init_75 (by decide) (by decide) (by omega) (by decide) (by decide) (by decide) (by decide) (by decide) 77 rfl ?_
  refine z_eq 166 165 5911 rfl rfl rfl ?_
  refine z_putr (f := 165) (j := 6) (N := 9) dX11_init_77 hk (by decide) (lyn11 hk) (by omega) (by decide) rfl (by decide) kf11 tyX11 tyX11_ok nmX11 rfl rfl kw2_154 (by decide) (by decide) rfl (tyX11_ok 6 (by decide)) (fun _ => rfl) (fun _ => rfl) 80 rfl ?_
  exact z_ret dX11_init_80 rfl rfl rfl rfl rfl
def zZ_X12 (_ : Nat) (Z : Nat → Nat → Bool) : Nat → Nat → Bool := zu (zu (zu (zu (zu (zu (zu (zu (zu (zu (zu (zu (zu (zu (zu (zu (zu (zu (zu (zu (zu (zu (zu (zu (zu Z 166 1) 166 2) 166 4) 166 8) 166 9) 166 10) 166 16) 166 17) 166 18) 166 19) 166 20) 166 21) 166 22) 166 23) 166 27) 166 34) 166 36) 166 38) 166 39) 166 40) 166 42) 166 43) 166 44) 166 45) 166 49
def zM_X12 (_ : Nat) (M : Mem) : Mem := xuC (xuC (xuC (xuC (xuC (xuC (xuC (xuC (xuC (xuC (xu (xuC (xuC (xuC (xuC (xuC (xuC (xuC (xuC (xu (xu (xu (xu (xu (xu (xu (xu (xu (xu (xu (xu (xu (xu (xu (xu (xu (xu (xu (xu (xu (xu (xu (xu (xu (xu (xu (xu (xu (xu (xu (xu (xu (xu (xu (xu (xu (xu (xu (xu (xu (xu (xu (xu (xu (xu (xu (xu (xu (xu (xu (xu (xu (xu (xu (xu (xu (xu (xu (xu (xu (xu (xu (xu (xu (xu (xu (xu (xu (xu (xu (xu (xu (xu (xu (xu (xu (xu (xu (xu (xu (xu (xu (xu (xu (xu (xu (xu (xu (xu (xu (xu (xu (xu (xu (xu (xu (xu (xu (xu (xu (xu (xu (xu (xu (xu (xu (xu (xu (xu (xu (xu (xu (xu (xu (xu (xu (xu (xu (xu (xu (xu (xu (xu (xu (xuC (xuC (xuC (xuC (xuC (xuC (xuC M 167 (fun _ => 0)) 168 (fun _ => 0)) 169 (fun _ => 0)) 170 (fun _ => 0)) 171 (fun _ => 0)) 172 (fun _ => 0)) 173 (fun _ => 0)) 173 0 32) 173 1 101) 173 2 97) 173 3 116) 173 4 115) 173 5 32) 173 6 100) 173 7 105) 173 8 101) 173 9 115) 173 10 32) 173 11 108) 173 12 101) 173 13 97) 173 14 110) 173 15 115) 173 16 32) 173 17 119) 173 18 104) 173 19 101) 173 20 110) 173 21 32) 173 22 111) 173 23 114) 173 24 32) 173 25 97) 173 26 110) 173 27 100) 173 28 32) 173 29 110) 173 30 111) 173 31 116) 173 32 32) 173 33 97) 173 34 103) 173 35 101) 173 36 32) 173 37 102) 173 38 97) 173 39 105) 173 40 116) 173 41 104) 173 42 32) 173 43 100) 173 44 111) 173 45 99) 173 46 116) 173 47 114) 173 48 105) 173 49 110) 173 50 101) 173 51 32) 173 52 104) 173 53 117) 173 54 110) 173 55 103) 173 56 101) 173 57 114) 173 58 32) 173 59 112) 173 60 108) 173 61 97) 173 62 99) 173 63 101) 173 64 32) 173 65 116) 173 66 97) 173 67 108) 173 68 108) 173 69 32) 173 70 119) 173 71 101) 173 72 97) 173 73 116) 173 74 104) 173 75 101) 173 76 114) 173 77 32) 173 78 97) 173 79 98) 173 80 111) 173 81 118) 173 82 101) 173 83 32) 173 84 100) 173 85 97) 173 86 121) 173 87 32) 173 88 105) 173 89 115) 173 90 32) 173 91 111) 173 92 110) 173 93 32) 173 94 108) 173 95 111) 173 96 97) 173 97 118) 173 98 101) 173 99 115) 173 100 32) 173 101 115) 173 102 97) 173 103 121) 173 104 32) 173 105 100) 173 106 111) 173 107 119) 173 108 110) 173 109 32) 173 110 98) 173 111 117) 173 112 105) 173 113 108) 173 114 100) 173 115 32) 173 116 99) 173 117 117) 173 118 114) 173 119 115) 173 120 101) 173 121 32) 173 122 115) 173 123 111) 173 124 32) 174 (fun _ => 0)) 175 (fun _ => 0)) 176 (fun _ => 0)) 177 (fun _ => 0)) 178 (fun _ => 0)) 179 (fun _ => 0)) 180 (fun _ => 0)) 181 (fun _ => 0)) 166 32 (-1)) 182 (fun _ => 0)) 183 (fun _ => 0)) 184 (fun _ => 0)) 185 (fun _ => 0)) 186 (fun _ => 0)) 187 (fun _ => 0)) 188 (fun _ => 0)) 189 (fun _ => 0)) 190 (fun _ => 0)) 191 (fun _ => 0)
set_option maxRecDepth 4000 in
theorem zc_X12 {Z : Nat → Nat → Bool} {M : Mem} (hk : SHk 166 = 12) : zM yX12_init cX12_init 1 1 [.ref 166] 167 Z M 25 7448 192 (zZ_X12 166 Z) (zM_X12 166 M) := by
  refine zM_of (by decide +kernel) rfl (Nat.le_of_ble_eq_true rfl) ?_
  show zX RX12 _ _ _ _ [(0, .ref 166)] _ _ _ _ _ _ _ _ _ _ _
  refine z_aload_n dX12_init_0 rfl 1 rfl ?_
  refine z_obj dX12_init_1 kw5_158 kw1_28 kw1_29 (by decide) (Nat.le_of_ble_eq_true rfl) 4 rfl ?_
  refine z_aload_n dX12_init_4 rfl 5 rfl ?_
  refine z_bipush dX12_init_5 zkkb_107 7 rfl ?_
  refine z_newi (N := 107) dX12_init_7 (by decide) (by decide) (by omega) (by decide) (by decide) (by decide) (by decide) (by decide) 9 rfl ?_
  refine z_eq 168 1 107 rfl rfl rfl ?_
  refine z_putr (f := 1) (j := 1) (N := 50) dX12_init_9 hk (by decide) (lyn12 hk) (by omega) (by decide) rfl (by decide) kf12 tyX12 tyX12_ok nmX12 rfl rfl kw5_160 (by decide) (by decide) rfl (tyX12_ok 1 (by decide)) (fun _ => rfl) (fun _ => rfl) 12 rfl ?_
  refine z_aload_n dX12_init_12 rfl 13 rfl ?_
  refine z_sipush dX12_init_13 zkkh_642 16 rfl ?_
  refine z_newi (N := 642) dX12_init_16 (by decide) (by decide) (by omega) (by decide) (by decide) (by decide) (by decide) (by decide) 18 rfl ?_
  refine z_eq 169 2 749 rfl rfl rfl ?_
  refine z_putr (f := 2) (j := 2) (N := 50) dX12_init_18 hk (by decide) (lyn12 hk) (by omega) (by decide) rfl (by decide) kf12 tyX12 tyX12_ok nmX12 rfl rfl kw5_161 (by decide) (by decide) rfl (tyX12_ok 2 (by decide)) (fun _ => rfl) (fun _ => rfl) 21 rfl ?_
  refine z_aload_n dX12_init_21 rfl 22 rfl ?_
  refine z_bipush dX12_init_22 zkkb_107 24 rfl ?_
  refine z_newi (N := 107) dX12_init_24 (by decide) (by decide) (by omega) (by decide) (by decide) (by decide) (by decide) (by decide) 26 rfl ?_
  refine z_eq 170 3 856 rfl rfl rfl ?_
  refine z_putr (f := 3) (j := 4) (N := 50) dX12_init_26 hk (by decide) (lyn12 hk) (by omega) (by decide) rfl (by decide) kf12 tyX12 tyX12_ok nmX12 rfl rfl kw5_163 (by decide) (by decide) rfl (tyX12_ok 4 (by decide)) (fun _ => rfl) (fun _ => rfl) 29 rfl ?_
  refine z_aload_n dX12_init_29 rfl 30 rfl ?_
  refine z_bipush dX12_init_30 zkkb_14 32 rfl ?_
  refine z_newi (N := 14) dX12_init_32 (by decide) (by decide) (by omega) (by decide) (by decide) (by decide) (by decide) (by decide) 34 rfl ?_
  refine z_eq 171 4 870 rfl rfl rfl ?_
  refine z_putr (f := 4) (j := 8) (N := 50) dX12_init_34 hk (by decide) (lyn12 hk) (by omega) (by decide) rfl (by decide) kf12 tyX12 tyX12_ok nmX12 rfl rfl kw5_167 (by decide) (by decide) rfl (tyX12_ok 8 (by decide)) (fun _ => rfl) (fun _ => rfl) 37 rfl ?_
  refine z_aload_n dX12_init_37 rfl 38 rfl ?_
  refine z_sipush dX12_init_38 zkkh_600 41 rfl ?_
  refine z_newi (N := 600) dX12_init_41 (by decide) (by decide) (by omega) (by decide) (by decide) (by decide) (by decide) (by decide) 43 rfl ?_
  refine z_eq 172 5 1470 rfl rfl rfl ?_
  refine z_putr (f := 5) (j := 9) (N := 50) dX12_init_43 hk (by decide) (lyn12 hk) (by omega) (by decide) rfl (by decide) kf12 tyX12 tyX12_ok nmX12 rfl rfl kw5_168 (by decide) (by decide) rfl (tyX12_ok 9 (by decide)) (fun _ => rfl) (fun _ => rfl) 46 rfl ?_
  refine z_aload_n dX12_init_46 rfl 47 rfl ?_
  refine z_sipush dX12_init_47 zkkh_400 50 rfl ?_
  refine z_newi (N := 400) dX12_init_50 (by decide) (by decide) (by omega) (by decide) (by decide) (by decide) (by decide) (by decide) 52 rfl ?_
  refine z_eq 173 6 1870 rfl rfl rfl ?_
  refine z_putr (f := 6) (j := 10) (N := 50) dX12_init_52 hk (by decide) (lyn12 hk) (by omega) (by decide) rfl (by decide) kf12 tyX12 tyX12_ok nmX12 rfl rfl kw5_169 (by decide) (by decide) rfl (tyX12_ok 10 (by decide)) (fun _ => rfl) (fun _ => rfl) 55 rfl ?_
  refine z_aload_n dX12_init_55 rfl 56 rfl ?_
  refine z_bipush dX12_init_56 zkkb_125 58 rfl ?_
  refine z_newi (N := 125) dX12_init_58 (by decide) (by decide) (by omega) (by decide) (by decide) (by decide) (by decide) (by decide) 60 rfl ?_
  refine z_eq 174 7 1995 rfl rfl rfl ?_
  refine z_dup dX12_init_60 rfl 61 rfl ?_
  refine z_iconst dX12_init_61 zkkc_0 62 rfl ?_
  refine z_bipush dX12_init_62 zkkb_32 64 rfl ?_
  refine z_iast (j := 0) (N := 125) dX12_init_64 (by decide) (by omega) (by decide) (by unfold vp_in; decide) (by decide) 65 rfl ?_
  refine z_dup dX12_init_65 rfl 66 rfl ?_
  refine z_iconst dX12_init_66 zkkc_1 67 rfl ?_
  refine z_bipush dX12_init_67 zkkb_101 69 rfl ?_
  refine z_iast (j := 1) (N := 125) dX12_init_69 (by decide) (by omega) (by decide) (by unfold vp_in; decide) (by decide) 70 rfl ?_
  refine z_dup dX12_init_70 rfl 71 rfl ?_
  refine z_iconst dX12_init_71 zkkc_2 72 rfl ?_
  refine z_bipush dX12_init_72 zkkb_97 74 rfl ?_
  refine z_iast (j := 2) (N := 125) dX12_init_74 (by decide) (by omega) (by decide) (by unfold vp_in; decide) (by decide) 75 rfl ?_
  refine z_dup dX12_init_75 rfl 76 rfl ?_
  refine z_iconst dX12_init_76 zkkc_3 77 rfl ?_
  refine z_bipush dX12_init_77 zkkb_116 79 rfl ?_
  refine z_iast (j := 3) (N := 125) dX12_init_79 (by decide) (by omega) (by decide) (by unfold vp_in; decide) (by decide) 80 rfl ?_
  refine z_dup dX12_init_80 rfl 81 rfl ?_
  refine z_iconst dX12_init_81 zkkc_4 82 rfl ?_
  refine z_bipush dX12_init_82 zkkb_115 84 rfl ?_
  refine z_iast (j := 4) (N := 125) dX12_init_84 (by decide) (by omega) (by decide) (by unfold vp_in; decide) (by decide) 85 rfl ?_
  refine z_dup dX12_init_85 rfl 86 rfl ?_
  refine z_iconst dX12_init_86 zkkc_5 87 rfl ?_
  refine z_bipush dX12_init_87 zkkb_32 89 rfl ?_
  refine z_iast (j := 5) (N := 125) dX12_init_89 (by decide) (by omega) (by decide) (by unfold vp_in; decide) (by decide) 90 rfl ?_
  refine z_dup dX12_init_90 rfl 91 rfl ?_
  refine z_bipush dX12_init_91 zkkb_6 93 rfl ?_
  refine z_bipush dX12_init_93 zkkb_100 95 rfl ?_
  refine z_iast (j := 6) (N := 125) dX12_init_95 (by decide) (by omega) (by decide) (by unfold vp_in; decide) (by decide) 96 rfl ?_
  refine z_dup dX12_init_96 rfl 97 rfl ?_
  refine z_bipush dX12_init_97 zkkb_7 99 rfl ?_
  refine z_bipush dX12_init_99 zkkb_105 101 rfl ?_
  refine z_iast (j := 7) (N := 125) dX12_init_101 (by decide) (by omega) (by decide) (by unfold vp_in; decide) (by decide) 102 rfl ?_
  refine z_dup dX12_init_102 rfl 103 rfl ?_
  refine z_bipush dX12_init_103 zkkb_8 105 rfl ?_
  refine z_bipush dX12_init_105 zkkb_101 107 rfl ?_
  refine z_iast (j := 8) (N := 125) dX12_init_107 (by decide) (by omega) (by decide) (by unfold vp_in; decide) (by decide) 108 rfl ?_
  refine z_dup dX12_init_108 rfl 109 rfl ?_
  refine z_bipush dX12_init_109 zkkb_9 111 rfl ?_
  refine z_bipush dX12_init_111 zkkb_115 113 rfl ?_
  refine z_iast (j := 9) (N := 125) dX12_init_113 (by decide) (by omega) (by decide) (by unfold vp_in; decide) (by decide) 114 rfl ?_
  refine z_dup dX12_init_114 rfl 115 rfl ?_
  refine z_bipush dX12_init_115 zkkb_10 117 rfl ?_
  refine z_bipush dX12_init_117 zkkb_32 119 rfl ?_
  refine z_iast (j := 10) (N := 125) dX12_init_119 (by decide) (by omega) (by decide) (by unfold vp_in; decide) (by decide) 120 rfl ?_
  refine z_dup dX12_init_120 rfl 121 rfl ?_
  refine z_bipush dX12_init_121 zkkb_11 123 rfl ?_
  refine z_bipush dX12_init_123 zkkb_108 125 rfl ?_
  refine z_iast (j := 11) (N := 125) dX12_init_125 (by decide) (by omega) (by decide) (by unfold vp_in; decide) (by decide) 126 rfl ?_
  refine z_dup dX12_init_126 rfl 127 rfl ?_
  refine z_bipush dX12_init_127 zkkb_12 129 rfl ?_
  refine z_bipush dX12_init_129 zkkb_101 131 rfl ?_
  refine z_iast (j := 12) (N := 125) dX12_init_131 (by decide) (by omega) (by decide) (by unfold vp_in; decide) (by decide) 132 rfl ?_
  refine z_dup dX12_init_132 rfl 133 rfl ?_
  refine z_bipush dX12_init_133 zkkb_13 135 rfl ?_
  refine z_bipush dX12_init_135 zkkb_97 137 rfl ?_
  refine z_iast (j := 13) (N := 125) dX12_init_137 (by decide) (by omega) (by decide) (by unfold vp_in; decide) (by decide) 138 rfl ?_
  refine z_dup dX12_init_138 rfl 139 rfl ?_
  refine z_bipush dX12_init_139 zkkb_14 141 rfl ?_
  refine z_bipush dX12_init_141 zkkb_110 143 rfl ?_
  refine z_iast (j := 14) (N := 125) dX12_init_143 (by decide) (by omega) (by decide) (by unfold vp_in; decide) (by decide) 144 rfl ?_
  refine z_dup dX12_init_144 rfl 145 rfl ?_
  refine z_bipush dX12_init_145 zkkb_15 147 rfl ?_
  refine z_bipush dX12_init_147 zkkb_115 149 rfl ?_
  refine z_iast (j := 15) (N := 125) dX12_init_149 (by decide) (by omega) (by decide) (by unfold vp_in; decide) (by decide) 150 rfl ?_
  refine z_dup dX12_init_150 rfl 151 rfl ?_
  refine z_bipush dX12_init_151 zkkb_16 153 rfl ?_
  refine z_bipush dX12_init_153 zkkb_32 155 rfl ?_
  refine z_iast (j := 16) (N := 125) dX12_init_155 (by decide) (by omega) (by decide) (by unfold vp_in; decide) (by decide) 156 rfl ?_
  refine z_dup dX12_init_156 rfl 157 rfl ?_
  refine z_bipush dX12_init_157 zkkb_17 159 rfl ?_
  refine z_bipush dX12_init_159 zkkb_119 161 rfl ?_
  refine z_iast (j := 17) (N := 125) dX12_init_161 (by decide) (by omega) (by decide) (by unfold vp_in; decide) (by decide) 162 rfl ?_
  refine z_dup dX12_init_162 rfl 163 rfl ?_
  refine z_bipush dX12_init_163 zkkb_18 165 rfl ?_
  refine z_bipush dX12_init_165 zkkb_104 167 rfl ?_
  refine z_iast (j := 18) (N := 125) dX12_init_167 (by decide) (by omega) (by decide) (by unfold vp_in; decide) (by decide) 168 rfl ?_
  refine z_dup dX12_init_168 rfl 169 rfl ?_
  refine z_bipush dX12_init_169 zkkb_19 171 rfl ?_
  refine z_bipush dX12_init_171 zkkb_101 173 rfl ?_
  refine z_iast (j := 19) (N := 125) dX12_init_173 (by decide) (by omega) (by decide) (by unfold vp_in; decide) (by decide) 174 rfl ?_
  refine z_dup dX12_init_174 rfl 175 rfl ?_
  refine z_bipush dX12_init_175 zkkb_20 177 rfl ?_
  refine z_bipush dX12_init_177 zkkb_110 179 rfl ?_
  refine z_iast (j := 20) (N := 125) dX12_init_179 (by decide) (by omega) (by decide) (by unfold vp_in; decide) (by decide) 180 rfl ?_
  refine z_dup dX12_init_180 rfl 181 rfl ?_
  refine z_bipush dX12_init_181 zkkb_21 183 rfl ?_
  refine z_bipush dX12_init_183 zkkb_32 185 rfl ?_
  refine z_iast (j := 21) (N := 125) dX12_init_185 (by decide) (by omega) (by decide) (by unfold vp_in; decide) (by decide) 186 rfl ?_
  refine z_dup dX12_init_186 rfl 187 rfl ?_
  refine z_bipush dX12_init_187 zkkb_22 189 rfl ?_
  refine z_bipush dX12_init_189 zkkb_111 191 rfl ?_
  refine z_iast (j := 22) (N := 125) dX12_init_191 (by decide) (by omega) (by decide) (by unfold vp_in; decide) (by decide) 192 rfl ?_
  refine z_dup dX12_init_192 rfl 193 rfl ?_
  refine z_bipush dX12_init_193 zkkb_23 195 rfl ?_
  refine z_bipush dX12_init_195 zkkb_114 197 rfl ?_
  refine z_iast (j := 23) (N := 125) dX12_init_197 (by decide) (by omega) (by decide) (by unfold vp_in; decide) (by decide) 198 rfl ?_
  refine z_dup dX12_init_198 rfl 199 rfl ?_
  refine z_bipush dX12_init_199 zkkb_24 201 rfl ?_
  refine z_bipush dX12_init_201 zkkb_32 203 rfl ?_
  refine z_iast (j := 24) (N := 125) dX12_init_203 (by decide) (by omega) (by decide) (by unfold vp_in; decide) (by decide) 204 rfl ?_
  refine z_dup dX12_init_204 rfl 205 rfl ?_
  refine z_bipush dX12_init_205 zkkb_25 207 rfl ?_
  refine z_bipush dX12_init_207 zkkb_97 209 rfl ?_
  refine z_iast (j := 25) (N := 125) dX12_init_209 (by decide) (by omega) (by decide) (by unfold vp_in; decide) (by decide) 210 rfl ?_
  refine z_dup dX12_init_210 rfl 211 rfl ?_
  refine z_bipush dX12_init_211 zkkb_26 213 rfl ?_
  refine z_bipush dX12_init_213 zkkb_110 215 rfl ?_
  refine z_iast (j := 26) (N := 125) dX12_init_215 (by decide) (by omega) (by decide) (by unfold vp_in; decide) (by decide) 216 rfl ?_
  refine z_dup dX12_init_216 rfl 217 rfl ?_
  refine z_bipush dX12_init_217 zkkb_27 219 rfl ?_
  refine z_bipush dX12_init_219 zkkb_100 221 rfl ?_
  refine z_iast (j := 27) (N := 125) dX12_init_221 (by decide) (by omega) (by decide) (by unfold vp_in; decide) (by decide) 222 rfl ?_
  refine z_dup dX12_init_222 rfl 223 rfl ?_
  refine z_bipush dX12_init_223 zkkb_28 225 rfl ?_
  refine z_bipush dX12_init_225 zkkb_32 227 rfl ?_
  refine z_iast (j := 28) (N := 125) dX12_init_227 (by decide) (by omega) (by decide) (by unfold vp_in; decide) (by decide) 228 rfl ?_
  refine z_dup dX12_init_228 rfl 229 rfl ?_
  refine z_bipush dX12_init_229 zkkb_29 231 rfl ?_
  refine z_bipush dX12_init_231 zkkb_110 233 rfl ?_
  refine z_iast (j := 29) (N := 125) dX12_init_233 (by decide) (by omega) (by decide) (by unfold vp_in; decide) (by decide) 234 rfl ?_
  refine z_dup dX12_init_234 rfl 235 rfl ?_
  refine z_bipush dX12_init_235 zkkb_30 237 rfl ?_
  refine z_bipush dX12_init_237 zkkb_111 239 rfl ?_
  refine z_iast (j := 30) (N := 125) dX12_init_239 (by decide) (by omega) (by decide) (by unfold vp_in; decide) (by decide) 240 rfl ?_
  refine z_dup dX12_init_240 rfl 241 rfl ?_
  refine z_bipush dX12_init_241 zkkb_31 243 rfl ?_
  refine z_bipush dX12_init_243 zkkb_116 245 rfl ?_
  refine z_iast (j := 31) (N := 125) dX12_init_245 (by decide) (by omega) (by decide) (by unfold vp_in; decide) (by decide) 246 rfl ?_
  refine z_dup dX12_init_246 rfl 247 rfl ?_
  refine z_bipush dX12_init_247 zkkb_32 249 rfl ?_
  refine z_bipush dX12_init_249 zkkb_32 251 rfl ?_
  refine z_iast (j := 32) (N := 125) dX12_init_251 (by decide) (by omega) (by decide) (by unfold vp_in; decide) (by decide) 252 rfl ?_
  refine z_dup dX12_init_252 rfl 253 rfl ?_
  refine z_bipush dX12_init_253 zkkb_33 255 rfl ?_
  refine z_bipush dX12_init_255 zkkb_97 257 rfl ?_
  refine z_iast (j := 33) (N := 125) dX12_init_257 (by decide) (by omega) (by decide) (by unfold vp_in; decide) (by decide) 258 rfl ?_
  refine z_dup dX12_init_258 rfl 259 rfl ?_
  refine z_bipush dX12_init_259 zkkb_34 261 rfl ?_
  refine z_bipush dX12_init_261 zkkb_103 263 rfl ?_
  refine z_iast (j := 34) (N := 125) dX12_init_263 (by decide) (by omega) (by decide) (by unfold vp_in; decide) (by decide) 264 rfl ?_
  refine z_dup dX12_init_264 rfl 265 rfl ?_
  refine z_bipush dX12_init_265 zkkb_35 267 rfl ?_
  refine z_bipush dX12_init_267 zkkb_101 269 rfl ?_
  refine z_iast (j := 35) (N := 125) dX12_init_269 (by decide) (by omega) (by decide) (by unfold vp_in; decide) (by decide) 270 rfl ?_
  refine z_dup dX12_init_270 rfl 271 rfl ?_
  refine z_bipush dX12_init_271 zkkb_36 273 rfl ?_
  refine z_bipush dX12_init_273 zkkb_32 275 rfl ?_
  refine z_iast (j := 36) (N := 125) dX12_init_275 (by decide) (by omega) (by decide) (by unfold vp_in; decide) (by decide) 276 rfl ?_
  refine z_dup dX12_init_276 rfl 277 rfl ?_
  refine z_bipush dX12_init_277 zkkb_37 279 rfl ?_
  refine z_bipush dX12_init_279 zkkb_102 281 rfl ?_
  refine z_iast (j := 37) (N := 125) dX12_init_281 (by decide) (by omega) (by decide) (by unfold vp_in; decide) (by decide) 282 rfl ?_
  refine z_dup dX12_init_282 rfl 283 rfl ?_
  refine z_bipush dX12_init_283 zkkb_38 285 rfl ?_
  refine z_bipush dX12_init_285 zkkb_97 287 rfl ?_
  refine z_iast (j := 38) (N := 125) dX12_init_287 (by decide) (by omega) (by decide) (by unfold vp_in; decide) (by decide) 288 rfl ?_
  refine z_dup dX12_init_288 rfl 289 rfl ?_
  refine z_bipush dX12_init_289 zkkb_39 291 rfl ?_
  refine z_bipush dX12_init_291 zkkb_105 293 rfl ?_
  refine z_iast (j := 39) (N := 125) dX12_init_293 (by decide) (by omega) (by decide) (by unfold vp_in; decide) (by decide) 294 rfl ?_
  refine z_dup dX12_init_294 rfl 295 rfl ?_
  refine z_bipush dX12_init_295 zkkb_40 297 rfl ?_
  refine z_bipush dX12_init_297 zkkb_116 299 rfl ?_
  refine z_iast (j := 40) (N := 125) dX12_init_299 (by decide) (by omega) (by decide) (by unfold vp_in; decide) (by decide) 300 rfl ?_
  refine z_dup dX12_init_300 rfl 301 rfl ?_
  refine z_bipush dX12_init_301 zkkb_41 303 rfl ?_
  refine z_bipush dX12_init_303 zkkb_104 305 rfl ?_
  refine z_iast (j := 41) (N := 125) dX12_init_305 (by decide) (by omega) (by decide) (by unfold vp_in; decide) (by decide) 306 rfl ?_
  refine z_dup dX12_init_306 rfl 307 rfl ?_
  refine z_bipush dX12_init_307 zkkb_42 309 rfl ?_
  refine z_bipush dX12_init_309 zkkb_32 311 rfl ?_
  refine z_iast (j := 42) (N := 125) dX12_init_311 (by decide) (by omega) (by decide) (by unfold vp_in; decide) (by decide) 312 rfl ?_
  refine z_dup dX12_init_312 rfl 313 rfl ?_
  refine z_bipush dX12_init_313 zkkb_43 315 rfl ?_
  refine z_bipush dX12_init_315 zkkb_100 317 rfl ?_
  refine z_iast (j := 43) (N := 125) dX12_init_317 (by decide) (by omega) (by decide) (by unfold vp_in; decide) (by decide) 318 rfl ?_
  refine z_dup dX12_init_318 rfl 319 rfl ?_
  refine z_bipush dX12_init_319 zkkb_44 321 rfl ?_
  refine z_bipush dX12_init_321 zkkb_111 323 rfl ?_
  refine z_iast (j := 44) (N := 125) dX12_init_323 (by decide) (by omega) (by decide) (by unfold vp_in; decide) (by decide) 324 rfl ?_
  refine z_dup dX12_init_324 rfl 325 rfl ?_
  refine z_bipush dX12_init_325 zkkb_45 327 rfl ?_
  refine z_bipush dX12_init_327 zkkb_99 329 rfl ?_
  refine z_iast (j := 45) (N := 125) dX12_init_329 (by decide) (by omega) (by decide) (by unfold vp_in; decide) (by decide) 330 rfl ?_
  refine z_dup dX12_init_330 rfl 331 rfl ?_
  refine z_bipush dX12_init_331 zkkb_46 333 rfl ?_
  refine z_bipush dX12_init_333 zkkb_116 335 rfl ?_
  refine z_iast (j := 46) (N := 125) dX12_init_335 (by decide) (by omega) (by decide) (by unfold vp_in; decide) (by decide) 336 rfl ?_
  refine z_dup dX12_init_336 rfl 337 rfl ?_
  refine z_bipush dX12_init_337 zkkb_47 339 rfl ?_
  refine z_bipush dX12_init_339 zkkb_114 341 rfl ?_
  refine z_iast (j := 47) (N := 125) dX12_init_341 (by decide) (by omega) (by decide) (by unfold vp_in; decide) (by decide) 342 rfl ?_
  refine z_dup dX12_init_342 rfl 343 rfl ?_
  refine z_bipush dX12_init_343 zkkb_48 345 rfl ?_
  refine z_bipush dX12_init_345 zkkb_105 347 rfl ?_
  refine z_iast (j := 48) (N := 125) dX12_init_347 (by decide) (by omega) (by decide) (by unfold vp_in; decide) (by decide) 348 rfl ?_
  refine z_dup dX12_init_348 rfl 349 rfl ?_
  refine z_bipush dX12_init_349 zkkb_49 351 rfl ?_
  refine z_bipush dX12_init_351 zkkb_110 353 rfl ?_
  refine z_iast (j := 49) (N := 125) dX12_init_353 (by decide) (by omega) (by decide) (by unfold vp_in; decide) (by decide) 354 rfl ?_
  refine z_dup dX12_init_354 rfl 355 rfl ?_
  refine z_bipush dX12_init_355 zkkb_50 357 rfl ?_
  refine z_bipush dX12_init_357 zkkb_101 359 rfl ?_
  refine z_iast (j := 50) (N := 125) dX12_init_359 (by decide) (by omega) (by decide) (by unfold vp_in; decide) (by decide) 360 rfl ?_
  refine z_dup dX12_init_360 rfl 361 rfl ?_
  refine z_bipush dX12_init_361 zkkb_51 363 rfl ?_
  refine z_bipush dX12_init_363 zkkb_32 365 rfl ?_
  refine z_iast (j := 51) (N := 125) dX12_init_365 (by decide) (by omega) (by decide) (by unfold vp_in; decide) (by decide) 366 rfl ?_
  refine z_dup dX12_init_366 rfl 367 rfl ?_
  refine z_bipush dX12_init_367 zkkb_52 369 rfl ?_
  refine z_bipush dX12_init_369 zkkb_104 371 rfl ?_
  refine z_iast (j := 52) (N := 125) dX12_init_371 (by decide) (by omega) (by decide) (by unfold vp_in; decide) (by decide) 372 rfl ?_
  refine z_dup dX12_init_372 rfl 373 rfl ?_
  refine z_bipush dX12_init_373 zkkb_53 375 rfl ?_
  refine z_bipush dX12_init_375 zkkb_117 377 rfl ?_
  refine z_iast (j := 53) (N := 125) dX12_init_377 (by decide) (by omega) (by decide) (by unfold vp_in; decide) (by decide) 378 rfl ?_
  refine z_dup dX12_init_378 rfl 379 rfl ?_
  refine z_bipush dX12_init_379 zkkb_54 381 rfl ?_
  refine z_bipush dX12_init_381 zkkb_110 383 rfl ?_
  refine z_iast (j := 54) (N := 125) dX12_init_383 (by decide) (by omega) (by decide) (by unfold vp_in; decide) (by decide) 384 rfl ?_
  refine z_dup dX12_init_384 rfl 385 rfl ?_
  refine z_bipush dX12_init_385 zkkb_55 387 rfl ?_
  refine z_bipush dX12_init_387 zkkb_103 389 rfl ?_
  refine z_iast (j := 55) (N := 125) dX12_init_389 (by decide) (by omega) (by decide) (by unfold vp_in; decide) (by decide) 390 rfl ?_
  refine z_dup dX12_init_390 rfl 391 rfl ?_
  refine z_bipush dX12_init_391 zkkb_56 393 rfl ?_
  refine z_bipush dX12_init_393 zkkb_101 395 rfl ?_
  refine z_iast (j := 56) (N := 125) dX12_init_395 (by decide) (by omega) (by decide) (by unfold vp_in; decide) (by decide) 396 rfl ?_
  refine z_dup dX12_init_396 rfl 397 rfl ?_
  refine z_bipush dX12_init_397 zkkb_57 399 rfl ?_
  refine z_bipush dX12_init_399 zkkb_114 401 rfl ?_
  refine z_iast (j := 57) (N := 125) dX12_init_401 (by decide) (by omega) (by decide) (by unfold vp_in; decide) (by decide) 402 rfl ?_
  refine z_dup dX12_init_402 rfl 403 rfl ?_
  refine z_bipush dX12_init_403 zkkb_58 405 rfl ?_
  refine z_bipush dX12_init_405 zkkb_32 407 rfl ?_
  refine z_iast (j := 58) (N := 125) dX12_init_407 (by decide) (by omega) (by decide) (by unfold vp_in; decide) (by decide) 408 rfl ?_
  refine z_dup dX12_init_408 rfl 409 rfl ?_
  refine z_bipush dX12_init_409 zkkb_59 411 rfl ?_
  refine z_bipush dX12_init_411 zkkb_112 413 rfl ?_
  refine z_iast (j := 59) (N := 125) dX12_init_413 (by decide) (by omega) (by decide) (by unfold vp_in; decide) (by decide) 414 rfl ?_
  refine z_dup dX12_init_414 rfl 415 rfl ?_
  refine z_bipush dX12_init_415 zkkb_60 417 rfl ?_
  refine z_bipush dX12_init_417 zkkb_108 419 rfl ?_
  refine z_iast (j := 60) (N := 125) dX12_init_419 (by decide) (by omega) (by decide) (by unfold vp_in; decide) (by decide) 420 rfl ?_
  refine z_dup dX12_init_420 rfl 421 rfl ?_
  refine z_bipush dX12_init_421 zkkb_61 423 rfl ?_
  refine z_bipush dX12_init_423 zkkb_97 425 rfl ?_
  refine z_iast (j := 61) (N := 125) dX12_init_425 (by decide) (by omega) (by decide) (by unfold vp_in; decide) (by decide) 426 rfl ?_
  refine z_dup dX12_init_426 rfl 427 rfl ?_
  refine z_bipush dX12_init_427 zkkb_62 429 rfl ?_
  refine z_bipush dX12_init_429 zkkb_99 431 rfl ?_
  refine z_iast (j := 62) (N := 125) dX12_init_431 (by decide) (by omega) (by decide) (by unfold vp_in; decide) (by decide) 432 rfl ?_
  refine z_dup dX12_init_432 rfl 433 rfl ?_
  refine z_bipush dX12_init_433 zkkb_63 435 rfl ?_
  refine z_bipush dX12_init_435 zkkb_101 437 rfl ?_
  refine z_iast (j := 63) (N := 125) dX12_init_437 (by decide) (by omega) (by decide) (by unfold vp_in; decide) (by decide) 438 rfl ?_
  refine z_dup dX12_init_438 rfl 439 rfl ?_
  refine z_bipush dX12_init_439 zkkb_64 441 rfl ?_
  refine z_bipush dX12_init_441 zkkb_32 443 rfl ?_
  refine z_iast (j := 64) (N := 125) dX12_init_443 (by decide) (by omega) (by decide) (by unfold vp_in; decide) (by decide) 444 rfl ?_
  refine z_dup dX12_init_444 rfl 445 rfl ?_
  refine z_bipush dX12_init_445 zkkb_65 447 rfl ?_
  refine z_bipush dX12_init_447 zkkb_116 449 rfl ?_
  refine z_iast (j := 65) (N := 125) dX12_init_449 (by decide) (by omega) (by decide) (by unfold vp_in; decide) (by decide) 450 rfl ?_
  refine z_dup dX12_init_450 rfl 451 rfl ?_
  refine z_bipush dX12_init_451 zkkb_66 453 rfl ?_
  refine z_bipush dX12_init_453 zkkb_97 455 rfl ?_
  refine z_iast (j := 66) (N := 125) dX12_init_455 (by decide) (by omega) (by decide) (by unfold vp_in; decide) (by decide) 456 rfl ?_
  refine z_dup dX12_init_456 rfl 457 rfl ?_
  refine z_bipush dX12_init_457 zkkb_67 459 rfl ?_
  refine z_bipush dX12_init_459 zkkb_108 461 rfl ?_
  refine z_iast (j := 67) (N := 125) dX12_init_461 (by decide) (by omega) (by decide) (by unfold vp_in; decide) (by decide) 462 rfl ?_
  refine z_dup dX12_init_462 rfl 463 rfl ?_
  refine z_bipush dX12_init_463 zkkb_68 465 rfl ?_
  refine z_bipush dX12_init_465 zkkb_108 467 rfl ?_
  refine z_iast (j := 68) (N := 125) dX12_init_467 (by decide) (by omega) (by decide) (by unfold vp_in; decide) (by decide) 468 rfl ?_
  refine z_dup dX12_init_468 rfl 469 rfl ?_
  refine z_bipush dX12_init_469 zkkb_69 471 rfl ?_
  refine z_bipush dX12_init_471 zkkb_32 473 rfl ?_
  refine z_iast (j := 69) (N := 125) dX12_init_473 (by decide) (by omega) (by decide) (by unfold vp_in; decide) (by decide) 474 rfl ?_
  refine z_dup dX12_init_474 rfl 475 rfl ?_
  refine z_bipush dX12_init_475 zkkb_70 477 rfl ?_
  refine z_bipush dX12_init_477 zkkb_119 479 rfl ?_
  refine z_iast (j := 70) (N := 125) dX12_init_479 (by decide) (by omega) (by decide) (by unfold vp_in; decide) (by decide) 480 rfl ?_
  refine z_dup dX12_init_480 rfl 481 rfl ?_
  refine z_bipush dX12_init_481 zkkb_71 483 rfl ?_
  refine z_bipush dX12_init_483 zkkb_101 485 rfl ?_
  refine z_iast (j := 71) (N := 125) dX12_init_485 (by decide) (by omega) (by decide) (by unfold vp_in; decide) (by decide) 486 rfl ?_
  refine z_dup dX12_init_486 rfl 487 rfl ?_
  refine z_bipush dX12_init_487 zkkb_72 489 rfl ?_
  refine z_bipush dX12_init_489 zkkb_97 491 rfl ?_
  refine z_iast (j := 72) (N := 125) dX12_init_491 (by decide) (by omega) (by decide) (by unfold vp_in; decide) (by decide) 492 rfl ?_
  refine z_dup dX12_init_492 rfl 493 rfl ?_
  refine z_bipush dX12_init_493 zkkb_73 495 rfl ?_
  refine z_bipush dX12_init_495 zkkb_116 497 rfl ?_
  refine z_iast (j := 73) (N := 125) dX12_init_497 (by decide) (by omega) (by decide) (by unfold vp_in; decide) (by decide) 498 rfl ?_
  refine z_dup dX12_init_498 rfl 499 rfl ?_
  refine z_bipush dX12_init_499 zkkb_74 501 rfl ?_
  refine z_bipush dX12_init_501 zkkb_104 503 rfl ?_
  refine z_iast (j := 74) (N := 125) dX12_init_503 (by decide) (by omega) (by decide) (by unfold vp_in; decide) (by decide) 504 rfl ?_
  refine z_dup dX12_init_504 rfl 505 rfl ?_
  refine z_bipush dX12_init_505 zkkb_75 507 rfl ?_
  refine z_bipush dX12_init_507 zkkb_101 509 rfl ?_
  refine z_iast (j := 75) (N := 125) dX12_init_509 (by decide) (by omega) (by decide) (by unfold vp_in; decide) (by decide) 510 rfl ?_
  refine z_dup dX12_init_510 rfl 511 rfl ?_
  refine z_bipush dX12_init_511 zkkb_76 513 rfl ?_
  refine z_bipush dX12_init_513 zkkb_114 515 rfl ?_
  refine z_iast (j := 76) (N := 125) dX12_init_515 (by decide) (by omega) (by decide) (by unfold vp_in; decide) (by decide) 516 rfl ?_
  refine z_dup dX12_init_516 rfl 517 rfl ?_
  refine z_bipush dX12_init_517 zkkb_77 519 rfl ?_
  refine z_bipush dX12_init_519 zkkb_32 521 rfl ?_
  refine z_iast (j := 77) (N := 125) dX12_init_521 (by decide) (by omega) (by decide) (by unfold vp_in; decide) (by decide) 522 rfl ?_
  refine z_dup dX12_init_522 rfl 523 rfl ?_
  refine z_bipush dX12_init_523 zkkb_78 525 rfl ?_
  refine z_bipush dX12_init_525 zkkb_97 527 rfl ?_
  refine z_iast (j := 78) (N := 125) dX12_init_527 (by decide) (by omega) (by decide) (by unfold vp_in; decide) (by decide) 528 rfl ?_
  refine z_dup dX12_init_528 rfl 529 rfl ?_
  refine z_bipush dX12_init_529 zkkb_79 531 rfl ?_
  refine z_bipush dX12_init_531 zkkb_98 533 rfl ?_
  refine z_iast (j := 79) (N := 125) dX12_init_533 (by decide) (by omega) (by decide) (by unfold vp_in; decide) (by decide) 534 rfl ?_
  refine z_dup dX12_init_534 rfl 535 rfl ?_
  refine z_bipush dX12_init_535 zkkb_80 537 rfl ?_
  refine z_bipush dX12_init_537 zkkb_111 539 rfl ?_
  refine z_iast (j := 80) (N := 125) dX12_init_539 (by decide) (by omega) (by decide) (by unfold vp_in; decide) (by decide) 540 rfl ?_
  refine z_dup dX12_init_540 rfl 541 rfl ?_
  refine z_bipush dX12_init_541 zkkb_81 543 rfl ?_
  refine z_bipush dX12_init_543 zkkb_118 545 rfl ?_
  refine z_iast (j := 81) (N := 125) dX12_init_545 (by decide) (by omega) (by decide) (by unfold vp_in; decide) (by decide) 546 rfl ?_
  refine z_dup dX12_init_546 rfl 547 rfl ?_
  refine z_bipush dX12_init_547 zkkb_82 549 rfl ?_
  refine z_bipush dX12_init_549 zkkb_101 551 rfl ?_
  refine z_iast (j := 82) (N := 125) dX12_init_551 (by decide) (by omega) (by decide) (by unfold vp_in; decide) (by decide) 552 rfl ?_
  refine z_dup dX12_init_552 rfl 553 rfl ?_
  refine z_bipush dX12_init_553 zkkb_83 555 rfl ?_
  refine z_bipush dX12_init_555 zkkb_32 557 rfl ?_
  refine z_iast (j := 83) (N := 125) dX12_init_557 (by decide) (by omega) (by decide) (by unfold vp_in; decide) (by decide) 558 rfl ?_
  refine z_dup dX12_init_558 rfl 559 rfl ?_
  refine z_bipush dX12_init_559 zkkb_84 561 rfl ?_
  refine z_bipush dX12_init_561 zkkb_100 563 rfl ?_
  refine z_iast (j := 84) (N := 125) dX12_init_563 (by decide) (by omega) (by decide) (by unfold vp_in; decide) (by decide) 564 rfl ?_
  refine z_dup dX12_init_564 rfl 565 rfl ?_
  refine z_bipush dX12_init_565 zkkb_85 567 rfl ?_
  refine z_bipush dX12_init_567 zkkb_97 569 rfl ?_
  refine z_iast (j := 85) (N := 125) dX12_init_569 (by decide) (by omega) (by decide) (by unfold vp_in; decide) (by decide) 570 rfl ?_
  refine z_dup dX12_init_570 rfl 571 rfl ?_
  refine z_bipush dX12_init_571 zkkb_86 573 rfl ?_
  refine z_bipush dX12_init_573 zkkb_121 575 rfl ?_
  refine z_iast (j := 86) (N := 125) dX12_init_575 (by decide) (by omega) (by decide) (by unfold vp_in; decide) (by decide) 576 rfl ?_
  refine z_dup dX12_init_576 rfl 577 rfl ?_
  refine z_bipush dX12_init_577 zkkb_87 579 rfl ?_
  refine z_bipush dX12_init_579 zkkb_32 581 rfl ?_
  refine z_iast (j := 87) (N := 125) dX12_init_581 (by decide) (by omega) (by decide) (by unfold vp_in; decide) (by decide) 582 rfl ?_
  refine z_dup dX12_init_582 rfl 583 rfl ?_
  refine z_bipush dX12_init_583 zkkb_88 585 rfl ?_
  refine z_bipush dX12_init_585 zkkb_105 587 rfl ?_
  refine z_iast (j := 88) (N := 125) dX12_init_587 (by decide) (by omega) (by decide) (by unfold vp_in; decide) (by decide) 588 rfl ?_
  refine z_dup dX12_init_588 rfl 589 rfl ?_
  refine z_bipush dX12_init_589 zkkb_89 591 rfl ?_
  refine z_bipush dX12_init_591 zkkb_115 593 rfl ?_
  refine z_iast (j := 89) (N := 125) dX12_init_593 (by decide) (by omega) (by decide) (by unfold vp_in; decide) (by decide) 594 rfl ?_
  refine z_dup dX12_init_594 rfl 595 rfl ?_
  refine z_bipush dX12_init_595 zkkb_90 597 rfl ?_
  refine z_bipush dX12_init_597 zkkb_32 599 rfl ?_
  refine z_iast (j := 90) (N := 125) dX12_init_599 (by decide) (by omega) (by decide) (by unfold vp_in; decide) (by decide) 600 rfl ?_
  refine z_dup dX12_init_600 rfl 601 rfl ?_
  refine z_bipush dX12_init_601 zkkb_91 603 rfl ?_
  refine z_bipush dX12_init_603 zkkb_111 605 rfl ?_
  refine z_iast (j := 91) (N := 125) dX12_init_605 (by decide) (by omega) (by decide) (by unfold vp_in; decide) (by decide) 606 rfl ?_
  refine z_dup dX12_init_606 rfl 607 rfl ?_
  refine z_bipush dX12_init_607 zkkb_92 609 rfl ?_
  refine z_bipush dX12_init_609 zkkb_110 611 rfl ?_
  refine z_iast (j := 92) (N := 125) dX12_init_611 (by decide) (by omega) (by decide) (by unfold vp_in; decide) (by decide) 612 rfl ?_
  refine z_dup dX12_init_612 rfl 613 rfl ?_
  refine z_bipush dX12_init_613 zkkb_93 615 rfl ?_
  refine z_bipush dX12_init_615 zkkb_32 617 rfl ?_
  refine z_iast (j := 93) (N := 125) dX12_init_617 (by decide) (by omega) (by decide) (by unfold vp_in; decide) (by decide) 618 rfl ?_
  refine z_dup dX12_init_618 rfl 619 rfl ?_
  refine z_bipush dX12_init_619 zkkb_94 621 rfl ?_
  refine z_bipush dX12_init_621 zkkb_108 623 rfl ?_
  refine z_iast (j := 94) (N := 125) dX12_init_623 (by decide) (by omega) (by decide) (by unfold vp_in; decide) (by decide) 624 rfl ?_
  refine z_dup dX12_init_624 rfl 625 rfl ?_
  refine z_bipush dX12_init_625 zkkb_95 627 rfl ?_
  refine z_bipush dX12_init_627 zkkb_111 629 rfl ?_
  refine z_iast (j := 95) (N := 125) dX12_init_629 (by decide) (by omega) (by decide) (by unfold vp_in; decide) (by decide) 630 rfl ?_
  refine z_dup dX12_init_630 rfl 631 rfl ?_
  refine z_bipush dX12_init_631 zkkb_96 633 rfl ?_
  refine z_bipush dX12_init_633 zkkb_97 635 rfl ?_
  refine z_iast (j := 96) (N := 125) dX12_init_635 (by decide) (by omega) (by decide) (by unfold vp_in; decide) (by decide) 636 rfl ?_
  refine z_dup dX12_init_636 rfl 637 rfl ?_
  refine z_bipush dX12_init_637 zkkb_97 639 rfl ?_
  refine z_bipush dX12_init_639 zkkb_118 641 rfl ?_
  refine z_iast (j := 97) (N := 125) dX12_init_641 (by decide) (by omega) (by decide) (by unfold vp_in; decide) (by decide) 642 rfl ?_
  refine z_dup dX12_init_642 rfl 643 rfl ?_
  refine z_bipush dX12_init_643 zkkb_98 645 rfl ?_
  refine z_bipush dX12_init_645 zkkb_101 647 rfl ?_
  refine z_iast (j := 98) (N := 125) dX12_init_647 (by decide) (by omega) (by decide) (by unfold vp_in; decide) (by decide) 648 rfl ?_
  refine z_dup dX12_init_648 rfl 649 rfl ?_
  refine z_bipush dX12_init_649 zkkb_99 651 rfl ?_
  refine z_bipush dX12_init_651 zkkb_115 653 rfl ?_
  refine z_iast (j := 99) (N := 125) dX12_init_653 (by decide) (by omega) (by decide) (by unfold vp_in; decide) (by decide) 654 rfl ?_
  refine z_dup dX12_init_654 rfl 655 rfl ?_
  refine z_bipush dX12_init_655 zkkb_100 657 rfl ?_
  refine z_bipush dX12_init_657 zkkb_32 659 rfl ?_
  refine z_iast (j := 100) (N := 125) dX12_init_659 (by decide) (by omega) (by decide) (by unfold vp_in; decide) (by decide) 660 rfl ?_
  refine z_dup dX12_init_660 rfl 661 rfl ?_
  refine z_bipush dX12_init_661 zkkb_101 663 rfl ?_
  refine z_bipush dX12_init_663 zkkb_115 665 rfl ?_
  refine z_iast (j := 101) (N := 125) dX12_init_665 (by decide) (by omega) (by decide) (by unfold vp_in; decide) (by decide) 666 rfl ?_
  refine z_dup dX12_init_666 rfl 667 rfl ?_
  refine z_bipush dX12_init_667 zkkb_102 669 rfl ?_
  refine z_bipush dX12_init_669 zkkb_97 671 rfl ?_
  refine z_iast (j := 102) (N := 125) dX12_init_671 (by decide) (by omega) (by decide) (by unfold vp_in; decide) (by decide) 672 rfl ?_
  refine z_dup dX12_init_672 rfl 673 rfl ?_
  refine z_bipush dX12_init_673 zkkb_103 675 rfl ?_
  refine z_bipush dX12_init_675 zkkb_121 677 rfl ?_
  refine z_iast (j := 103) (N := 125) dX12_init_677 (by decide) (by omega) (by decide) (by unfold vp_in; decide) (by decide) 678 rfl ?_
  refine z_dup dX12_init_678 rfl 679 rfl ?_
  refine z_bipush dX12_init_679 zkkb_104 681 rfl ?_
  refine z_bipush dX12_init_681 zkkb_32 683 rfl ?_
  refine z_iast (j := 104) (N := 125) dX12_init_683 (by decide) (by omega) (by decide) (by unfold vp_in; decide) (by decide) 684 rfl ?_
  refine z_dup dX12_init_684 rfl 685 rfl ?_
  refine z_bipush dX12_init_685 zkkb_105 687 rfl ?_
  refine z_bipush dX12_init_687 zkkb_100 689 rfl ?_
  refine z_iast (j := 105) (N := 125) dX12_init_689 (by decide) (by omega) (by decide) (by unfold vp_in; decide) (by decide) 690 rfl ?_
  refine z_dup dX12_init_690 rfl 691 rfl ?_
  refine z_bipush dX12_init_691 zkkb_106 693 rfl ?_
  refine z_bipush dX12_init_693 zkkb_111 695 rfl ?_
  refine z_iast (j := 106) (N := 125) dX12_init_695 (by decide) (by omega) (by decide) (by unfold vp_in; decide) (by decide) 696 rfl ?_
  refine z_dup dX12_init_696 rfl 697 rfl ?_
  refine z_bipush dX12_init_697 zkkb_107 699 rfl ?_
  refine z_bipush dX12_init_699 zkkb_119 701 rfl ?_
  refine z_iast (j := 107) (N := 125) dX12_init_701 (by decide) (by omega) (by decide) (by unfold vp_in; decide) (by decide) 702 rfl ?_
  refine z_dup dX12_init_702 rfl 703 rfl ?_
  refine z_bipush dX12_init_703 zkkb_108 705 rfl ?_
  refine z_bipush dX12_init_705 zkkb_110 707 rfl ?_
  refine z_iast (j := 108) (N := 125) dX12_init_707 (by decide) (by omega) (by decide) (by unfold vp_in; decide) (by decide) 708 rfl ?_
  refine z_dup dX12_init_708 rfl 709 rfl ?_
  refine z_bipush dX12_init_709 zkkb_109 711 rfl ?_
  refine z_bipush dX12_init_711 zkkb_32 713 rfl ?_
  refine z_iast (j := 109) (N := 125) dX12_init_713 (by decide) (by omega) (by decide) (by unfold vp_in; decide) (by decide) 714 rfl ?_
  refine z_dup dX12_init_714 rfl 715 rfl ?_
  refine z_bipush dX12_init_715 zkkb_110 717 rfl ?_
  refine z_bipush dX12_init_717 zkkb_98 719 rfl ?_
  refine z_iast (j := 110) (N := 125) dX12_init_719 (by decide) (by omega) (by decide) (by unfold vp_in; decide) (by decide) 720 rfl ?_
  refine z_dup dX12_init_720 rfl 721 rfl ?_
  refine z_bipush dX12_init_721 zkkb_111 723 rfl ?_
  refine z_bipush dX12_init_723 zkkb_117 725 rfl ?_
  refine z_iast (j := 111) (N := 125) dX12_init_725 (by decide) (by omega) (by decide) (by unfold vp_in; decide) (by decide) 726 rfl ?_
  refine z_dup dX12_init_726 rfl 727 rfl ?_
  refine z_bipush dX12_init_727 zkkb_112 729 rfl ?_
  refine z_bipush dX12_init_729 zkkb_105 731 rfl ?_
  refine z_iast (j := 112) (N := 125) dX12_init_731 (by decide) (by omega) (by decide) (by unfold vp_in; decide) (by decide) 732 rfl ?_
  refine z_dup dX12_init_732 rfl 733 rfl ?_
  refine z_bipush dX12_init_733 zkkb_113 735 rfl ?_
  refine z_bipush dX12_init_735 zkkb_108 737 rfl ?_
  refine z_iast (j := 113) (N := 125) dX12_init_737 (by decide) (by omega) (by decide) (by unfold vp_in; decide) (by decide) 738 rfl ?_
  refine z_dup dX12_init_738 rfl 739 rfl ?_
  refine z_bipush dX12_init_739 zkkb_114 741 rfl ?_
  refine z_bipush dX12_init_741 zkkb_100 743 rfl ?_
  refine z_iast (j := 114) (N := 125) dX12_init_743 (by decide) (by omega) (by decide) (by unfold vp_in; decide) (by decide) 744 rfl ?_
  refine z_dup dX12_init_744 rfl 745 rfl ?_
  refine z_bipush dX12_init_745 zkkb_115 747 rfl ?_
  refine z_bipush dX12_init_747 zkkb_32 749 rfl ?_
  refine z_iast (j := 115) (N := 125) dX12_init_749 (by decide) (by omega) (by decide) (by unfold vp_in; decide) (by decide) 750 rfl ?_
  refine z_dup dX12_init_750 rfl 751 rfl ?_
  refine z_bipush dX12_init_751 zkkb_116 753 rfl ?_
  refine z_bipush dX12_init_753 zkkb_99 755 rfl ?_
  refine z_iast (j := 116) (N := 125) dX12_init_755 (by decide) (by omega) (by decide) (by unfold vp_in; decide) (by decide) 756 rfl ?_
  refine z_dup dX12_init_756 rfl 757 rfl ?_
  refine z_bipush dX12_init_757 zkkb_117 759 rfl ?_
  refine z_bipush dX12_init_759 zkkb_117 761 rfl ?_
  refine z_iast (j := 117) (N := 125) dX12_init_761 (by decide) (by omega) (by decide) (by unfold vp_in; decide) (by decide) 762 rfl ?_
  refine z_dup dX12_init_762 rfl 763 rfl ?_
  refine z_bipush dX12_init_763 zkkb_118 765 rfl ?_
  refine z_bipush dX12_init_765 zkkb_114 767 rfl ?_
  refine z_iast (j := 118) (N := 125) dX12_init_767 (by decide) (by omega) (by decide) (by unfold vp_in; decide) (by decide) 768 rfl ?_
  refine z_dup dX12_init_768 rfl 769 rfl ?_
  refine z_bipush dX12_init_769 zkkb_119 771 rfl ?_
  refine z_bipush dX12_init_771 zkkb_115 773 rfl ?_
  refine z_iast (j := 119) (N := 125) dX12_init_773 (by decide) (by omega) (by decide) (by unfold vp_in; decide) (by decide) 774 rfl ?_
  refine z_dup dX12_init_774 rfl 775 rfl ?_
  refine z_bipush dX12_init_775 zkkb_120 777 rfl ?_
  refine z_bipush dX12_init_777 zkkb_101 779 rfl ?_
  refine z_iast (j := 120) (N := 125) dX12_init_779 (by decide) (by omega) (by decide) (by unfold vp_in; decide) (by decide) 780 rfl ?_
  refine z_dup dX12_init_780 rfl 781 rfl ?_
  refine z_bipush dX12_init_781 zkkb_121 783 rfl ?_
  refine z_bipush dX12_init_783 zkkb_32 785 rfl ?_
  refine z_iast (j := 121) (N := 125) dX12_init_785 (by decide) (by omega) (by decide) (by unfold vp_in; decide) (by decide) 786 rfl ?_
  refine z_dup dX12_init_786 rfl 787 rfl ?_
  refine z_bipush dX12_init_787 zkkb_122 789 rfl ?_
  refine z_bipush dX12_init_789 zkkb_115 791 rfl ?_
  refine z_iast (j := 122) (N := 125) dX12_init_791 (by decide) (by omega) (by decide) (by unfold vp_in; decide) (by decide) 792 rfl ?_
  refine z_dup dX12_init_792 rfl 793 rfl ?_
  refine z_bipush dX12_init_793 zkkb_123 795 rfl ?_
  refine z_bipush dX12_init_795 zkkb_111 797 rfl ?_
  refine z_iast (j := 123) (N := 125) dX12_init_797 (by decide) (by omega) (by decide) (by unfold vp_in; decide) (by decide) 798 rfl ?_
  refine z_dup dX12_init_798 rfl 799 rfl ?_
  refine z_bipush dX12_init_799 zkkb_124 801 rfl ?_
  refine z_bipush dX12_init_801 zkkb_32 803 rfl ?_
  refine z_iast (j := 124) (N := 125) dX12_init_803 (by decide) (by omega) (by decide) (by unfold vp_in; decide) (by decide) 804 rfl ?_
  refine z_putr (f := 7) (j := 16) (N := 50) dX12_init_804 hk (by decide) (lyn12 hk) (by omega) (by decide) rfl (by decide) kf12 tyX12 tyX12_ok nmX12 rfl rfl kw5_175 (by decide) (by decide) rfl (tyX12_ok 16 (by decide)) (fun _ => rfl) (fun _ => rfl) 807 rfl ?_
  refine z_aload_n dX12_init_807 rfl 808 rfl ?_
  refine z_iconst dX12_init_808 zkkc_2 809 rfl ?_
  refine z_newi (N := 2) dX12_init_809 (by decide) (by decide) (by omega) (by decide) (by decide) (by decide) (by decide) (by decide) 811 rfl ?_
  refine z_eq 175 8 1997 rfl rfl rfl ?_
  refine z_putr (f := 8) (j := 17) (N := 50) dX12_init_811 hk (by decide) (lyn12 hk) (by omega) (by decide) rfl (by decide) kf12 tyX12 tyX12_ok nmX12 rfl rfl kw5_176 (by decide) (by decide) rfl (tyX12_ok 17 (by decide)) (fun _ => rfl) (fun _ => rfl) 814 rfl ?_
  refine z_aload_n dX12_init_814 rfl 815 rfl ?_
  refine z_bipush dX12_init_815 zkkb_48 817 rfl ?_
  refine z_newi (N := 48) dX12_init_817 (by decide) (by decide) (by omega) (by decide) (by decide) (by decide) (by decide) (by decide) 819 rfl ?_
  refine z_eq 176 9 2045 rfl rfl rfl ?_
  refine z_putr (f := 9) (j := 18) (N := 50) dX12_init_819 hk (by decide) (lyn12 hk) (by omega) (by decide) rfl (by decide) kf12 tyX12 tyX12_ok nmX12 rfl rfl kw5_177 (by decide) (by decide) rfl (tyX12_ok 18 (by decide)) (fun _ => rfl) (fun _ => rfl) 822 rfl ?_
  refine z_aload_n dX12_init_822 rfl 823 rfl ?_
  refine z_bipush dX12_init_823 zkkb_48 825 rfl ?_
  refine z_newi (N := 48) dX12_init_825 (by decide) (by decide) (by omega) (by decide) (by decide) (by decide) (by decide) (by decide) 827 rfl ?_
  refine z_eq 177 10 2093 rfl rfl rfl ?_
  refine z_putr (f := 10) (j := 19) (N := 50) dX12_init_827 hk (by decide) (lyn12 hk) (by omega) (by decide) rfl (by decide) kf12 tyX12 tyX12_ok nmX12 rfl rfl kw5_178 (by decide) (by decide) rfl (tyX12_ok 19 (by decide)) (fun _ => rfl) (fun _ => rfl) 830 rfl ?_
  refine z_aload_n dX12_init_830 rfl 831 rfl ?_
  refine z_bipush dX12_init_831 zkkb_48 833 rfl ?_
  refine z_newi (N := 48) dX12_init_833 (by decide) (by decide) (by omega) (by decide) (by decide) (by decide) (by decide) (by decide) 835 rfl ?_
  refine z_eq 178 11 2141 rfl rfl rfl ?_
  refine z_putr (f := 11) (j := 20) (N := 50) dX12_init_835 hk (by decide) (lyn12 hk) (by omega) (by decide) rfl (by decide) kf12 tyX12 tyX12_ok nmX12 rfl rfl kw5_179 (by decide) (by decide) rfl (tyX12_ok 20 (by decide)) (fun _ => rfl) (fun _ => rfl) 838 rfl ?_
  refine z_aload_n dX12_init_838 rfl 839 rfl ?_
  refine z_bipush dX12_init_839 zkkb_48 841 rfl ?_
  refine z_newi (N := 48) dX12_init_841 (by decide) (by decide) (by omega) (by decide) (by decide) (by decide) (by decide) (by decide) 843 rfl ?_
  refine z_eq 179 12 2189 rfl rfl rfl ?_
  refine z_putr (f := 12) (j := 21) (N := 50) dX12_init_843 hk (by decide) (lyn12 hk) (by omega) (by decide) rfl (by decide) kf12 tyX12 tyX12_ok nmX12 rfl rfl kw5_180 (by decide) (by decide) rfl (tyX12_ok 21 (by decide)) (fun _ => rfl) (fun _ => rfl) 846 rfl ?_
  refine z_aload_n dX12_init_846 rfl 847 rfl ?_
  refine z_sipush dX12_init_847 zkkh_1200 850 rfl ?_
  refine z_newi (N := 1200) dX12_init_850 (by decide) (by decide) (by omega) (by decide) (by decide) (by decide) (by decide) (by decide) 852 rfl ?_
  refine z_eq 180 13 3389 rfl rfl rfl ?_
  refine z_putr (f := 13) (j := 22) (N := 50) dX12_init_852 hk (by decide) (lyn12 hk) (by omega) (by decide) rfl (by decide) kf12 tyX12 tyX12_ok nmX12 rfl rfl kw5_181 (by decide) (by decide) rfl (tyX12_ok 22 (by decide)) (fun _ => rfl) (fun _ => rfl) 855 rfl ?_
  refine z_aload_n dX12_init_855 rfl 856 rfl ?_
  refine z_sipush dX12_init_856 zkkh_1200 859 rfl ?_
  refine z_newi (N := 1200) dX12_init_859 (by decide) (by decide) (by omega) (by decide) (by decide) (by decide) (by decide) (by decide) 861 rfl ?_
  refine z_eq 181 14 4589 rfl rfl rfl ?_
  refine z_putr (f := 14) (j := 23) (N := 50) dX12_init_861 hk (by decide) (lyn12 hk) (by omega) (by decide) rfl (by decide) kf12 tyX12 tyX12_ok nmX12 rfl rfl kw5_182 (by decide) (by decide) rfl (tyX12_ok 23 (by decide)) (fun _ => rfl) (fun _ => rfl) 864 rfl ?_
  refine z_aload_n dX12_init_864 rfl 865 rfl ?_
  refine z_bipush dX12_init_865 zkkb_40 867 rfl ?_
  refine z_newi (N := 40) dX12_init_867 (by decide) (by decide) (by omega) (by decide) (by decide) (by decide) (by decide) (by decide) 869 rfl ?_
  refine z_eq 182 15 4629 rfl rfl rfl ?_
  refine z_putr (f := 15) (j := 27) (N := 50) dX12_init_869 hk (by decide) (lyn12 hk) (by omega) (by decide) rfl (by decide) kf12 tyX12 tyX12_ok nmX12 rfl rfl kw5_186 (by decide) (by decide) rfl (tyX12_ok 27 (by decide)) (fun _ => rfl) (fun _ => rfl) 872 rfl ?_
  refine z_aload_n dX12_init_872 rfl 873 rfl ?_
  refine z_iconst dX12_init_873 zkkc_m1 874 rfl ?_
  refine z_puti (j := 32) (N := 50) dX12_init_874 hk (by decide) (lyn12 hk) (by omega) (by decide) rfl (by decide) kf12 tyX12 tyX12_ok nmX12 rfl kw5_191 (by decide) rfl (tyX12_ok 32 (by decide)) (fun _ => rfl) (fun _ => rfl) 877 rfl ?_
  refine z_aload_n dX12_init_877 rfl 878 rfl ?_
  refine z_bipush dX12_init_878 zkkb_64 880 rfl ?_
  refine z_newi (N := 64) dX12_init_880 (by decide) (by decide) (by omega) (by decide) (by decide) (by decide) (by decide) (by decide) 882 rfl ?_
  refine z_eq 183 16 4693 rfl rfl rfl ?_
  refine z_putr (f := 16) (j := 34) (N := 50) dX12_init_882 hk (by decide) (lyn12 hk) (by omega) (by decide) rfl (by decide) kf12 tyX12 tyX12_ok nmX12 rfl rfl kw5_193 (by decide) (by decide) rfl (tyX12_ok 34 (by decide)) (fun _ => rfl) (fun _ => rfl) 885 rfl ?_
  refine z_aload_n dX12_init_885 rfl 886 rfl ?_
  refine z_sipush dX12_init_886 zkkh_128 889 rfl ?_
  refine z_newi (N := 128) dX12_init_889 (by decide) (by decide) (by omega) (by decide) (by decide) (by decide) (by decide) (by decide) 891 rfl ?_
  refine z_eq 184 17 4821 rfl rfl rfl ?_
  refine z_putr (f := 17) (j := 36) (N := 50) dX12_init_891 hk (by decide) (lyn12 hk) (by omega) (by decide) rfl (by decide) kf12 tyX12 tyX12_ok nmX12 rfl rfl kw5_195 (by decide) (by decide) rfl (tyX12_ok 36 (by decide)) (fun _ => rfl) (fun _ => rfl) 894 rfl ?_
  refine z_aload_n dX12_init_894 rfl 895 rfl ?_
  refine z_bipush dX12_init_895 zkkb_64 897 rfl ?_
  refine z_newi (N := 64) dX12_init_897 (by decide) (by decide) (by omega) (by decide) (by decide) (by decide) (by decide) (by decide) 899 rfl ?_
  refine z_eq 185 18 4885 rfl rfl rfl ?_
  refine z_putr (f := 18) (j := 38) (N := 50) dX12_init_899 hk (by decide) (lyn12 hk) (by omega) (by decide) rfl (by decide) kf12 tyX12 tyX12_ok nmX12 rfl rfl kw5_197 (by decide) (by decide) rfl (tyX12_ok 38 (by decide)) (fun _ => rfl) (fun _ => rfl) 902 rfl ?_
  refine z_aload_n dX12_init_902 rfl 903 rfl ?_
  refine z_bipush dX12_init_903 zkkb_9 905 rfl ?_
  refine z_newi (N := 9) dX12_init_905 (by decide) (by decide) (by omega) (by decide) (by decide) (by decide) (by decide) (by decide) 907 rfl ?_
  refine z_eq 186 19 4894 rfl rfl rfl ?_
  refine z_putr (f := 19) (j := 39) (N := 50) dX12_init_907 hk (by decide) (lyn12 hk) (by omega) (by decide) rfl (by decide) kf12 tyX12 tyX12_ok nmX12 rfl rfl kw5_198 (by decide) (by decide) rfl (tyX12_ok 39 (by decide)) (fun _ => rfl) (fun _ => rfl) 910 rfl ?_
  refine z_aload_n dX12_init_910 rfl 911 rfl ?_
  refine z_sipush dX12_init_911 zkkh_420 914 rfl ?_
  refine z_newi (N := 420) dX12_init_914 (by decide) (by decide) (by omega) (by decide) (by decide) (by decide) (by decide) (by decide) 916 rfl ?_
  refine z_eq 187 20 5314 rfl rfl rfl ?_
  refine z_putr (f := 20) (j := 40) (N := 50) dX12_init_916 hk (by decide) (lyn12 hk) (by omega) (by decide) rfl (by decide) kf12 tyX12 tyX12_ok nmX12 rfl rfl kw5_199 (by decide) (by decide) rfl (tyX12_ok 40 (by decide)) (fun _ => rfl) (fun _ => rfl) 919 rfl ?_
  refine z_aload_n dX12_init_919 rfl 920 rfl ?_
  refine z_bipush dX12_init_920 zkkb_7 922 rfl ?_
  refine z_newi (N := 7) dX12_init_922 (by decide) (by decide) (by omega) (by decide) (by decide) (by decide) (by decide) (by decide) 924 rfl ?_
  refine z_eq 188 21 5321 rfl rfl rfl ?_
  refine z_putr (f := 21) (j := 42) (N := 50) dX12_init_924 hk (by decide) (lyn12 hk) (by omega) (by decide) rfl (by decide) kf12 tyX12 tyX12_ok nmX12 rfl rfl kw5_201 (by decide) (by decide) rfl (tyX12_ok 42 (by decide)) (fun _ => rfl) (fun _ => rfl) 927 rfl ?_
  refine z_aload_n dX12_init_927 rfl 928 rfl ?_
  refine z_bipush dX12_init_928 zkkb_7 930 rfl ?_
  refine z_newi (N := 7) dX12_init_930 (by decide) (by decide) (by omega) (by decide) (by decide) (by decide) (by decide) (by decide) 932 rfl ?_
  refine z_eq 189 22 5328 rfl rfl rfl ?_
  refine z_putr (f := 22) (j := 43) (N := 50) dX12_init_932 hk (by decide) (lyn12 hk) (by omega) (by decide) rfl (by decide) kf12 tyX12 tyX12_ok nmX12 rfl rfl kw5_202 (by decide) (by decide) rfl (tyX12_ok 43 (by decide)) (fun _ => rfl) (fun _ => rfl) 935 rfl ?_
  refine z_aload_n dX12_init_935 rfl 936 rfl ?_
  refine z_bipush dX12_init_936 zkkb_10 938 rfl ?_
  refine z_newi (N := 10) dX12_init_938 (by decide) (by decide) (by omega) (by decide) (by decide) (by decide) (by decide) (by decide) 940 rfl ?_
  refine z_eq 190 23 5338 rfl rfl rfl ?_
  refine z_putr (f := 23) (j := 44) (N := 50) dX12_init_940 hk (by decide) (lyn12 hk) (by omega) (by decide) rfl (by decide) kf12 tyX12 tyX12_ok nmX12 rfl rfl kw5_203 (by decide) (by decide) rfl (tyX12_ok 44 (by decide)) (fun _ => rfl) (fun _ => rfl) 943 rfl ?_
  refine z_aload_n dX12_init_943 rfl 944 rfl ?_
  refine z_bipush dX12_init_944 zkkb_10 946 rfl ?_
  refine z_newi (N := 10) dX12_init_946 (by decide) (by decide) (by omega) (by decide) (by decide) (by decide) (by decide) (by decide) 948 rfl ?_
  refine z_eq 191 24 5348 rfl rfl rfl ?_
  refine z_putr (f := 24) (j := 45) (N := 50) dX12_init_948 hk (by decide) (lyn12 hk) (by omega) (by decide) rfl (by decide) kf12 tyX12 tyX12_ok nmX12 rfl rfl kw5_204 (by decide) (by decide) rfl (tyX12_ok 45 (by decide)) (fun _ => rfl) (fun _ => rfl) 951 rfl ?_
  refine z_aload_n dX12_init_951 rfl 952 rfl ?_
  refine z_sipush dX12_init_952 zkkh_2100 955 rfl ?_
  refine z_newi (N := 2100) dX12_init_955 (by decide) (by decide) (by omega) (by decide) (by decide) (by decide) (by decide) (by decide) 957 rfl ?_
  refine z_eq 192 25 7448 rfl rfl rfl ?_
  refine z_putr (f := 25) (j := 49) (N := 50) dX12_init_957 hk (by decide) (lyn12 hk) (by omega) (by decide) rfl (by decide) kf12 tyX12 tyX12_ok nmX12 rfl rfl kw5_208 (by decide) (by decide) rfl (tyX12_ok 49 (by decide)) (fun _ => rfl) (fun _ => rfl) 960 rfl ?_
  exact z_ret dX12_init_960 rfl rfl rfl rfl rfl
