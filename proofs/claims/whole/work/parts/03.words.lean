def xnth : List Cond → Nat → Option Cond
  | [], _ => none
  | a :: _, 0 => some a
  | _ :: l, n + 1 => xnth l n
theorem xnth_mem : ∀ {l : List Cond} (n : Nat) {w : Cond}, xnth l n = some w → w ∈ l
  | [], _, _, h => by cases h
  | a :: l, 0, w, h => by cases h; exact List.mem_cons_self
  | a :: l, n + 1, w, h => List.mem_cons_of_mem _ (xnth_mem n h)
/-- the good ones of the tables' words: what every method is given -/
def xTs : List Cond := lw_tbl.filter goodWord
theorem xTs_of {w : Cond} (h : w ∈ lw_tbl) (g : goodWord w = true) : w ∈ xTs := List.mem_filter.mpr ⟨h, g⟩
theorem xTs_good {w : Cond} (h : w ∈ xTs) : (w.onTables && w.keeps) = true ∨ ∃ ty, w = .arrayClass ty := good_of_word (List.mem_filter.mp h).2
theorem xTs_tb {w : Cond} (h : w ∈ xTs) : w ∈ lw_tbl := (List.mem_filter.mp h).1
theorem xt_tbl {w : Cond} (h : w ∈ tables_1) : w ∈ lw_tbl := List.mem_append_right _ h
theorem xt_1 {w : Cond} (h : w ∈ tables_1_1) : w ∈ lw_tbl := xt_tbl (by unfold tables_1; exact List.mem_append_left _ h)
theorem xt_2 {w : Cond} (h : w ∈ tables_1_2) : w ∈ lw_tbl := xt_tbl (by unfold tables_1; exact List.mem_append_right _ (List.mem_append_left _ h))
theorem xt_3 {w : Cond} (h : w ∈ tables_1_3) : w ∈ lw_tbl := xt_tbl (by unfold tables_1; exact List.mem_append_right _ (List.mem_append_right _ (List.mem_append_left _ h)))
theorem xt_4 {w : Cond} (h : w ∈ tables_1_4) : w ∈ lw_tbl := xt_tbl (by unfold tables_1; exact List.mem_append_right _ (List.mem_append_right _ (List.mem_append_right _ (List.mem_append_left _ h))))
theorem xt_5 {w : Cond} (h : w ∈ tables_1_5) : w ∈ lw_tbl := xt_tbl (by unfold tables_1; exact List.mem_append_right _ (List.mem_append_right _ (List.mem_append_right _ (List.mem_append_right _ (List.mem_append_left _ h)))))
theorem xt_6 {w : Cond} (h : w ∈ tables_1_6) : w ∈ lw_tbl := xt_tbl (by unfold tables_1; exact List.mem_append_right _ (List.mem_append_right _ (List.mem_append_right _ (List.mem_append_right _ (List.mem_append_right _ (List.mem_append_left _ h))))))
theorem xt_7 {w : Cond} (h : w ∈ tables_1_7) : w ∈ lw_tbl := xt_tbl (by unfold tables_1; exact List.mem_append_right _ (List.mem_append_right _ (List.mem_append_right _ (List.mem_append_right _ (List.mem_append_right _ (List.mem_append_right _ (List.mem_append_left _ h)))))))
theorem xt_8 {w : Cond} (h : w ∈ tables_1_8) : w ∈ lw_tbl := xt_tbl (by unfold tables_1; exact List.mem_append_right _ (List.mem_append_right _ (List.mem_append_right _ (List.mem_append_right _ (List.mem_append_right _ (List.mem_append_right _ (List.mem_append_right _ (h))))))))
theorem kw1_0 : (Jvm.Cond.initialized "PillarSaintsLaw") ∈ xTs := xTs_of (xt_1 (xnth_mem 0 rfl)) rfl
theorem kw1_1 : (Jvm.Cond.initialized "PillarSaints") ∈ xTs := xTs_of (xt_1 (xnth_mem 1 rfl)) rfl
theorem kw1_2 : (Jvm.Cond.initialized "PillarSaints$Desert") ∈ xTs := xTs_of (xt_1 (xnth_mem 2 rfl)) rfl
theorem kw1_3 : (Jvm.Cond.initialized "PillarSaints$World") ∈ xTs := xTs_of (xt_1 (xnth_mem 3 rfl)) rfl
theorem kw1_4 : (Jvm.Cond.initialized "java/util/Arrays") ∈ xTs := xTs_of (xt_1 (xnth_mem 4 rfl)) rfl
theorem kw1_5 : (Jvm.Cond.initialized "PillarSaints$Law") ∈ xTs := xTs_of (xt_1 (xnth_mem 5 rfl)) rfl
theorem kw1_6 : (Jvm.Cond.initialized "PillarSaints$Sky") ∈ xTs := xTs_of (xt_1 (xnth_mem 6 rfl)) rfl
theorem kw1_7 : (Jvm.Cond.initialized "PillarSaints$Plan") ∈ xTs := xTs_of (xt_1 (xnth_mem 7 rfl)) rfl
theorem kw1_8 : (Jvm.Cond.initialized "PillarSaints$Tenets") ∈ xTs := xTs_of (xt_1 (xnth_mem 8 rfl)) rfl
theorem kw1_9 : (Jvm.Cond.initialized "PillarSaints$Yard") ∈ xTs := xTs_of (xt_1 (xnth_mem 9 rfl)) rfl
theorem kw1_10 : (Jvm.Cond.initialized "PillarSaints$Past") ∈ xTs := xTs_of (xt_1 (xnth_mem 10 rfl)) rfl
theorem kw1_11 : (Jvm.Cond.initialized "PillarSaints$Reader") ∈ xTs := xTs_of (xt_1 (xnth_mem 11 rfl)) rfl
theorem kw1_12 : (Jvm.Cond.initialized "PillarSaints$Tokens") ∈ xTs := xTs_of (xt_1 (xnth_mem 12 rfl)) rfl
theorem kw1_13 : (Jvm.Cond.initialized "PillarSaints$Lap") ∈ xTs := xTs_of (xt_1 (xnth_mem 13 rfl)) rfl
theorem kw1_14 : (Jvm.Cond.initialized "PillarSaintsModel") ∈ xTs := xTs_of (xt_1 (xnth_mem 14 rfl)) rfl
theorem kw1_15 : (Jvm.Cond.initialized "java/lang/Math") ∈ xTs := xTs_of (xt_1 (xnth_mem 15 rfl)) rfl
theorem kw1_16 : (Jvm.Cond.initialized "java/lang/System") ∈ xTs := xTs_of (xt_1 (xnth_mem 16 rfl)) rfl
theorem kw1_17 : (Jvm.Cond.initialized "java/lang/String") ∈ xTs := xTs_of (xt_1 (xnth_mem 17 rfl)) rfl
theorem kw1_18 : (Jvm.Cond.initialized "java/lang/StringLatin1") ∈ xTs := xTs_of (xt_1 (xnth_mem 18 rfl)) rfl
theorem kw1_19 : (Jvm.Cond.initialized "jdk/internal/util/Preconditions") ∈ xTs := xTs_of (xt_1 (xnth_mem 19 rfl)) rfl
theorem kw1_20 : (Jvm.Cond.initialized "java/lang/StringUTF16") ∈ xTs := xTs_of (xt_1 (xnth_mem 20 rfl)) rfl
theorem kw1_21 : (Jvm.Cond.initialized "java/lang/Integer") ∈ xTs := xTs_of (xt_1 (xnth_mem 21 rfl)) rfl
theorem kw1_22 : (Jvm.Cond.classLink "PillarSaintsLaw" (7 : Nat) "PillarSaints") ∈ xTs := xTs_of (xt_1 (xnth_mem 22 rfl)) rfl
theorem kw1_23 : (Jvm.Cond.instantiable "PillarSaints" (9 : Nat)) ∈ xTs := xTs_of (xt_1 (xnth_mem 23 rfl)) rfl
theorem kw1_24 : (Jvm.Cond.methodLink "PillarSaintsLaw" (9 : Nat) ({ cls := "PillarSaints", name := "<init>", desc := "()V" } : Jvm.MethodName)) ∈ xTs := xTs_of (xt_1 (xnth_mem 24 rfl)) rfl
theorem kw1_25 : (Jvm.Cond.instanceMethod ({ cls := "PillarSaints", name := "<init>", desc := "()V" } : Jvm.MethodName)) ∈ xTs := xTs_of (xt_1 (xnth_mem 25 rfl)) rfl
theorem kw1_26 : (Jvm.Cond.code ({ cls := "PillarSaints", name := "<init>", desc := "()V" } : Jvm.MethodName) prog_1_method_1_code (1 : Nat) (Option.none : Option Jvm.ClassFile.FieldType)) ∈ xTs := xTs_of (xt_1 (xnth_mem 26 rfl)) rfl
theorem kw1_27 : (Jvm.Cond.methodLink "PillarSaints" (3 : Nat) ({ cls := "java/lang/Object", name := "<init>", desc := "()V" } : Jvm.MethodName)) ∈ xTs := xTs_of (xt_1 (xnth_mem 27 rfl)) rfl
theorem kw1_28 : (Jvm.Cond.instanceMethod ({ cls := "java/lang/Object", name := "<init>", desc := "()V" } : Jvm.MethodName)) ∈ xTs := xTs_of (xt_1 (xnth_mem 28 rfl)) rfl
theorem kw1_29 : (Jvm.Cond.code ({ cls := "java/lang/Object", name := "<init>", desc := "()V" } : Jvm.MethodName) object_method_1_code (1 : Nat) (Option.none : Option Jvm.ClassFile.FieldType)) ∈ xTs := xTs_of (xt_1 (xnth_mem 29 rfl)) rfl
theorem kw1_30 : (Jvm.Cond.classLink "PillarSaints" (9 : Nat) "PillarSaints$Desert") ∈ xTs := xTs_of (xt_1 (xnth_mem 30 rfl)) rfl
theorem kw1_31 : (Jvm.Cond.instantiable "PillarSaints$Desert" (6 : Nat)) ∈ xTs := xTs_of (xt_1 (xnth_mem 31 rfl)) rfl
theorem kw1_33 : (Jvm.Cond.instanceMethod ({ cls := "PillarSaints$Desert", name := "<init>", desc := "()V" } : Jvm.MethodName)) ∈ xTs := xTs_of (xt_1 (xnth_mem 33 rfl)) rfl
theorem kw1_34 : (Jvm.Cond.code ({ cls := "PillarSaints$Desert", name := "<init>", desc := "()V" } : Jvm.MethodName) prog_2_method_1_code (1 : Nat) (Option.none : Option Jvm.ClassFile.FieldType)) ∈ xTs := xTs_of (xt_1 (xnth_mem 34 rfl)) rfl
theorem kw1_35 : (Jvm.Cond.methodLink "PillarSaints$Desert" (3 : Nat) ({ cls := "java/lang/Object", name := "<init>", desc := "()V" } : Jvm.MethodName)) ∈ xTs := xTs_of (xt_1 (xnth_mem 35 rfl)) rfl
theorem kw1_36 : (Jvm.Cond.classLink "PillarSaints$Desert" (9 : Nat) "PillarSaints$World") ∈ xTs := xTs_of (xt_1 (xnth_mem 36 rfl)) rfl
theorem kw1_37 : (Jvm.Cond.instantiable "PillarSaints$World" (19 : Nat)) ∈ xTs := xTs_of (xt_1 (xnth_mem 37 rfl)) rfl
theorem kw1_38 : (Jvm.Cond.methodLink "PillarSaints$Desert" (11 : Nat) ({ cls := "PillarSaints$World", name := "<init>", desc := "(Z)V" } : Jvm.MethodName)) ∈ xTs := xTs_of (xt_1 (xnth_mem 38 rfl)) rfl
theorem kw1_39 : (Jvm.Cond.instanceMethod ({ cls := "PillarSaints$World", name := "<init>", desc := "(Z)V" } : Jvm.MethodName)) ∈ xTs := xTs_of (xt_1 (xnth_mem 39 rfl)) rfl
theorem kw1_40 : (Jvm.Cond.code ({ cls := "PillarSaints$World", name := "<init>", desc := "(Z)V" } : Jvm.MethodName) prog_11_method_1_code (2 : Nat) (Option.none : Option Jvm.ClassFile.FieldType)) ∈ xTs := xTs_of (xt_1 (xnth_mem 40 rfl)) rfl
theorem kw1_41 : (Jvm.Cond.methodLink "PillarSaints$World" (3 : Nat) ({ cls := "java/lang/Object", name := "<init>", desc := "()V" } : Jvm.MethodName)) ∈ xTs := xTs_of (xt_1 (xnth_mem 41 rfl)) rfl
theorem kw1_42 : (Jvm.Cond.methodLink "PillarSaints$World" (39 : Nat) ({ cls := "java/util/Arrays", name := "fill", desc := "([II)V" } : Jvm.MethodName)) ∈ xTs := xTs_of (xt_1 (xnth_mem 42 rfl)) rfl
theorem kw1_43 : (Jvm.Cond.static ({ cls := "java/util/Arrays", name := "fill", desc := "([II)V" } : Jvm.MethodName)) ∈ xTs := xTs_of (xt_1 (xnth_mem 43 rfl)) rfl
theorem kw1_44 : (Jvm.Cond.code ({ cls := "java/util/Arrays", name := "fill", desc := "([II)V" } : Jvm.MethodName) prog_21_method_103_code (4 : Nat) (Option.none : Option Jvm.ClassFile.FieldType)) ∈ xTs := xTs_of (xt_1 (xnth_mem 44 rfl)) rfl
theorem kw1_45 : (Jvm.Cond.fieldLink "PillarSaints$World" (36 : Nat) "PillarSaints$World" "written" "[I") ∈ xTs := xTs_of (xt_1 (xnth_mem 45 rfl)) rfl
theorem kw1_46 : (Jvm.Cond.fieldLink "PillarSaints$World" (9 : Nat) "PillarSaints$World" "tall" "[I") ∈ xTs := xTs_of (xt_1 (xnth_mem 46 rfl)) rfl
theorem kw1_47 : (Jvm.Cond.fieldLink "PillarSaints$Lap" (38 : Nat) "PillarSaints$World" "tall" "[I") ∈ xTs := xTs_of (xt_1 (xnth_mem 47 rfl)) rfl
theorem kw1_48 : (Jvm.Cond.fieldLink "PillarSaints" (161 : Nat) "PillarSaints$World" "tall" "[I") ∈ xTs := xTs_of (xt_1 (xnth_mem 48 rfl)) rfl
theorem kw1_49 : (Jvm.Cond.fieldLink "PillarSaints$Law" (98 : Nat) "PillarSaints$World" "tall" "[I") ∈ xTs := xTs_of (xt_1 (xnth_mem 49 rfl)) rfl
theorem kw1_50 : (Jvm.Cond.fieldLink "PillarSaints$World" (15 : Nat) "PillarSaints$World" "sitter" "[I") ∈ xTs := xTs_of (xt_1 (xnth_mem 50 rfl)) rfl
theorem kw1_51 : (Jvm.Cond.fieldLink "PillarSaints" (165 : Nat) "PillarSaints$World" "sitter" "[I") ∈ xTs := xTs_of (xt_1 (xnth_mem 51 rfl)) rfl
theorem kw1_52 : (Jvm.Cond.fieldLink "PillarSaints$World" (18 : Nat) "PillarSaints$World" "advice" "[I") ∈ xTs := xTs_of (xt_1 (xnth_mem 52 rfl)) rfl
theorem kw1_53 : (Jvm.Cond.fieldLink "PillarSaints$Desert" (133 : Nat) "PillarSaints$World" "advice" "[I") ∈ xTs := xTs_of (xt_1 (xnth_mem 53 rfl)) rfl
theorem kw1_54 : (Jvm.Cond.fieldLink "PillarSaints" (168 : Nat) "PillarSaints$World" "advice" "[I") ∈ xTs := xTs_of (xt_1 (xnth_mem 54 rfl)) rfl
theorem kw1_55 : (Jvm.Cond.fieldLink "PillarSaints$World" (21 : Nat) "PillarSaints$World" "age" "[I") ∈ xTs := xTs_of (xt_1 (xnth_mem 55 rfl)) rfl
theorem kw1_56 : (Jvm.Cond.fieldLink "PillarSaints$Desert" (168 : Nat) "PillarSaints$World" "age" "[I") ∈ xTs := xTs_of (xt_1 (xnth_mem 56 rfl)) rfl
theorem kw1_57 : (Jvm.Cond.fieldLink "PillarSaints$Law" (68 : Nat) "PillarSaints$World" "age" "[I") ∈ xTs := xTs_of (xt_1 (xnth_mem 57 rfl)) rfl
theorem kw1_58 : (Jvm.Cond.fieldLink "PillarSaints$World" (24 : Nat) "PillarSaints$World" "faith" "[I") ∈ xTs := xTs_of (xt_1 (xnth_mem 58 rfl)) rfl
theorem kw1_59 : (Jvm.Cond.fieldLink "PillarSaints$Law" (95 : Nat) "PillarSaints$World" "faith" "[I") ∈ xTs := xTs_of (xt_1 (xnth_mem 59 rfl)) rfl
theorem kw1_60 : (Jvm.Cond.fieldLink "PillarSaints$World" (27 : Nat) "PillarSaints$World" "doctrine" "[I") ∈ xTs := xTs_of (xt_1 (xnth_mem 60 rfl)) rfl
theorem kw1_61 : (Jvm.Cond.fieldLink "PillarSaints$Desert" (159 : Nat) "PillarSaints$World" "doctrine" "[I") ∈ xTs := xTs_of (xt_1 (xnth_mem 61 rfl)) rfl
theorem kw1_62 : (Jvm.Cond.fieldLink "PillarSaints$Law" (80 : Nat) "PillarSaints$World" "doctrine" "[I") ∈ xTs := xTs_of (xt_1 (xnth_mem 62 rfl)) rfl
theorem kw1_63 : (Jvm.Cond.fieldLink "PillarSaints$World" (30 : Nat) "PillarSaints$World" "hunger" "[I") ∈ xTs := xTs_of (xt_1 (xnth_mem 63 rfl)) rfl
theorem kw1_64 : (Jvm.Cond.fieldLink "PillarSaints$Law" (65 : Nat) "PillarSaints$World" "hunger" "[I") ∈ xTs := xTs_of (xt_1 (xnth_mem 64 rfl)) rfl
theorem kw1_65 : (Jvm.Cond.fieldLink "PillarSaints$World" (33 : Nat) "PillarSaints$World" "ground" "[I") ∈ xTs := xTs_of (xt_1 (xnth_mem 65 rfl)) rfl
theorem kw1_66 : (Jvm.Cond.fieldLink "PillarSaints$World" (57 : Nat) "PillarSaints$World" "grounded" "I") ∈ xTs := xTs_of (xt_1 (xnth_mem 66 rfl)) rfl
theorem kw1_67 : (Jvm.Cond.fieldLink "PillarSaints$Lap" (30 : Nat) "PillarSaints$World" "pillars" "I") ∈ xTs := xTs_of (xt_1 (xnth_mem 67 rfl)) rfl
theorem kw1_68 : (Jvm.Cond.fieldLink "PillarSaints$World" (61 : Nat) "PillarSaints$World" "pillars" "I") ∈ xTs := xTs_of (xt_1 (xnth_mem 68 rfl)) rfl
theorem kw1_69 : (Jvm.Cond.fieldLink "PillarSaints" (63 : Nat) "PillarSaints$World" "pillars" "I") ∈ xTs := xTs_of (xt_1 (xnth_mem 69 rfl)) rfl
theorem kw1_70 : (Jvm.Cond.fieldLink "PillarSaints$Reader" (70 : Nat) "PillarSaints$World" "pillars" "I") ∈ xTs := xTs_of (xt_1 (xnth_mem 70 rfl)) rfl
theorem kw1_71 : (Jvm.Cond.fieldLink "PillarSaints$Desert" (113 : Nat) "PillarSaints$World" "pillars" "I") ∈ xTs := xTs_of (xt_1 (xnth_mem 71 rfl)) rfl
theorem kw1_72 : (Jvm.Cond.fieldLink "PillarSaints$World" (64 : Nat) "PillarSaints$World" "saints" "I") ∈ xTs := xTs_of (xt_1 (xnth_mem 72 rfl)) rfl
theorem kw1_73 : (Jvm.Cond.fieldLink "PillarSaints$Reader" (76 : Nat) "PillarSaints$World" "saints" "I") ∈ xTs := xTs_of (xt_1 (xnth_mem 73 rfl)) rfl
theorem kw1_74 : (Jvm.Cond.fieldLink "PillarSaints" (74 : Nat) "PillarSaints$World" "saints" "I") ∈ xTs := xTs_of (xt_1 (xnth_mem 74 rfl)) rfl
theorem kw1_75 : (Jvm.Cond.fieldLink "PillarSaints$Desert" (162 : Nat) "PillarSaints$World" "saints" "I") ∈ xTs := xTs_of (xt_1 (xnth_mem 75 rfl)) rfl
theorem kw1_76 : (Jvm.Cond.fieldLink "PillarSaints$World" (67 : Nat) "PillarSaints$World" "dead" "I") ∈ xTs := xTs_of (xt_1 (xnth_mem 76 rfl)) rfl
theorem kw1_77 : (Jvm.Cond.fieldLink "PillarSaints" (189 : Nat) "PillarSaints$World" "dead" "I") ∈ xTs := xTs_of (xt_1 (xnth_mem 77 rfl)) rfl
theorem kw1_78 : (Jvm.Cond.fieldLink "PillarSaints$World" (70 : Nat) "PillarSaints$World" "basket" "I") ∈ xTs := xTs_of (xt_1 (xnth_mem 78 rfl)) rfl
theorem kw1_79 : (Jvm.Cond.fieldLink "PillarSaints$Desert" (130 : Nat) "PillarSaints$World" "basket" "I") ∈ xTs := xTs_of (xt_1 (xnth_mem 79 rfl)) rfl
theorem kw1_80 : (Jvm.Cond.fieldLink "PillarSaints$Plan" (42 : Nat) "PillarSaints$World" "basket" "I") ∈ xTs := xTs_of (xt_1 (xnth_mem 80 rfl)) rfl
theorem kw1_81 : (Jvm.Cond.fieldLink "PillarSaints" (91 : Nat) "PillarSaints$World" "basket" "I") ∈ xTs := xTs_of (xt_1 (xnth_mem 81 rfl)) rfl
theorem kw1_82 : (Jvm.Cond.fieldLink "PillarSaints$World" (73 : Nat) "PillarSaints$World" "weather" "I") ∈ xTs := xTs_of (xt_1 (xnth_mem 82 rfl)) rfl
theorem kw1_83 : (Jvm.Cond.fieldLink "PillarSaints$Desert" (91 : Nat) "PillarSaints$World" "weather" "I") ∈ xTs := xTs_of (xt_1 (xnth_mem 83 rfl)) rfl
theorem kw1_84 : (Jvm.Cond.fieldLink "PillarSaints$Law" (101 : Nat) "PillarSaints$World" "weather" "I") ∈ xTs := xTs_of (xt_1 (xnth_mem 84 rfl)) rfl
theorem kw1_85 : (Jvm.Cond.fieldLink "PillarSaints$World" (76 : Nat) "PillarSaints$World" "day" "I") ∈ xTs := xTs_of (xt_1 (xnth_mem 85 rfl)) rfl
theorem kw1_86 : (Jvm.Cond.fieldLink "PillarSaints$Plan" (34 : Nat) "PillarSaints$World" "day" "I") ∈ xTs := xTs_of (xt_1 (xnth_mem 86 rfl)) rfl
theorem kw1_87 : (Jvm.Cond.fieldLink "PillarSaints$Desert" (83 : Nat) "PillarSaints$World" "day" "I") ∈ xTs := xTs_of (xt_1 (xnth_mem 87 rfl)) rfl
theorem kw1_88 : (Jvm.Cond.fieldLink "PillarSaints" (111 : Nat) "PillarSaints$World" "day" "I") ∈ xTs := xTs_of (xt_1 (xnth_mem 88 rfl)) rfl
theorem kw1_89 : (Jvm.Cond.fieldLink "PillarSaints$Law" (104 : Nat) "PillarSaints$World" "day" "I") ∈ xTs := xTs_of (xt_1 (xnth_mem 89 rfl)) rfl
theorem kw1_90 : (Jvm.Cond.fieldLink "PillarSaints$World" (79 : Nat) "PillarSaints$World" "left" "I") ∈ xTs := xTs_of (xt_1 (xnth_mem 90 rfl)) rfl
theorem kw1_91 : (Jvm.Cond.fieldLink "PillarSaints$Desert" (127 : Nat) "PillarSaints$World" "left" "I") ∈ xTs := xTs_of (xt_1 (xnth_mem 91 rfl)) rfl
theorem kw1_92 : (Jvm.Cond.fieldLink "PillarSaints" (197 : Nat) "PillarSaints$World" "left" "I") ∈ xTs := xTs_of (xt_1 (xnth_mem 92 rfl)) rfl
theorem kw1_93 : (Jvm.Cond.fieldLink "PillarSaints" (56 : Nat) "PillarSaints$World" "draws" "I") ∈ xTs := xTs_of (xt_1 (xnth_mem 93 rfl)) rfl
theorem kw1_94 : (Jvm.Cond.fieldLink "PillarSaints$World" (82 : Nat) "PillarSaints$World" "draws" "I") ∈ xTs := xTs_of (xt_1 (xnth_mem 94 rfl)) rfl
theorem kw1_95 : (Jvm.Cond.fieldLink "PillarSaints$World" (85 : Nat) "PillarSaints$World" "lines" "I") ∈ xTs := xTs_of (xt_1 (xnth_mem 95 rfl)) rfl
theorem kw1_96 : (Jvm.Cond.fieldLink "PillarSaints" (180 : Nat) "PillarSaints$World" "lines" "I") ∈ xTs := xTs_of (xt_1 (xnth_mem 96 rfl)) rfl
theorem kw1_97 : (Jvm.Cond.laysFinal "PillarSaints$World" "PillarSaints$World" "written" "[I") ∈ xTs := xTs_of (xt_1 (xnth_mem 97 rfl)) rfl
theorem kw1_99 : (Jvm.Cond.laysFinal "PillarSaints$World" "PillarSaints$World" "tall" "[I") ∈ xTs := xTs_of (xt_1 (xnth_mem 99 rfl)) rfl
theorem kw1_101 : (Jvm.Cond.laysFinal "PillarSaints$World" "PillarSaints$World" "sitter" "[I") ∈ xTs := xTs_of (xt_1 (xnth_mem 101 rfl)) rfl
theorem kw1_103 : (Jvm.Cond.laysFinal "PillarSaints$World" "PillarSaints$World" "advice" "[I") ∈ xTs := xTs_of (xt_1 (xnth_mem 103 rfl)) rfl
theorem kw1_105 : (Jvm.Cond.laysFinal "PillarSaints$World" "PillarSaints$World" "age" "[I") ∈ xTs := xTs_of (xt_1 (xnth_mem 105 rfl)) rfl
theorem kw1_107 : (Jvm.Cond.laysFinal "PillarSaints$World" "PillarSaints$World" "faith" "[I") ∈ xTs := xTs_of (xt_1 (xnth_mem 107 rfl)) rfl
theorem kw1_109 : (Jvm.Cond.laysFinal "PillarSaints$World" "PillarSaints$World" "doctrine" "[I") ∈ xTs := xTs_of (xt_1 (xnth_mem 109 rfl)) rfl
theorem kw1_111 : (Jvm.Cond.laysFinal "PillarSaints$World" "PillarSaints$World" "hunger" "[I") ∈ xTs := xTs_of (xt_1 (xnth_mem 111 rfl)) rfl
theorem kw1_113 : (Jvm.Cond.laysFinal "PillarSaints$World" "PillarSaints$World" "ground" "[I") ∈ xTs := xTs_of (xt_1 (xnth_mem 113 rfl)) rfl
theorem kw1_115 : (Jvm.Cond.lays "PillarSaints$World" "PillarSaints$World" "grounded" "I") ∈ xTs := xTs_of (xt_1 (xnth_mem 115 rfl)) rfl
theorem kw1_117 : (Jvm.Cond.lays "PillarSaints$World" "PillarSaints$World" "pillars" "I") ∈ xTs := xTs_of (xt_1 (xnth_mem 117 rfl)) rfl
theorem kw1_119 : (Jvm.Cond.lays "PillarSaints$World" "PillarSaints$World" "saints" "I") ∈ xTs := xTs_of (xt_1 (xnth_mem 119 rfl)) rfl
theorem kw1_121 : (Jvm.Cond.lays "PillarSaints$World" "PillarSaints$World" "dead" "I") ∈ xTs := xTs_of (xt_1 (xnth_mem 121 rfl)) rfl
theorem kw1_123 : (Jvm.Cond.lays "PillarSaints$World" "PillarSaints$World" "basket" "I") ∈ xTs := xTs_of (xt_1 (xnth_mem 123 rfl)) rfl
theorem kw1_125 : (Jvm.Cond.lays "PillarSaints$World" "PillarSaints$World" "weather" "I") ∈ xTs := xTs_of (xt_1 (xnth_mem 125 rfl)) rfl
theorem kw1_127 : (Jvm.Cond.lays "PillarSaints$World" "PillarSaints$World" "day" "I") ∈ xTs := xTs_of (xt_1 (xnth_mem 127 rfl)) rfl
theorem kw1_129 : (Jvm.Cond.lays "PillarSaints$World" "PillarSaints$World" "left" "I") ∈ xTs := xTs_of (xt_1 (xnth_mem 129 rfl)) rfl
theorem kw1_131 : (Jvm.Cond.lays "PillarSaints$World" "PillarSaints$World" "draws" "I") ∈ xTs := xTs_of (xt_1 (xnth_mem 131 rfl)) rfl
theorem kw1_133 : (Jvm.Cond.lays "PillarSaints$World" "PillarSaints$World" "lines" "I") ∈ xTs := xTs_of (xt_1 (xnth_mem 133 rfl)) rfl
theorem kw1_136 : (Jvm.Cond.arrayClass Jvm.ClassFile.FieldType.int) ∈ xTs := xTs_of (xt_1 (xnth_mem 136 rfl)) rfl
theorem kw1_137 : (Jvm.Cond.classLink "PillarSaints$Desert" (20 : Nat) "PillarSaints$Law") ∈ xTs := xTs_of (xt_1 (xnth_mem 137 rfl)) rfl
theorem kw1_138 : (Jvm.Cond.instantiable "PillarSaints$Law" (8 : Nat)) ∈ xTs := xTs_of (xt_1 (xnth_mem 138 rfl)) rfl
theorem kw1_140 : (Jvm.Cond.instanceMethod ({ cls := "PillarSaints$Law", name := "<init>", desc := "()V" } : Jvm.MethodName)) ∈ xTs := xTs_of (xt_1 (xnth_mem 140 rfl)) rfl
theorem kw1_141 : (Jvm.Cond.code ({ cls := "PillarSaints$Law", name := "<init>", desc := "()V" } : Jvm.MethodName) prog_4_method_1_code (1 : Nat) (Option.none : Option Jvm.ClassFile.FieldType)) ∈ xTs := xTs_of (xt_1 (xnth_mem 141 rfl)) rfl
theorem kw1_142 : (Jvm.Cond.methodLink "PillarSaints$Law" (3 : Nat) ({ cls := "java/lang/Object", name := "<init>", desc := "()V" } : Jvm.MethodName)) ∈ xTs := xTs_of (xt_1 (xnth_mem 142 rfl)) rfl
theorem kw1_143 : (Jvm.Cond.fieldLink "PillarSaints$Law" (9 : Nat) "PillarSaints$Law" "code" "[I") ∈ xTs := xTs_of (xt_1 (xnth_mem 143 rfl)) rfl
theorem kw1_144 : (Jvm.Cond.fieldLink "PillarSaints$Law" (15 : Nat) "PillarSaints$Law" "word" "[I") ∈ xTs := xTs_of (xt_1 (xnth_mem 144 rfl)) rfl
theorem kw1_145 : (Jvm.Cond.fieldLink "PillarSaints$Law" (18 : Nat) "PillarSaints$Law" "start" "[I") ∈ xTs := xTs_of (xt_1 (xnth_mem 145 rfl)) rfl
theorem kw1_146 : (Jvm.Cond.fieldLink "PillarSaints$Law" (21 : Nat) "PillarSaints$Law" "when" "[I") ∈ xTs := xTs_of (xt_1 (xnth_mem 146 rfl)) rfl
theorem kw1_147 : (Jvm.Cond.fieldLink "PillarSaints$Law" (24 : Nat) "PillarSaints$Law" "stop" "[I") ∈ xTs := xTs_of (xt_1 (xnth_mem 147 rfl)) rfl
theorem kw1_148 : (Jvm.Cond.fieldLink "PillarSaints$Law" (27 : Nat) "PillarSaints$Law" "stack" "[I") ∈ xTs := xTs_of (xt_1 (xnth_mem 148 rfl)) rfl
theorem kw1_149 : (Jvm.Cond.fieldLink "PillarSaints$Law" (34 : Nat) "PillarSaints$Law" "length" "I") ∈ xTs := xTs_of (xt_1 (xnth_mem 149 rfl)) rfl
theorem kw1_150 : (Jvm.Cond.fieldLink "PillarSaints$Law" (30 : Nat) "PillarSaints$Law" "count" "I") ∈ xTs := xTs_of (xt_1 (xnth_mem 150 rfl)) rfl
theorem kw1_151 : (Jvm.Cond.fieldLink "PillarSaints" (313 : Nat) "PillarSaints$Law" "count" "I") ∈ xTs := xTs_of (xt_1 (xnth_mem 151 rfl)) rfl
theorem kw1_152 : (Jvm.Cond.laysFinal "PillarSaints$Law" "PillarSaints$Law" "code" "[I") ∈ xTs := xTs_of (xt_1 (xnth_mem 152 rfl)) rfl
theorem kw1_154 : (Jvm.Cond.laysFinal "PillarSaints$Law" "PillarSaints$Law" "word" "[I") ∈ xTs := xTs_of (xt_1 (xnth_mem 154 rfl)) rfl
theorem kw1_156 : (Jvm.Cond.laysFinal "PillarSaints$Law" "PillarSaints$Law" "start" "[I") ∈ xTs := xTs_of (xt_1 (xnth_mem 156 rfl)) rfl
theorem kw1_158 : (Jvm.Cond.laysFinal "PillarSaints$Law" "PillarSaints$Law" "when" "[I") ∈ xTs := xTs_of (xt_1 (xnth_mem 158 rfl)) rfl
theorem kw1_160 : (Jvm.Cond.laysFinal "PillarSaints$Law" "PillarSaints$Law" "stop" "[I") ∈ xTs := xTs_of (xt_1 (xnth_mem 160 rfl)) rfl
theorem kw1_162 : (Jvm.Cond.laysFinal "PillarSaints$Law" "PillarSaints$Law" "stack" "[I") ∈ xTs := xTs_of (xt_1 (xnth_mem 162 rfl)) rfl
theorem kw1_164 : (Jvm.Cond.lays "PillarSaints$Law" "PillarSaints$Law" "length" "I") ∈ xTs := xTs_of (xt_1 (xnth_mem 164 rfl)) rfl
theorem kw1_166 : (Jvm.Cond.lays "PillarSaints$Law" "PillarSaints$Law" "count" "I") ∈ xTs := xTs_of (xt_1 (xnth_mem 166 rfl)) rfl
theorem kw1_169 : (Jvm.Cond.classLink "PillarSaints$Desert" (27 : Nat) "PillarSaints$Sky") ∈ xTs := xTs_of (xt_1 (xnth_mem 169 rfl)) rfl
theorem kw1_170 : (Jvm.Cond.instantiable "PillarSaints$Sky" (3 : Nat)) ∈ xTs := xTs_of (xt_1 (xnth_mem 170 rfl)) rfl
theorem kw1_172 : (Jvm.Cond.instanceMethod ({ cls := "PillarSaints$Sky", name := "<init>", desc := "()V" } : Jvm.MethodName)) ∈ xTs := xTs_of (xt_1 (xnth_mem 172 rfl)) rfl
theorem kw1_173 : (Jvm.Cond.code ({ cls := "PillarSaints$Sky", name := "<init>", desc := "()V" } : Jvm.MethodName) prog_8_method_1_code (1 : Nat) (Option.none : Option Jvm.ClassFile.FieldType)) ∈ xTs := xTs_of (xt_1 (xnth_mem 173 rfl)) rfl
theorem kw1_174 : (Jvm.Cond.methodLink "PillarSaints$Sky" (3 : Nat) ({ cls := "java/lang/Object", name := "<init>", desc := "()V" } : Jvm.MethodName)) ∈ xTs := xTs_of (xt_1 (xnth_mem 174 rfl)) rfl
theorem kw1_175 : (Jvm.Cond.fieldLink "PillarSaints$Sky" (9 : Nat) "PillarSaints$Sky" "day" "[I") ∈ xTs := xTs_of (xt_1 (xnth_mem 175 rfl)) rfl
theorem kw1_176 : (Jvm.Cond.fieldLink "PillarSaints$Sky" (15 : Nat) "PillarSaints$Sky" "weather" "[I") ∈ xTs := xTs_of (xt_1 (xnth_mem 176 rfl)) rfl
theorem kw1_177 : (Jvm.Cond.fieldLink "PillarSaints$Sky" (24 : Nat) "PillarSaints$Sky" "count" "I") ∈ xTs := xTs_of (xt_1 (xnth_mem 177 rfl)) rfl
theorem kw1_178 : (Jvm.Cond.fieldLink "PillarSaints$Reader" (83 : Nat) "PillarSaints$Sky" "count" "I") ∈ xTs := xTs_of (xt_1 (xnth_mem 178 rfl)) rfl
theorem kw1_179 : (Jvm.Cond.fieldLink "PillarSaints" (314 : Nat) "PillarSaints$Sky" "count" "I") ∈ xTs := xTs_of (xt_1 (xnth_mem 179 rfl)) rfl
theorem kw1_180 : (Jvm.Cond.laysFinal "PillarSaints$Sky" "PillarSaints$Sky" "day" "[I") ∈ xTs := xTs_of (xt_1 (xnth_mem 180 rfl)) rfl
theorem kw1_182 : (Jvm.Cond.laysFinal "PillarSaints$Sky" "PillarSaints$Sky" "weather" "[I") ∈ xTs := xTs_of (xt_1 (xnth_mem 182 rfl)) rfl
theorem kw1_184 : (Jvm.Cond.lays "PillarSaints$Sky" "PillarSaints$Sky" "count" "I") ∈ xTs := xTs_of (xt_1 (xnth_mem 184 rfl)) rfl
theorem kw1_187 : (Jvm.Cond.classLink "PillarSaints$Desert" (34 : Nat) "PillarSaints$Plan") ∈ xTs := xTs_of (xt_1 (xnth_mem 187 rfl)) rfl
theorem kw1_188 : (Jvm.Cond.instantiable "PillarSaints$Plan" (5 : Nat)) ∈ xTs := xTs_of (xt_1 (xnth_mem 188 rfl)) rfl
theorem kw1_190 : (Jvm.Cond.instanceMethod ({ cls := "PillarSaints$Plan", name := "<init>", desc := "()V" } : Jvm.MethodName)) ∈ xTs := xTs_of (xt_1 (xnth_mem 190 rfl)) rfl
theorem kw1_191 : (Jvm.Cond.code ({ cls := "PillarSaints$Plan", name := "<init>", desc := "()V" } : Jvm.MethodName) prog_6_method_1_code (1 : Nat) (Option.none : Option Jvm.ClassFile.FieldType)) ∈ xTs := xTs_of (xt_1 (xnth_mem 191 rfl)) rfl
theorem kw1_192 : (Jvm.Cond.methodLink "PillarSaints$Plan" (3 : Nat) ({ cls := "java/lang/Object", name := "<init>", desc := "()V" } : Jvm.MethodName)) ∈ xTs := xTs_of (xt_1 (xnth_mem 192 rfl)) rfl
theorem kw1_193 : (Jvm.Cond.fieldLink "PillarSaints$Plan" (9 : Nat) "PillarSaints$Plan" "day" "[I") ∈ xTs := xTs_of (xt_1 (xnth_mem 193 rfl)) rfl
theorem kw1_194 : (Jvm.Cond.fieldLink "PillarSaints$Plan" (15 : Nat) "PillarSaints$Plan" "deed" "[I") ∈ xTs := xTs_of (xt_1 (xnth_mem 194 rfl)) rfl
theorem kw1_195 : (Jvm.Cond.fieldLink "PillarSaints$Plan" (18 : Nat) "PillarSaints$Plan" "who" "[I") ∈ xTs := xTs_of (xt_1 (xnth_mem 195 rfl)) rfl
theorem kw1_196 : (Jvm.Cond.fieldLink "PillarSaints$Plan" (21 : Nat) "PillarSaints$Plan" "much" "[I") ∈ xTs := xTs_of (xt_1 (xnth_mem 196 rfl)) rfl
theorem kw1_197 : (Jvm.Cond.fieldLink "PillarSaints$Plan" (30 : Nat) "PillarSaints$Plan" "count" "I") ∈ xTs := xTs_of (xt_1 (xnth_mem 197 rfl)) rfl
theorem kw1_198 : (Jvm.Cond.fieldLink "PillarSaints$Reader" (86 : Nat) "PillarSaints$Plan" "count" "I") ∈ xTs := xTs_of (xt_1 (xnth_mem 198 rfl)) rfl
theorem kw1_199 : (Jvm.Cond.fieldLink "PillarSaints" (319 : Nat) "PillarSaints$Plan" "count" "I") ∈ xTs := xTs_of (xt_1 (xnth_mem 199 rfl)) rfl
theorem kw1_200 : (Jvm.Cond.laysFinal "PillarSaints$Plan" "PillarSaints$Plan" "day" "[I") ∈ xTs := xTs_of (xt_1 (xnth_mem 200 rfl)) rfl
theorem kw1_202 : (Jvm.Cond.laysFinal "PillarSaints$Plan" "PillarSaints$Plan" "deed" "[I") ∈ xTs := xTs_of (xt_1 (xnth_mem 202 rfl)) rfl
theorem kw1_204 : (Jvm.Cond.laysFinal "PillarSaints$Plan" "PillarSaints$Plan" "who" "[I") ∈ xTs := xTs_of (xt_1 (xnth_mem 204 rfl)) rfl
theorem kw1_206 : (Jvm.Cond.laysFinal "PillarSaints$Plan" "PillarSaints$Plan" "much" "[I") ∈ xTs := xTs_of (xt_1 (xnth_mem 206 rfl)) rfl
theorem kw1_208 : (Jvm.Cond.lays "PillarSaints$Plan" "PillarSaints$Plan" "count" "I") ∈ xTs := xTs_of (xt_1 (xnth_mem 208 rfl)) rfl
theorem kw1_211 : (Jvm.Cond.classLink "PillarSaints$Desert" (41 : Nat) "PillarSaints$Tenets") ∈ xTs := xTs_of (xt_1 (xnth_mem 211 rfl)) rfl
theorem kw1_212 : (Jvm.Cond.instantiable "PillarSaints$Tenets" (3 : Nat)) ∈ xTs := xTs_of (xt_1 (xnth_mem 212 rfl)) rfl
theorem kw1_214 : (Jvm.Cond.instanceMethod ({ cls := "PillarSaints$Tenets", name := "<init>", desc := "()V" } : Jvm.MethodName)) ∈ xTs := xTs_of (xt_1 (xnth_mem 214 rfl)) rfl
theorem kw1_215 : (Jvm.Cond.code ({ cls := "PillarSaints$Tenets", name := "<init>", desc := "()V" } : Jvm.MethodName) prog_9_method_1_code (1 : Nat) (Option.none : Option Jvm.ClassFile.FieldType)) ∈ xTs := xTs_of (xt_1 (xnth_mem 215 rfl)) rfl
theorem kw1_216 : (Jvm.Cond.methodLink "PillarSaints$Tenets" (3 : Nat) ({ cls := "java/lang/Object", name := "<init>", desc := "()V" } : Jvm.MethodName)) ∈ xTs := xTs_of (xt_1 (xnth_mem 216 rfl)) rfl
theorem kw1_217 : (Jvm.Cond.fieldLink "PillarSaints$Tenets" (9 : Nat) "PillarSaints$Tenets" "given" "[I") ∈ xTs := xTs_of (xt_1 (xnth_mem 217 rfl)) rfl
theorem kw1_218 : (Jvm.Cond.fieldLink "PillarSaints$Tenets" (15 : Nat) "PillarSaints$Tenets" "told" "[I") ∈ xTs := xTs_of (xt_1 (xnth_mem 218 rfl)) rfl
theorem kw1_219 : (Jvm.Cond.fieldLink "PillarSaints$Tenets" (24 : Nat) "PillarSaints$Tenets" "count" "I") ∈ xTs := xTs_of (xt_1 (xnth_mem 219 rfl)) rfl
theorem kw1_220 : (Jvm.Cond.fieldLink "PillarSaints$Reader" (87 : Nat) "PillarSaints$Tenets" "count" "I") ∈ xTs := xTs_of (xt_1 (xnth_mem 220 rfl)) rfl
theorem kw1_221 : (Jvm.Cond.fieldLink "PillarSaints" (322 : Nat) "PillarSaints$Tenets" "count" "I") ∈ xTs := xTs_of (xt_1 (xnth_mem 221 rfl)) rfl
theorem kw1_222 : (Jvm.Cond.laysFinal "PillarSaints$Tenets" "PillarSaints$Tenets" "given" "[I") ∈ xTs := xTs_of (xt_1 (xnth_mem 222 rfl)) rfl
theorem kw1_224 : (Jvm.Cond.laysFinal "PillarSaints$Tenets" "PillarSaints$Tenets" "told" "[I") ∈ xTs := xTs_of (xt_1 (xnth_mem 224 rfl)) rfl
theorem kw1_226 : (Jvm.Cond.lays "PillarSaints$Tenets" "PillarSaints$Tenets" "count" "I") ∈ xTs := xTs_of (xt_1 (xnth_mem 226 rfl)) rfl
theorem kw1_229 : (Jvm.Cond.classLink "PillarSaints$Desert" (48 : Nat) "PillarSaints$Yard") ∈ xTs := xTs_of (xt_1 (xnth_mem 229 rfl)) rfl
theorem kw1_230 : (Jvm.Cond.instantiable "PillarSaints$Yard" (4 : Nat)) ∈ xTs := xTs_of (xt_1 (xnth_mem 230 rfl)) rfl
theorem kw1_232 : (Jvm.Cond.instanceMethod ({ cls := "PillarSaints$Yard", name := "<init>", desc := "()V" } : Jvm.MethodName)) ∈ xTs := xTs_of (xt_1 (xnth_mem 232 rfl)) rfl
theorem kw1_233 : (Jvm.Cond.code ({ cls := "PillarSaints$Yard", name := "<init>", desc := "()V" } : Jvm.MethodName) prog_12_method_1_code (1 : Nat) (Option.none : Option Jvm.ClassFile.FieldType)) ∈ xTs := xTs_of (xt_1 (xnth_mem 233 rfl)) rfl
theorem kw1_234 : (Jvm.Cond.methodLink "PillarSaints$Yard" (3 : Nat) ({ cls := "java/lang/Object", name := "<init>", desc := "()V" } : Jvm.MethodName)) ∈ xTs := xTs_of (xt_1 (xnth_mem 234 rfl)) rfl
theorem kw1_235 : (Jvm.Cond.fieldLink "PillarSaints$Yard" (9 : Nat) "PillarSaints$Yard" "days" "[I") ∈ xTs := xTs_of (xt_1 (xnth_mem 235 rfl)) rfl
theorem kw1_236 : (Jvm.Cond.fieldLink "PillarSaints$Yard" (15 : Nat) "PillarSaints$Yard" "worth" "[I") ∈ xTs := xTs_of (xt_1 (xnth_mem 236 rfl)) rfl
theorem kw1_237 : (Jvm.Cond.fieldLink "PillarSaints$Yard" (18 : Nat) "PillarSaints$Yard" "order" "[I") ∈ xTs := xTs_of (xt_1 (xnth_mem 237 rfl)) rfl
theorem kw1_238 : (Jvm.Cond.fieldLink "PillarSaints$Yard" (27 : Nat) "PillarSaints$Yard" "count" "I") ∈ xTs := xTs_of (xt_1 (xnth_mem 238 rfl)) rfl
theorem kw1_239 : (Jvm.Cond.fieldLink "PillarSaints" (266 : Nat) "PillarSaints$Yard" "count" "I") ∈ xTs := xTs_of (xt_1 (xnth_mem 239 rfl)) rfl
theorem kw2_0 : (Jvm.Cond.laysFinal "PillarSaints$Yard" "PillarSaints$Yard" "days" "[I") ∈ xTs := xTs_of (xt_2 (xnth_mem 0 rfl)) rfl
theorem kw2_2 : (Jvm.Cond.laysFinal "PillarSaints$Yard" "PillarSaints$Yard" "worth" "[I") ∈ xTs := xTs_of (xt_2 (xnth_mem 2 rfl)) rfl
theorem kw2_4 : (Jvm.Cond.laysFinal "PillarSaints$Yard" "PillarSaints$Yard" "order" "[I") ∈ xTs := xTs_of (xt_2 (xnth_mem 4 rfl)) rfl
theorem kw2_6 : (Jvm.Cond.lays "PillarSaints$Yard" "PillarSaints$Yard" "count" "I") ∈ xTs := xTs_of (xt_2 (xnth_mem 6 rfl)) rfl
theorem kw2_9 : (Jvm.Cond.fieldLink "PillarSaints$Desert" (14 : Nat) "PillarSaints$Desert" "world" "LPillarSaints$World;") ∈ xTs := xTs_of (xt_2 (xnth_mem 9 rfl)) rfl
theorem kw2_10 : (Jvm.Cond.fieldLink "PillarSaints" (53 : Nat) "PillarSaints$Desert" "world" "LPillarSaints$World;") ∈ xTs := xTs_of (xt_2 (xnth_mem 10 rfl)) rfl
theorem kw2_11 : (Jvm.Cond.fieldLink "PillarSaints$Desert" (23 : Nat) "PillarSaints$Desert" "law" "LPillarSaints$Law;") ∈ xTs := xTs_of (xt_2 (xnth_mem 11 rfl)) rfl
theorem kw2_12 : (Jvm.Cond.fieldLink "PillarSaints" (145 : Nat) "PillarSaints$Desert" "law" "LPillarSaints$Law;") ∈ xTs := xTs_of (xt_2 (xnth_mem 12 rfl)) rfl
theorem kw2_13 : (Jvm.Cond.fieldLink "PillarSaints$Desert" (30 : Nat) "PillarSaints$Desert" "sky" "LPillarSaints$Sky;") ∈ xTs := xTs_of (xt_2 (xnth_mem 13 rfl)) rfl
theorem kw2_14 : (Jvm.Cond.fieldLink "PillarSaints" (171 : Nat) "PillarSaints$Desert" "sky" "LPillarSaints$Sky;") ∈ xTs := xTs_of (xt_2 (xnth_mem 14 rfl)) rfl
theorem kw2_15 : (Jvm.Cond.fieldLink "PillarSaints$Desert" (37 : Nat) "PillarSaints$Desert" "plan" "LPillarSaints$Plan;") ∈ xTs := xTs_of (xt_2 (xnth_mem 15 rfl)) rfl
theorem kw2_16 : (Jvm.Cond.fieldLink "PillarSaints" (315 : Nat) "PillarSaints$Desert" "plan" "LPillarSaints$Plan;") ∈ xTs := xTs_of (xt_2 (xnth_mem 16 rfl)) rfl
theorem kw2_17 : (Jvm.Cond.fieldLink "PillarSaints$Desert" (44 : Nat) "PillarSaints$Desert" "tenets" "LPillarSaints$Tenets;") ∈ xTs := xTs_of (xt_2 (xnth_mem 17 rfl)) rfl
theorem kw2_18 : (Jvm.Cond.fieldLink "PillarSaints" (233 : Nat) "PillarSaints$Desert" "tenets" "LPillarSaints$Tenets;") ∈ xTs := xTs_of (xt_2 (xnth_mem 18 rfl)) rfl
theorem kw2_19 : (Jvm.Cond.fieldLink "PillarSaints$Desert" (51 : Nat) "PillarSaints$Desert" "yard" "LPillarSaints$Yard;") ∈ xTs := xTs_of (xt_2 (xnth_mem 19 rfl)) rfl
theorem kw2_20 : (Jvm.Cond.fieldLink "PillarSaints" (262 : Nat) "PillarSaints$Desert" "yard" "LPillarSaints$Yard;") ∈ xTs := xTs_of (xt_2 (xnth_mem 20 rfl)) rfl
theorem kw2_21 : (Jvm.Cond.laysFinal "PillarSaints$Desert" "PillarSaints$Desert" "world" "LPillarSaints$World;") ∈ xTs := xTs_of (xt_2 (xnth_mem 21 rfl)) rfl
theorem kw2_23 : (Jvm.Cond.laysFinal "PillarSaints$Desert" "PillarSaints$Desert" "law" "LPillarSaints$Law;") ∈ xTs := xTs_of (xt_2 (xnth_mem 23 rfl)) rfl
theorem kw2_25 : (Jvm.Cond.laysFinal "PillarSaints$Desert" "PillarSaints$Desert" "sky" "LPillarSaints$Sky;") ∈ xTs := xTs_of (xt_2 (xnth_mem 25 rfl)) rfl
theorem kw2_27 : (Jvm.Cond.laysFinal "PillarSaints$Desert" "PillarSaints$Desert" "plan" "LPillarSaints$Plan;") ∈ xTs := xTs_of (xt_2 (xnth_mem 27 rfl)) rfl
theorem kw2_29 : (Jvm.Cond.laysFinal "PillarSaints$Desert" "PillarSaints$Desert" "tenets" "LPillarSaints$Tenets;") ∈ xTs := xTs_of (xt_2 (xnth_mem 29 rfl)) rfl
theorem kw2_31 : (Jvm.Cond.laysFinal "PillarSaints$Desert" "PillarSaints$Desert" "yard" "LPillarSaints$Yard;") ∈ xTs := xTs_of (xt_2 (xnth_mem 31 rfl)) rfl
theorem kw2_34 : (Jvm.Cond.classLink "PillarSaints" (19 : Nat) "PillarSaints$World") ∈ xTs := xTs_of (xt_2 (xnth_mem 34 rfl)) rfl
theorem kw2_35 : (Jvm.Cond.methodLink "PillarSaints" (21 : Nat) ({ cls := "PillarSaints$World", name := "<init>", desc := "(Z)V" } : Jvm.MethodName)) ∈ xTs := xTs_of (xt_2 (xnth_mem 35 rfl)) rfl
theorem kw2_36 : (Jvm.Cond.classLink "PillarSaints" (28 : Nat) "PillarSaints$Past") ∈ xTs := xTs_of (xt_2 (xnth_mem 36 rfl)) rfl
theorem kw2_37 : (Jvm.Cond.instantiable "PillarSaints$Past" (2 : Nat)) ∈ xTs := xTs_of (xt_2 (xnth_mem 37 rfl)) rfl
theorem kw2_38 : (Jvm.Cond.methodLink "PillarSaints" (30 : Nat) ({ cls := "PillarSaints$Past", name := "<init>", desc := "()V" } : Jvm.MethodName)) ∈ xTs := xTs_of (xt_2 (xnth_mem 38 rfl)) rfl
theorem kw2_39 : (Jvm.Cond.instanceMethod ({ cls := "PillarSaints$Past", name := "<init>", desc := "()V" } : Jvm.MethodName)) ∈ xTs := xTs_of (xt_2 (xnth_mem 39 rfl)) rfl
theorem kw2_40 : (Jvm.Cond.code ({ cls := "PillarSaints$Past", name := "<init>", desc := "()V" } : Jvm.MethodName) prog_5_method_1_code (2 : Nat) (Option.none : Option Jvm.ClassFile.FieldType)) ∈ xTs := xTs_of (xt_2 (xnth_mem 40 rfl)) rfl
theorem kw2_41 : (Jvm.Cond.methodLink "PillarSaints$Past" (3 : Nat) ({ cls := "java/lang/Object", name := "<init>", desc := "()V" } : Jvm.MethodName)) ∈ xTs := xTs_of (xt_2 (xnth_mem 41 rfl)) rfl
theorem kw2_42 : (Jvm.Cond.classLink "PillarSaints$Past" (9 : Nat) "PillarSaints$World") ∈ xTs := xTs_of (xt_2 (xnth_mem 42 rfl)) rfl
theorem kw2_44 : (Jvm.Cond.methodLink "PillarSaints$Past" (17 : Nat) ({ cls := "PillarSaints$World", name := "<init>", desc := "(Z)V" } : Jvm.MethodName)) ∈ xTs := xTs_of (xt_2 (xnth_mem 44 rfl)) rfl
theorem kw2_45 : (Jvm.Cond.fieldLink "PillarSaints$Past" (11 : Nat) "PillarSaints$Past" "kept" "[LPillarSaints$World;") ∈ xTs := xTs_of (xt_2 (xnth_mem 45 rfl)) rfl
theorem kw2_46 : (Jvm.Cond.fieldLink "PillarSaints$Past" (20 : Nat) "PillarSaints$Past" "count" "I") ∈ xTs := xTs_of (xt_2 (xnth_mem 46 rfl)) rfl
theorem kw2_47 : (Jvm.Cond.fieldLink "PillarSaints" (323 : Nat) "PillarSaints$Past" "count" "I") ∈ xTs := xTs_of (xt_2 (xnth_mem 47 rfl)) rfl
theorem kw2_48 : (Jvm.Cond.laysFinal "PillarSaints$Past" "PillarSaints$Past" "kept" "[LPillarSaints$World;") ∈ xTs := xTs_of (xt_2 (xnth_mem 48 rfl)) rfl
theorem kw2_50 : (Jvm.Cond.lays "PillarSaints$Past" "PillarSaints$Past" "count" "I") ∈ xTs := xTs_of (xt_2 (xnth_mem 50 rfl)) rfl
theorem kw2_53 : (Jvm.Cond.classLink "PillarSaints" (35 : Nat) "PillarSaints$Reader") ∈ xTs := xTs_of (xt_2 (xnth_mem 53 rfl)) rfl
theorem kw2_54 : (Jvm.Cond.instantiable "PillarSaints$Reader" (12 : Nat)) ∈ xTs := xTs_of (xt_2 (xnth_mem 54 rfl)) rfl
theorem kw2_56 : (Jvm.Cond.instanceMethod ({ cls := "PillarSaints$Reader", name := "<init>", desc := "()V" } : Jvm.MethodName)) ∈ xTs := xTs_of (xt_2 (xnth_mem 56 rfl)) rfl
theorem kw2_57 : (Jvm.Cond.code ({ cls := "PillarSaints$Reader", name := "<init>", desc := "()V" } : Jvm.MethodName) prog_7_method_1_code (1 : Nat) (Option.none : Option Jvm.ClassFile.FieldType)) ∈ xTs := xTs_of (xt_2 (xnth_mem 57 rfl)) rfl
theorem kw2_58 : (Jvm.Cond.methodLink "PillarSaints$Reader" (3 : Nat) ({ cls := "java/lang/Object", name := "<init>", desc := "()V" } : Jvm.MethodName)) ∈ xTs := xTs_of (xt_2 (xnth_mem 58 rfl)) rfl
theorem kw2_59 : (Jvm.Cond.classLink "PillarSaints$Reader" (9 : Nat) "PillarSaints$Law") ∈ xTs := xTs_of (xt_2 (xnth_mem 59 rfl)) rfl
theorem kw2_61 : (Jvm.Cond.classLink "PillarSaints$Reader" (18 : Nat) "PillarSaints$Sky") ∈ xTs := xTs_of (xt_2 (xnth_mem 61 rfl)) rfl
theorem kw2_63 : (Jvm.Cond.classLink "PillarSaints$Reader" (25 : Nat) "PillarSaints$Plan") ∈ xTs := xTs_of (xt_2 (xnth_mem 63 rfl)) rfl
theorem kw2_65 : (Jvm.Cond.classLink "PillarSaints$Reader" (32 : Nat) "PillarSaints$Tenets") ∈ xTs := xTs_of (xt_2 (xnth_mem 65 rfl)) rfl
theorem kw2_67 : (Jvm.Cond.classLink "PillarSaints$Reader" (39 : Nat) "PillarSaints$Tokens") ∈ xTs := xTs_of (xt_2 (xnth_mem 67 rfl)) rfl
theorem kw2_68 : (Jvm.Cond.instantiable "PillarSaints$Tokens" (4 : Nat)) ∈ xTs := xTs_of (xt_2 (xnth_mem 68 rfl)) rfl
theorem kw2_70 : (Jvm.Cond.instanceMethod ({ cls := "PillarSaints$Tokens", name := "<init>", desc := "()V" } : Jvm.MethodName)) ∈ xTs := xTs_of (xt_2 (xnth_mem 70 rfl)) rfl
theorem kw2_71 : (Jvm.Cond.code ({ cls := "PillarSaints$Tokens", name := "<init>", desc := "()V" } : Jvm.MethodName) prog_10_method_1_code (1 : Nat) (Option.none : Option Jvm.ClassFile.FieldType)) ∈ xTs := xTs_of (xt_2 (xnth_mem 71 rfl)) rfl
theorem kw2_72 : (Jvm.Cond.methodLink "PillarSaints$Tokens" (3 : Nat) ({ cls := "java/lang/Object", name := "<init>", desc := "()V" } : Jvm.MethodName)) ∈ xTs := xTs_of (xt_2 (xnth_mem 72 rfl)) rfl
theorem kw2_73 : (Jvm.Cond.fieldLink "PillarSaints$Tokens" (9 : Nat) "PillarSaints$Tokens" "kind" "[I") ∈ xTs := xTs_of (xt_2 (xnth_mem 73 rfl)) rfl
theorem kw2_74 : (Jvm.Cond.fieldLink "PillarSaints$Reader" (114 : Nat) "PillarSaints$Tokens" "kind" "[I") ∈ xTs := xTs_of (xt_2 (xnth_mem 74 rfl)) rfl
theorem kw2_75 : (Jvm.Cond.fieldLink "PillarSaints$Tokens" (15 : Nat) "PillarSaints$Tokens" "number" "[I") ∈ xTs := xTs_of (xt_2 (xnth_mem 75 rfl)) rfl
theorem kw2_76 : (Jvm.Cond.fieldLink "PillarSaints$Reader" (124 : Nat) "PillarSaints$Tokens" "number" "[I") ∈ xTs := xTs_of (xt_2 (xnth_mem 76 rfl)) rfl
theorem kw2_77 : (Jvm.Cond.fieldLink "PillarSaints$Tokens" (18 : Nat) "PillarSaints$Tokens" "place" "[I") ∈ xTs := xTs_of (xt_2 (xnth_mem 77 rfl)) rfl
theorem kw2_78 : (Jvm.Cond.fieldLink "PillarSaints$Reader" (117 : Nat) "PillarSaints$Tokens" "place" "[I") ∈ xTs := xTs_of (xt_2 (xnth_mem 78 rfl)) rfl
theorem kw2_79 : (Jvm.Cond.fieldLink "PillarSaints$Tokens" (21 : Nat) "PillarSaints$Tokens" "count" "I") ∈ xTs := xTs_of (xt_2 (xnth_mem 79 rfl)) rfl
theorem kw2_80 : (Jvm.Cond.fieldLink "PillarSaints$Reader" (113 : Nat) "PillarSaints$Tokens" "count" "I") ∈ xTs := xTs_of (xt_2 (xnth_mem 80 rfl)) rfl
theorem kw2_81 : (Jvm.Cond.laysFinal "PillarSaints$Tokens" "PillarSaints$Tokens" "kind" "[I") ∈ xTs := xTs_of (xt_2 (xnth_mem 81 rfl)) rfl
theorem kw2_83 : (Jvm.Cond.laysFinal "PillarSaints$Tokens" "PillarSaints$Tokens" "number" "[I") ∈ xTs := xTs_of (xt_2 (xnth_mem 83 rfl)) rfl
theorem kw2_85 : (Jvm.Cond.laysFinal "PillarSaints$Tokens" "PillarSaints$Tokens" "place" "[I") ∈ xTs := xTs_of (xt_2 (xnth_mem 85 rfl)) rfl
theorem kw2_87 : (Jvm.Cond.lays "PillarSaints$Tokens" "PillarSaints$Tokens" "count" "I") ∈ xTs := xTs_of (xt_2 (xnth_mem 87 rfl)) rfl
theorem kw2_90 : (Jvm.Cond.fieldLink "PillarSaints$Reader" (12 : Nat) "PillarSaints$Reader" "law" "LPillarSaints$Law;") ∈ xTs := xTs_of (xt_2 (xnth_mem 90 rfl)) rfl
theorem kw2_91 : (Jvm.Cond.fieldLink "PillarSaints$Desert" (74 : Nat) "PillarSaints$Reader" "law" "LPillarSaints$Law;") ∈ xTs := xTs_of (xt_2 (xnth_mem 91 rfl)) rfl
theorem kw2_92 : (Jvm.Cond.fieldLink "PillarSaints$Reader" (21 : Nat) "PillarSaints$Reader" "sky" "LPillarSaints$Sky;") ∈ xTs := xTs_of (xt_2 (xnth_mem 92 rfl)) rfl
theorem kw2_93 : (Jvm.Cond.fieldLink "PillarSaints$Desert" (77 : Nat) "PillarSaints$Reader" "sky" "LPillarSaints$Sky;") ∈ xTs := xTs_of (xt_2 (xnth_mem 93 rfl)) rfl
theorem kw2_94 : (Jvm.Cond.fieldLink "PillarSaints$Reader" (28 : Nat) "PillarSaints$Reader" "plan" "LPillarSaints$Plan;") ∈ xTs := xTs_of (xt_2 (xnth_mem 94 rfl)) rfl
theorem kw2_95 : (Jvm.Cond.fieldLink "PillarSaints$Desert" (78 : Nat) "PillarSaints$Reader" "plan" "LPillarSaints$Plan;") ∈ xTs := xTs_of (xt_2 (xnth_mem 95 rfl)) rfl
theorem kw2_96 : (Jvm.Cond.fieldLink "PillarSaints$Reader" (35 : Nat) "PillarSaints$Reader" "tenets" "LPillarSaints$Tenets;") ∈ xTs := xTs_of (xt_2 (xnth_mem 96 rfl)) rfl
theorem kw2_97 : (Jvm.Cond.fieldLink "PillarSaints$Desert" (79 : Nat) "PillarSaints$Reader" "tenets" "LPillarSaints$Tenets;") ∈ xTs := xTs_of (xt_2 (xnth_mem 97 rfl)) rfl
theorem kw2_98 : (Jvm.Cond.fieldLink "PillarSaints$Reader" (42 : Nat) "PillarSaints$Reader" "tokens" "LPillarSaints$Tokens;") ∈ xTs := xTs_of (xt_2 (xnth_mem 98 rfl)) rfl
theorem kw2_99 : (Jvm.Cond.fieldLink "PillarSaints$Reader" (64 : Nat) "PillarSaints$Reader" "next" "I") ∈ xTs := xTs_of (xt_2 (xnth_mem 99 rfl)) rfl
theorem kw2_100 : (Jvm.Cond.fieldLink "PillarSaints$Reader" (130 : Nat) "PillarSaints$Reader" "value" "I") ∈ xTs := xTs_of (xt_2 (xnth_mem 100 rfl)) rfl
theorem kw2_101 : (Jvm.Cond.fieldLink "PillarSaints$Reader" (67 : Nat) "PillarSaints$Reader" "lines" "I") ∈ xTs := xTs_of (xt_2 (xnth_mem 101 rfl)) rfl
theorem kw2_102 : (Jvm.Cond.fieldLink "PillarSaints$Reader" (75 : Nat) "PillarSaints$Reader" "pillars" "I") ∈ xTs := xTs_of (xt_2 (xnth_mem 102 rfl)) rfl
theorem kw2_103 : (Jvm.Cond.fieldLink "PillarSaints$Reader" (79 : Nat) "PillarSaints$Reader" "saints" "I") ∈ xTs := xTs_of (xt_2 (xnth_mem 103 rfl)) rfl
theorem kw2_104 : (Jvm.Cond.fieldLink "PillarSaints$Reader" (50 : Nat) "PillarSaints$Reader" "wrong" "I") ∈ xTs := xTs_of (xt_2 (xnth_mem 104 rfl)) rfl
theorem kw2_105 : (Jvm.Cond.fieldLink "PillarSaints" (135 : Nat) "PillarSaints$Reader" "wrong" "I") ∈ xTs := xTs_of (xt_2 (xnth_mem 105 rfl)) rfl
theorem kw2_106 : (Jvm.Cond.fieldLink "PillarSaints$Reader" (46 : Nat) "PillarSaints$Reader" "wrongPlace" "I") ∈ xTs := xTs_of (xt_2 (xnth_mem 106 rfl)) rfl
theorem kw2_107 : (Jvm.Cond.fieldLink "PillarSaints" (138 : Nat) "PillarSaints$Reader" "wrongPlace" "I") ∈ xTs := xTs_of (xt_2 (xnth_mem 107 rfl)) rfl
theorem kw2_108 : (Jvm.Cond.laysFinal "PillarSaints$Reader" "PillarSaints$Reader" "law" "LPillarSaints$Law;") ∈ xTs := xTs_of (xt_2 (xnth_mem 108 rfl)) rfl
theorem kw2_110 : (Jvm.Cond.laysFinal "PillarSaints$Reader" "PillarSaints$Reader" "sky" "LPillarSaints$Sky;") ∈ xTs := xTs_of (xt_2 (xnth_mem 110 rfl)) rfl
theorem kw2_112 : (Jvm.Cond.laysFinal "PillarSaints$Reader" "PillarSaints$Reader" "plan" "LPillarSaints$Plan;") ∈ xTs := xTs_of (xt_2 (xnth_mem 112 rfl)) rfl
theorem kw2_114 : (Jvm.Cond.laysFinal "PillarSaints$Reader" "PillarSaints$Reader" "tenets" "LPillarSaints$Tenets;") ∈ xTs := xTs_of (xt_2 (xnth_mem 114 rfl)) rfl
theorem kw2_116 : (Jvm.Cond.laysFinal "PillarSaints$Reader" "PillarSaints$Reader" "tokens" "LPillarSaints$Tokens;") ∈ xTs := xTs_of (xt_2 (xnth_mem 116 rfl)) rfl
theorem kw2_118 : (Jvm.Cond.lays "PillarSaints$Reader" "PillarSaints$Reader" "next" "I") ∈ xTs := xTs_of (xt_2 (xnth_mem 118 rfl)) rfl
theorem kw2_120 : (Jvm.Cond.lays "PillarSaints$Reader" "PillarSaints$Reader" "value" "I") ∈ xTs := xTs_of (xt_2 (xnth_mem 120 rfl)) rfl
theorem kw2_122 : (Jvm.Cond.lays "PillarSaints$Reader" "PillarSaints$Reader" "lines" "I") ∈ xTs := xTs_of (xt_2 (xnth_mem 122 rfl)) rfl
theorem kw2_124 : (Jvm.Cond.lays "PillarSaints$Reader" "PillarSaints$Reader" "pillars" "I") ∈ xTs := xTs_of (xt_2 (xnth_mem 124 rfl)) rfl
theorem kw2_126 : (Jvm.Cond.lays "PillarSaints$Reader" "PillarSaints$Reader" "saints" "I") ∈ xTs := xTs_of (xt_2 (xnth_mem 126 rfl)) rfl
theorem kw2_128 : (Jvm.Cond.lays "PillarSaints$Reader" "PillarSaints$Reader" "wrong" "I") ∈ xTs := xTs_of (xt_2 (xnth_mem 128 rfl)) rfl
theorem kw2_130 : (Jvm.Cond.lays "PillarSaints$Reader" "PillarSaints$Reader" "wrongPlace" "I") ∈ xTs := xTs_of (xt_2 (xnth_mem 130 rfl)) rfl
theorem kw2_133 : (Jvm.Cond.classLink "PillarSaints" (42 : Nat) "PillarSaints$Lap") ∈ xTs := xTs_of (xt_2 (xnth_mem 133 rfl)) rfl
theorem kw2_134 : (Jvm.Cond.instantiable "PillarSaints$Lap" (2 : Nat)) ∈ xTs := xTs_of (xt_2 (xnth_mem 134 rfl)) rfl
theorem kw2_136 : (Jvm.Cond.instanceMethod ({ cls := "PillarSaints$Lap", name := "<init>", desc := "()V" } : Jvm.MethodName)) ∈ xTs := xTs_of (xt_2 (xnth_mem 136 rfl)) rfl
theorem kw2_137 : (Jvm.Cond.code ({ cls := "PillarSaints$Lap", name := "<init>", desc := "()V" } : Jvm.MethodName) prog_3_method_1_code (1 : Nat) (Option.none : Option Jvm.ClassFile.FieldType)) ∈ xTs := xTs_of (xt_2 (xnth_mem 137 rfl)) rfl
theorem kw2_138 : (Jvm.Cond.methodLink "PillarSaints$Lap" (3 : Nat) ({ cls := "java/lang/Object", name := "<init>", desc := "()V" } : Jvm.MethodName)) ∈ xTs := xTs_of (xt_2 (xnth_mem 138 rfl)) rfl
theorem kw2_139 : (Jvm.Cond.fieldLink "PillarSaints$Lap" (9 : Nat) "PillarSaints$Lap" "steps" "[I") ∈ xTs := xTs_of (xt_2 (xnth_mem 139 rfl)) rfl
theorem kw2_140 : (Jvm.Cond.fieldLink "PillarSaints" (290 : Nat) "PillarSaints$Lap" "steps" "[I") ∈ xTs := xTs_of (xt_2 (xnth_mem 140 rfl)) rfl
theorem kw2_141 : (Jvm.Cond.fieldLink "PillarSaints$Lap" (15 : Nat) "PillarSaints$Lap" "ways" "[I") ∈ xTs := xTs_of (xt_2 (xnth_mem 141 rfl)) rfl
theorem kw2_142 : (Jvm.Cond.fieldLink "PillarSaints" (293 : Nat) "PillarSaints$Lap" "ways" "[I") ∈ xTs := xTs_of (xt_2 (xnth_mem 142 rfl)) rfl
theorem kw2_143 : (Jvm.Cond.laysFinal "PillarSaints$Lap" "PillarSaints$Lap" "steps" "[I") ∈ xTs := xTs_of (xt_2 (xnth_mem 143 rfl)) rfl
theorem kw2_145 : (Jvm.Cond.laysFinal "PillarSaints$Lap" "PillarSaints$Lap" "ways" "[I") ∈ xTs := xTs_of (xt_2 (xnth_mem 145 rfl)) rfl
theorem kw2_148 : (Jvm.Cond.fieldLink "PillarSaints" (12 : Nat) "PillarSaints" "now" "LPillarSaints$Desert;") ∈ xTs := xTs_of (xt_2 (xnth_mem 148 rfl)) rfl
theorem kw2_149 : (Jvm.Cond.fieldLink "PillarSaints" (16 : Nat) "PillarSaints" "picture" "LPillarSaints$Desert;") ∈ xTs := xTs_of (xt_2 (xnth_mem 149 rfl)) rfl
theorem kw2_150 : (Jvm.Cond.fieldLink "PillarSaints" (24 : Nat) "PillarSaints" "thought" "LPillarSaints$World;") ∈ xTs := xTs_of (xt_2 (xnth_mem 150 rfl)) rfl
theorem kw2_151 : (Jvm.Cond.fieldLink "PillarSaints" (31 : Nat) "PillarSaints" "past" "LPillarSaints$Past;") ∈ xTs := xTs_of (xt_2 (xnth_mem 151 rfl)) rfl
theorem kw2_152 : (Jvm.Cond.fieldLink "PillarSaints" (38 : Nat) "PillarSaints" "reader" "LPillarSaints$Reader;") ∈ xTs := xTs_of (xt_2 (xnth_mem 152 rfl)) rfl
theorem kw2_153 : (Jvm.Cond.fieldLink "PillarSaints" (45 : Nat) "PillarSaints" "night" "LPillarSaints$Lap;") ∈ xTs := xTs_of (xt_2 (xnth_mem 153 rfl)) rfl
theorem kw2_154 : (Jvm.Cond.fieldLink "PillarSaints" (49 : Nat) "PillarSaints" "tape" "[B") ∈ xTs := xTs_of (xt_2 (xnth_mem 154 rfl)) rfl
theorem kw2_155 : (Jvm.Cond.fieldLink "PillarSaints" (118 : Nat) "PillarSaints" "tapeLength" "I") ∈ xTs := xTs_of (xt_2 (xnth_mem 155 rfl)) rfl
theorem kw2_156 : (Jvm.Cond.fieldLink "PillarSaints" (309 : Nat) "PillarSaints" "pictured" "Z") ∈ xTs := xTs_of (xt_2 (xnth_mem 156 rfl)) rfl
theorem kw2_157 : (Jvm.Cond.laysFinal "PillarSaints" "PillarSaints" "now" "LPillarSaints$Desert;") ∈ xTs := xTs_of (xt_2 (xnth_mem 157 rfl)) rfl
theorem kw2_159 : (Jvm.Cond.laysFinal "PillarSaints" "PillarSaints" "picture" "LPillarSaints$Desert;") ∈ xTs := xTs_of (xt_2 (xnth_mem 159 rfl)) rfl
theorem kw2_161 : (Jvm.Cond.laysFinal "PillarSaints" "PillarSaints" "thought" "LPillarSaints$World;") ∈ xTs := xTs_of (xt_2 (xnth_mem 161 rfl)) rfl
theorem kw2_163 : (Jvm.Cond.laysFinal "PillarSaints" "PillarSaints" "past" "LPillarSaints$Past;") ∈ xTs := xTs_of (xt_2 (xnth_mem 163 rfl)) rfl
theorem kw2_165 : (Jvm.Cond.laysFinal "PillarSaints" "PillarSaints" "reader" "LPillarSaints$Reader;") ∈ xTs := xTs_of (xt_2 (xnth_mem 165 rfl)) rfl
theorem kw2_167 : (Jvm.Cond.laysFinal "PillarSaints" "PillarSaints" "night" "LPillarSaints$Lap;") ∈ xTs := xTs_of (xt_2 (xnth_mem 167 rfl)) rfl
theorem kw2_169 : (Jvm.Cond.laysFinal "PillarSaints" "PillarSaints" "tape" "[B") ∈ xTs := xTs_of (xt_2 (xnth_mem 169 rfl)) rfl
theorem kw2_171 : (Jvm.Cond.lays "PillarSaints" "PillarSaints" "tapeLength" "I") ∈ xTs := xTs_of (xt_2 (xnth_mem 171 rfl)) rfl
theorem kw2_173 : (Jvm.Cond.lays "PillarSaints" "PillarSaints" "pictured" "Z") ∈ xTs := xTs_of (xt_2 (xnth_mem 173 rfl)) rfl
theorem kw2_176 : (Jvm.Cond.arrayClass Jvm.ClassFile.FieldType.byte) ∈ xTs := xTs_of (xt_2 (xnth_mem 176 rfl)) rfl
theorem kw2_177 : (Jvm.Cond.methodLink "PillarSaintsLaw" (13 : Nat) ({ cls := "PillarSaints", name := "state", desc := "(I)I" } : Jvm.MethodName)) ∈ xTs := xTs_of (xt_2 (xnth_mem 177 rfl)) rfl
theorem kw2_178 : (Jvm.Cond.instanceMethod ({ cls := "PillarSaints", name := "state", desc := "(I)I" } : Jvm.MethodName)) ∈ xTs := xTs_of (xt_2 (xnth_mem 178 rfl)) rfl
theorem kw2_179 : (Jvm.Cond.selects "PillarSaints" ({ cls := "PillarSaints", name := "state", desc := "(I)I" } : Jvm.MethodName) ({ cls := "PillarSaints", name := "state", desc := "(I)I" } : Jvm.MethodName)) ∈ xTs := xTs_of (xt_2 (xnth_mem 179 rfl)) rfl
theorem kw2_180 : (Jvm.Cond.code ({ cls := "PillarSaints", name := "state", desc := "(I)I" } : Jvm.MethodName) prog_1_method_2_code (3 : Nat) (Option.some Jvm.ClassFile.FieldType.int)) ∈ xTs := xTs_of (xt_2 (xnth_mem 180 rfl)) rfl
theorem kw2_181 : (Jvm.Cond.methodLink "PillarSaints" (60 : Nat) ({ cls := "PillarSaints$Past", name := "forget", desc := "()V" } : Jvm.MethodName)) ∈ xTs := xTs_of (xt_2 (xnth_mem 181 rfl)) rfl
theorem kw2_182 : (Jvm.Cond.instanceMethod ({ cls := "PillarSaints$Past", name := "forget", desc := "()V" } : Jvm.MethodName)) ∈ xTs := xTs_of (xt_2 (xnth_mem 182 rfl)) rfl
theorem kw2_183 : (Jvm.Cond.selects "PillarSaints$Past" ({ cls := "PillarSaints$Past", name := "forget", desc := "()V" } : Jvm.MethodName) ({ cls := "PillarSaints$Past", name := "forget", desc := "()V" } : Jvm.MethodName)) ∈ xTs := xTs_of (xt_2 (xnth_mem 183 rfl)) rfl
theorem kw2_184 : (Jvm.Cond.code ({ cls := "PillarSaints$Past", name := "forget", desc := "()V" } : Jvm.MethodName) prog_5_method_4_code (1 : Nat) (Option.none : Option Jvm.ClassFile.FieldType)) ∈ xTs := xTs_of (xt_2 (xnth_mem 184 rfl)) rfl
theorem kw2_185 : (Jvm.Cond.methodLink "PillarSaintsLaw" (18 : Nat) ({ cls := "PillarSaints", name := "pillar", desc := "(I)I" } : Jvm.MethodName)) ∈ xTs := xTs_of (xt_2 (xnth_mem 185 rfl)) rfl
theorem kw2_186 : (Jvm.Cond.instanceMethod ({ cls := "PillarSaints", name := "pillar", desc := "(I)I" } : Jvm.MethodName)) ∈ xTs := xTs_of (xt_2 (xnth_mem 186 rfl)) rfl
theorem kw2_187 : (Jvm.Cond.selects "PillarSaints" ({ cls := "PillarSaints", name := "pillar", desc := "(I)I" } : Jvm.MethodName) ({ cls := "PillarSaints", name := "pillar", desc := "(I)I" } : Jvm.MethodName)) ∈ xTs := xTs_of (xt_2 (xnth_mem 187 rfl)) rfl
theorem kw2_188 : (Jvm.Cond.code ({ cls := "PillarSaints", name := "pillar", desc := "(I)I" } : Jvm.MethodName) prog_1_method_3_code (2 : Nat) (Option.some Jvm.ClassFile.FieldType.int)) ∈ xTs := xTs_of (xt_2 (xnth_mem 188 rfl)) rfl
theorem kw2_189 : (Jvm.Cond.methodLink "PillarSaints" (66 : Nat) ({ cls := "PillarSaints$World", name := "addPillar", desc := "(I)I" } : Jvm.MethodName)) ∈ xTs := xTs_of (xt_2 (xnth_mem 189 rfl)) rfl
theorem kw2_190 : (Jvm.Cond.instanceMethod ({ cls := "PillarSaints$World", name := "addPillar", desc := "(I)I" } : Jvm.MethodName)) ∈ xTs := xTs_of (xt_2 (xnth_mem 190 rfl)) rfl
theorem kw2_191 : (Jvm.Cond.selects "PillarSaints$World" ({ cls := "PillarSaints$World", name := "addPillar", desc := "(I)I" } : Jvm.MethodName) ({ cls := "PillarSaints$World", name := "addPillar", desc := "(I)I" } : Jvm.MethodName)) ∈ xTs := xTs_of (xt_2 (xnth_mem 191 rfl)) rfl
theorem kw2_192 : (Jvm.Cond.code ({ cls := "PillarSaints$World", name := "addPillar", desc := "(I)I" } : Jvm.MethodName) prog_11_method_10_code (3 : Nat) (Option.some Jvm.ClassFile.FieldType.int)) ∈ xTs := xTs_of (xt_2 (xnth_mem 192 rfl)) rfl
theorem kw2_193 : (Jvm.Cond.methodLink "PillarSaints$World" (92 : Nat) ({ cls := "PillarSaints$World", name := "climb", desc := "()V" } : Jvm.MethodName)) ∈ xTs := xTs_of (xt_2 (xnth_mem 193 rfl)) rfl
theorem kw2_194 : (Jvm.Cond.instanceMethod ({ cls := "PillarSaints$World", name := "climb", desc := "()V" } : Jvm.MethodName)) ∈ xTs := xTs_of (xt_2 (xnth_mem 194 rfl)) rfl
theorem kw2_195 : (Jvm.Cond.selects "PillarSaints$World" ({ cls := "PillarSaints$World", name := "climb", desc := "()V" } : Jvm.MethodName) ({ cls := "PillarSaints$World", name := "climb", desc := "()V" } : Jvm.MethodName)) ∈ xTs := xTs_of (xt_2 (xnth_mem 195 rfl)) rfl
theorem kw2_196 : (Jvm.Cond.code ({ cls := "PillarSaints$World", name := "climb", desc := "()V" } : Jvm.MethodName) prog_11_method_20_code (3 : Nat) (Option.none : Option Jvm.ClassFile.FieldType)) ∈ xTs := xTs_of (xt_2 (xnth_mem 196 rfl)) rfl
theorem kw2_197 : (Jvm.Cond.methodLink "PillarSaints$World" (121 : Nat) ({ cls := "PillarSaints$World", name := "nextBelow", desc := "(I)I" } : Jvm.MethodName)) ∈ xTs := xTs_of (xt_2 (xnth_mem 197 rfl)) rfl
theorem kw2_199 : (Jvm.Cond.instanceMethod ({ cls := "PillarSaints$World", name := "nextBelow", desc := "(I)I" } : Jvm.MethodName)) ∈ xTs := xTs_of (xt_2 (xnth_mem 199 rfl)) rfl
theorem kw2_200 : (Jvm.Cond.code ({ cls := "PillarSaints$World", name := "nextBelow", desc := "(I)I" } : Jvm.MethodName) prog_11_method_21_code (4 : Nat) (Option.some Jvm.ClassFile.FieldType.int)) ∈ xTs := xTs_of (xt_2 (xnth_mem 200 rfl)) rfl
theorem kw2_201 : (Jvm.Cond.methodLink "PillarSaints$World" (124 : Nat) ({ cls := "PillarSaints$World", name := "leaveGround", desc := "(I)V" } : Jvm.MethodName)) ∈ xTs := xTs_of (xt_2 (xnth_mem 201 rfl)) rfl
theorem kw2_203 : (Jvm.Cond.instanceMethod ({ cls := "PillarSaints$World", name := "leaveGround", desc := "(I)V" } : Jvm.MethodName)) ∈ xTs := xTs_of (xt_2 (xnth_mem 203 rfl)) rfl
theorem kw2_204 : (Jvm.Cond.code ({ cls := "PillarSaints$World", name := "leaveGround", desc := "(I)V" } : Jvm.MethodName) prog_11_method_19_code (3 : Nat) (Option.none : Option Jvm.ClassFile.FieldType)) ∈ xTs := xTs_of (xt_2 (xnth_mem 204 rfl)) rfl
theorem kw2_205 : (Jvm.Cond.methodLink "PillarSaints$World" (114 : Nat) ({ cls := "PillarSaints$World", name := "note", desc := "(III)V" } : Jvm.MethodName)) ∈ xTs := xTs_of (xt_2 (xnth_mem 205 rfl)) rfl
theorem kw2_206 : (Jvm.Cond.instanceMethod ({ cls := "PillarSaints$World", name := "note", desc := "(III)V" } : Jvm.MethodName)) ∈ xTs := xTs_of (xt_2 (xnth_mem 206 rfl)) rfl
theorem kw2_207 : (Jvm.Cond.selects "PillarSaints$World" ({ cls := "PillarSaints$World", name := "note", desc := "(III)V" } : Jvm.MethodName) ({ cls := "PillarSaints$World", name := "note", desc := "(III)V" } : Jvm.MethodName)) ∈ xTs := xTs_of (xt_2 (xnth_mem 207 rfl)) rfl
theorem kw2_208 : (Jvm.Cond.code ({ cls := "PillarSaints$World", name := "note", desc := "(III)V" } : Jvm.MethodName) prog_11_method_26_code (5 : Nat) (Option.none : Option Jvm.ClassFile.FieldType)) ∈ xTs := xTs_of (xt_2 (xnth_mem 208 rfl)) rfl
theorem kw2_209 : (Jvm.Cond.methodLink "PillarSaintsLaw" (22 : Nat) ({ cls := "PillarSaints", name := "saint", desc := "(III)I" } : Jvm.MethodName)) ∈ xTs := xTs_of (xt_2 (xnth_mem 209 rfl)) rfl
theorem kw2_210 : (Jvm.Cond.instanceMethod ({ cls := "PillarSaints", name := "saint", desc := "(III)I" } : Jvm.MethodName)) ∈ xTs := xTs_of (xt_2 (xnth_mem 210 rfl)) rfl
theorem kw2_211 : (Jvm.Cond.selects "PillarSaints" ({ cls := "PillarSaints", name := "saint", desc := "(III)I" } : Jvm.MethodName) ({ cls := "PillarSaints", name := "saint", desc := "(III)I" } : Jvm.MethodName)) ∈ xTs := xTs_of (xt_2 (xnth_mem 211 rfl)) rfl
theorem kw2_212 : (Jvm.Cond.code ({ cls := "PillarSaints", name := "saint", desc := "(III)I" } : Jvm.MethodName) prog_1_method_4_code (5 : Nat) (Option.some Jvm.ClassFile.FieldType.int)) ∈ xTs := xTs_of (xt_2 (xnth_mem 212 rfl)) rfl
theorem kw2_213 : (Jvm.Cond.methodLink "PillarSaints" (70 : Nat) ({ cls := "PillarSaints", name := "within", desc := "(III)Z" } : Jvm.MethodName)) ∈ xTs := xTs_of (xt_2 (xnth_mem 213 rfl)) rfl
theorem kw2_214 : (Jvm.Cond.static ({ cls := "PillarSaints", name := "within", desc := "(III)Z" } : Jvm.MethodName)) ∈ xTs := xTs_of (xt_2 (xnth_mem 214 rfl)) rfl
theorem kw2_215 : (Jvm.Cond.code ({ cls := "PillarSaints", name := "within", desc := "(III)Z" } : Jvm.MethodName) prog_1_method_36_code (3 : Nat) (Option.some Jvm.ClassFile.FieldType.boolean)) ∈ xTs := xTs_of (xt_2 (xnth_mem 215 rfl)) rfl
theorem kw2_216 : (Jvm.Cond.methodLink "PillarSaints" (77 : Nat) ({ cls := "PillarSaints$World", name := "addSaint", desc := "(III)I" } : Jvm.MethodName)) ∈ xTs := xTs_of (xt_2 (xnth_mem 216 rfl)) rfl
theorem kw2_217 : (Jvm.Cond.instanceMethod ({ cls := "PillarSaints$World", name := "addSaint", desc := "(III)I" } : Jvm.MethodName)) ∈ xTs := xTs_of (xt_2 (xnth_mem 217 rfl)) rfl
theorem kw2_218 : (Jvm.Cond.selects "PillarSaints$World" ({ cls := "PillarSaints$World", name := "addSaint", desc := "(III)I" } : Jvm.MethodName) ({ cls := "PillarSaints$World", name := "addSaint", desc := "(III)I" } : Jvm.MethodName)) ∈ xTs := xTs_of (xt_2 (xnth_mem 218 rfl)) rfl
theorem kw2_219 : (Jvm.Cond.code ({ cls := "PillarSaints$World", name := "addSaint", desc := "(III)I" } : Jvm.MethodName) prog_11_method_11_code (5 : Nat) (Option.some Jvm.ClassFile.FieldType.int)) ∈ xTs := xTs_of (xt_2 (xnth_mem 219 rfl)) rfl
theorem kw2_220 : (Jvm.Cond.methodLink "PillarSaints$World" (95 : Nat) ({ cls := "PillarSaints$World", name := "joinGround", desc := "(I)V" } : Jvm.MethodName)) ∈ xTs := xTs_of (xt_2 (xnth_mem 220 rfl)) rfl
theorem kw2_222 : (Jvm.Cond.instanceMethod ({ cls := "PillarSaints$World", name := "joinGround", desc := "(I)V" } : Jvm.MethodName)) ∈ xTs := xTs_of (xt_2 (xnth_mem 222 rfl)) rfl
theorem kw2_223 : (Jvm.Cond.code ({ cls := "PillarSaints$World", name := "joinGround", desc := "(I)V" } : Jvm.MethodName) prog_11_method_18_code (2 : Nat) (Option.none : Option Jvm.ClassFile.FieldType)) ∈ xTs := xTs_of (xt_2 (xnth_mem 223 rfl)) rfl
theorem kw2_224 : (Jvm.Cond.methodLink "PillarSaintsLaw" (27 : Nat) ({ cls := "PillarSaints", name := "set", desc := "(III)Z" } : Jvm.MethodName)) ∈ xTs := xTs_of (xt_2 (xnth_mem 224 rfl)) rfl
theorem kw2_225 : (Jvm.Cond.instanceMethod ({ cls := "PillarSaints", name := "set", desc := "(III)Z" } : Jvm.MethodName)) ∈ xTs := xTs_of (xt_2 (xnth_mem 225 rfl)) rfl
theorem kw2_226 : (Jvm.Cond.selects "PillarSaints" ({ cls := "PillarSaints", name := "set", desc := "(III)Z" } : Jvm.MethodName) ({ cls := "PillarSaints", name := "set", desc := "(III)Z" } : Jvm.MethodName)) ∈ xTs := xTs_of (xt_2 (xnth_mem 226 rfl)) rfl
theorem kw2_227 : (Jvm.Cond.code ({ cls := "PillarSaints", name := "set", desc := "(III)Z" } : Jvm.MethodName) prog_1_method_5_code (4 : Nat) (Option.some Jvm.ClassFile.FieldType.boolean)) ∈ xTs := xTs_of (xt_2 (xnth_mem 227 rfl)) rfl
theorem kw2_228 : (Jvm.Cond.methodLink "PillarSaints" (81 : Nat) ({ cls := "PillarSaints$World", name := "change", desc := "(III)Z" } : Jvm.MethodName)) ∈ xTs := xTs_of (xt_2 (xnth_mem 228 rfl)) rfl
theorem kw2_229 : (Jvm.Cond.instanceMethod ({ cls := "PillarSaints$World", name := "change", desc := "(III)Z" } : Jvm.MethodName)) ∈ xTs := xTs_of (xt_2 (xnth_mem 229 rfl)) rfl
theorem kw2_230 : (Jvm.Cond.selects "PillarSaints$World" ({ cls := "PillarSaints$World", name := "change", desc := "(III)Z" } : Jvm.MethodName) ({ cls := "PillarSaints$World", name := "change", desc := "(III)Z" } : Jvm.MethodName)) ∈ xTs := xTs_of (xt_2 (xnth_mem 230 rfl)) rfl
theorem kw2_231 : (Jvm.Cond.code ({ cls := "PillarSaints$World", name := "change", desc := "(III)Z" } : Jvm.MethodName) prog_11_method_12_code (4 : Nat) (Option.some Jvm.ClassFile.FieldType.boolean)) ∈ xTs := xTs_of (xt_2 (xnth_mem 231 rfl)) rfl
theorem kw2_233 : (Jvm.Cond.methodLink "PillarSaints$World" (103 : Nat) ({ cls := "PillarSaints$World", name := "isSaint", desc := "(I)Z" } : Jvm.MethodName)) ∈ xTs := xTs_of (xt_2 (xnth_mem 233 rfl)) rfl
theorem kw2_234 : (Jvm.Cond.instanceMethod ({ cls := "PillarSaints$World", name := "isSaint", desc := "(I)Z" } : Jvm.MethodName)) ∈ xTs := xTs_of (xt_2 (xnth_mem 234 rfl)) rfl
theorem kw2_235 : (Jvm.Cond.selects "PillarSaints$World" ({ cls := "PillarSaints$World", name := "isSaint", desc := "(I)Z" } : Jvm.MethodName) ({ cls := "PillarSaints$World", name := "isSaint", desc := "(I)Z" } : Jvm.MethodName)) ∈ xTs := xTs_of (xt_2 (xnth_mem 235 rfl)) rfl
theorem kw2_236 : (Jvm.Cond.code ({ cls := "PillarSaints$World", name := "isSaint", desc := "(I)Z" } : Jvm.MethodName) prog_11_method_4_code (2 : Nat) (Option.some Jvm.ClassFile.FieldType.boolean)) ∈ xTs := xTs_of (xt_2 (xnth_mem 236 rfl)) rfl
theorem kw2_237 : (Jvm.Cond.methodLink "PillarSaintsLaw" (32 : Nat) ({ cls := "PillarSaints", name := "act", desc := "(III)Z" } : Jvm.MethodName)) ∈ xTs := xTs_of (xt_2 (xnth_mem 237 rfl)) rfl
theorem kw2_238 : (Jvm.Cond.instanceMethod ({ cls := "PillarSaints", name := "act", desc := "(III)Z" } : Jvm.MethodName)) ∈ xTs := xTs_of (xt_2 (xnth_mem 238 rfl)) rfl
theorem kw2_239 : (Jvm.Cond.selects "PillarSaints" ({ cls := "PillarSaints", name := "act", desc := "(III)Z" } : Jvm.MethodName) ({ cls := "PillarSaints", name := "act", desc := "(III)Z" } : Jvm.MethodName)) ∈ xTs := xTs_of (xt_2 (xnth_mem 239 rfl)) rfl
theorem kw3_0 : (Jvm.Cond.code ({ cls := "PillarSaints", name := "act", desc := "(III)Z" } : Jvm.MethodName) prog_1_method_6_code (5 : Nat) (Option.some Jvm.ClassFile.FieldType.boolean)) ∈ xTs := xTs_of (xt_3 (xnth_mem 0 rfl)) rfl
theorem kw3_1 : (Jvm.Cond.methodLink "PillarSaints" (84 : Nat) ({ cls := "PillarSaints$World", name := "canDo", desc := "(III)Z" } : Jvm.MethodName)) ∈ xTs := xTs_of (xt_3 (xnth_mem 1 rfl)) rfl
theorem kw3_2 : (Jvm.Cond.instanceMethod ({ cls := "PillarSaints$World", name := "canDo", desc := "(III)Z" } : Jvm.MethodName)) ∈ xTs := xTs_of (xt_3 (xnth_mem 2 rfl)) rfl
theorem kw3_3 : (Jvm.Cond.selects "PillarSaints$World" ({ cls := "PillarSaints$World", name := "canDo", desc := "(III)Z" } : Jvm.MethodName) ({ cls := "PillarSaints$World", name := "canDo", desc := "(III)Z" } : Jvm.MethodName)) ∈ xTs := xTs_of (xt_3 (xnth_mem 3 rfl)) rfl
theorem kw3_4 : (Jvm.Cond.code ({ cls := "PillarSaints$World", name := "canDo", desc := "(III)Z" } : Jvm.MethodName) prog_11_method_13_code (4 : Nat) (Option.some Jvm.ClassFile.FieldType.boolean)) ∈ xTs := xTs_of (xt_3 (xnth_mem 4 rfl)) rfl
theorem kw3_5 : (Jvm.Cond.methodLink "PillarSaints$World" (106 : Nat) ({ cls := "PillarSaints$World", name := "highest", desc := "()I" } : Jvm.MethodName)) ∈ xTs := xTs_of (xt_3 (xnth_mem 5 rfl)) rfl
theorem kw3_6 : (Jvm.Cond.instanceMethod ({ cls := "PillarSaints$World", name := "highest", desc := "()I" } : Jvm.MethodName)) ∈ xTs := xTs_of (xt_3 (xnth_mem 6 rfl)) rfl
theorem kw3_7 : (Jvm.Cond.selects "PillarSaints$World" ({ cls := "PillarSaints$World", name := "highest", desc := "()I" } : Jvm.MethodName) ({ cls := "PillarSaints$World", name := "highest", desc := "()I" } : Jvm.MethodName)) ∈ xTs := xTs_of (xt_3 (xnth_mem 7 rfl)) rfl
theorem kw3_8 : (Jvm.Cond.code ({ cls := "PillarSaints$World", name := "highest", desc := "()I" } : Jvm.MethodName) prog_11_method_9_code (2 : Nat) (Option.some Jvm.ClassFile.FieldType.int)) ∈ xTs := xTs_of (xt_3 (xnth_mem 8 rfl)) rfl
theorem kw3_9 : (Jvm.Cond.methodLink "PillarSaints$World" (110 : Nat) ({ cls := "PillarSaints$World", name := "pillarOf", desc := "(I)I" } : Jvm.MethodName)) ∈ xTs := xTs_of (xt_3 (xnth_mem 9 rfl)) rfl
theorem kw3_10 : (Jvm.Cond.instanceMethod ({ cls := "PillarSaints$World", name := "pillarOf", desc := "(I)I" } : Jvm.MethodName)) ∈ xTs := xTs_of (xt_3 (xnth_mem 10 rfl)) rfl
theorem kw3_11 : (Jvm.Cond.selects "PillarSaints$World" ({ cls := "PillarSaints$World", name := "pillarOf", desc := "(I)I" } : Jvm.MethodName) ({ cls := "PillarSaints$World", name := "pillarOf", desc := "(I)I" } : Jvm.MethodName)) ∈ xTs := xTs_of (xt_3 (xnth_mem 11 rfl)) rfl
theorem kw3_12 : (Jvm.Cond.code ({ cls := "PillarSaints$World", name := "pillarOf", desc := "(I)I" } : Jvm.MethodName) prog_11_method_7_code (3 : Nat) (Option.some Jvm.ClassFile.FieldType.int)) ∈ xTs := xTs_of (xt_3 (xnth_mem 12 rfl)) rfl
theorem kw3_13 : (Jvm.Cond.methodLink "PillarSaints$World" (88 : Nat) ({ cls := "PillarSaints$World", name := "isPillar", desc := "(I)Z" } : Jvm.MethodName)) ∈ xTs := xTs_of (xt_3 (xnth_mem 13 rfl)) rfl
theorem kw3_14 : (Jvm.Cond.instanceMethod ({ cls := "PillarSaints$World", name := "isPillar", desc := "(I)Z" } : Jvm.MethodName)) ∈ xTs := xTs_of (xt_3 (xnth_mem 14 rfl)) rfl
theorem kw3_15 : (Jvm.Cond.selects "PillarSaints$World" ({ cls := "PillarSaints$World", name := "isPillar", desc := "(I)Z" } : Jvm.MethodName) ({ cls := "PillarSaints$World", name := "isPillar", desc := "(I)Z" } : Jvm.MethodName)) ∈ xTs := xTs_of (xt_3 (xnth_mem 15 rfl)) rfl
theorem kw3_16 : (Jvm.Cond.code ({ cls := "PillarSaints$World", name := "isPillar", desc := "(I)Z" } : Jvm.MethodName) prog_11_method_3_code (2 : Nat) (Option.some Jvm.ClassFile.FieldType.boolean)) ∈ xTs := xTs_of (xt_3 (xnth_mem 16 rfl)) rfl
theorem kw3_17 : (Jvm.Cond.methodLink "PillarSaints" (87 : Nat) ({ cls := "PillarSaints$Past", name := "keep", desc := "(LPillarSaints$World;)V" } : Jvm.MethodName)) ∈ xTs := xTs_of (xt_3 (xnth_mem 17 rfl)) rfl
theorem kw3_18 : (Jvm.Cond.instanceMethod ({ cls := "PillarSaints$Past", name := "keep", desc := "(LPillarSaints$World;)V" } : Jvm.MethodName)) ∈ xTs := xTs_of (xt_3 (xnth_mem 18 rfl)) rfl
theorem kw3_19 : (Jvm.Cond.selects "PillarSaints$Past" ({ cls := "PillarSaints$Past", name := "keep", desc := "(LPillarSaints$World;)V" } : Jvm.MethodName) ({ cls := "PillarSaints$Past", name := "keep", desc := "(LPillarSaints$World;)V" } : Jvm.MethodName)) ∈ xTs := xTs_of (xt_3 (xnth_mem 19 rfl)) rfl
theorem kw3_20 : (Jvm.Cond.code ({ cls := "PillarSaints$Past", name := "keep", desc := "(LPillarSaints$World;)V" } : Jvm.MethodName) prog_5_method_2_code (3 : Nat) (Option.none : Option Jvm.ClassFile.FieldType)) ∈ xTs := xTs_of (xt_3 (xnth_mem 20 rfl)) rfl
theorem kw3_21 : (Jvm.Cond.methodLink "PillarSaints$Past" (24 : Nat) ({ cls := "PillarSaints$Past", name := "forgetOldest", desc := "()V" } : Jvm.MethodName)) ∈ xTs := xTs_of (xt_3 (xnth_mem 21 rfl)) rfl
theorem kw3_23 : (Jvm.Cond.instanceMethod ({ cls := "PillarSaints$Past", name := "forgetOldest", desc := "()V" } : Jvm.MethodName)) ∈ xTs := xTs_of (xt_3 (xnth_mem 23 rfl)) rfl
theorem kw3_24 : (Jvm.Cond.code ({ cls := "PillarSaints$Past", name := "forgetOldest", desc := "()V" } : Jvm.MethodName) prog_5_method_3_code (3 : Nat) (Option.none : Option Jvm.ClassFile.FieldType)) ∈ xTs := xTs_of (xt_3 (xnth_mem 24 rfl)) rfl
theorem kw3_25 : (Jvm.Cond.methodLink "PillarSaints$Past" (27 : Nat) ({ cls := "PillarSaints$World", name := "copyFrom", desc := "(LPillarSaints$World;)V" } : Jvm.MethodName)) ∈ xTs := xTs_of (xt_3 (xnth_mem 25 rfl)) rfl
theorem kw3_26 : (Jvm.Cond.instanceMethod ({ cls := "PillarSaints$World", name := "copyFrom", desc := "(LPillarSaints$World;)V" } : Jvm.MethodName)) ∈ xTs := xTs_of (xt_3 (xnth_mem 26 rfl)) rfl
theorem kw3_27 : (Jvm.Cond.selects "PillarSaints$World" ({ cls := "PillarSaints$World", name := "copyFrom", desc := "(LPillarSaints$World;)V" } : Jvm.MethodName) ({ cls := "PillarSaints$World", name := "copyFrom", desc := "(LPillarSaints$World;)V" } : Jvm.MethodName)) ∈ xTs := xTs_of (xt_3 (xnth_mem 27 rfl)) rfl
theorem kw3_28 : (Jvm.Cond.code ({ cls := "PillarSaints$World", name := "copyFrom", desc := "(LPillarSaints$World;)V" } : Jvm.MethodName) prog_11_method_2_code (2 : Nat) (Option.none : Option Jvm.ClassFile.FieldType)) ∈ xTs := xTs_of (xt_3 (xnth_mem 28 rfl)) rfl
theorem kw3_29 : (Jvm.Cond.methodLink "PillarSaints$World" (45 : Nat) ({ cls := "java/lang/Math", name := "min", desc := "(II)I" } : Jvm.MethodName)) ∈ xTs := xTs_of (xt_3 (xnth_mem 29 rfl)) rfl
theorem kw3_30 : (Jvm.Cond.static ({ cls := "java/lang/Math", name := "min", desc := "(II)I" } : Jvm.MethodName)) ∈ xTs := xTs_of (xt_3 (xnth_mem 30 rfl)) rfl
theorem kw3_31 : (Jvm.Cond.code ({ cls := "java/lang/Math", name := "min", desc := "(II)I" } : Jvm.MethodName) prog_16_method_69_code (2 : Nat) (Option.some Jvm.ClassFile.FieldType.int)) ∈ xTs := xTs_of (xt_3 (xnth_mem 31 rfl)) rfl
theorem kw3_32 : (Jvm.Cond.methodLink "PillarSaints$World" (51 : Nat) ({ cls := "java/lang/System", name := "arraycopy", desc := "(Ljava/lang/Object;ILjava/lang/Object;II)V" } : Jvm.MethodName)) ∈ xTs := xTs_of (xt_3 (xnth_mem 32 rfl)) rfl
theorem kw3_33 : (Jvm.Cond.static ({ cls := "java/lang/System", name := "arraycopy", desc := "(Ljava/lang/Object;ILjava/lang/Object;II)V" } : Jvm.MethodName)) ∈ xTs := xTs_of (xt_3 (xnth_mem 33 rfl)) rfl
theorem kw3_34 : (Jvm.Cond.native ({ cls := "java/lang/System", name := "arraycopy", desc := "(Ljava/lang/Object;ILjava/lang/Object;II)V" } : Jvm.MethodName)) ∈ xTs := xTs_of (xt_3 (xnth_mem 34 rfl)) rfl
theorem kw3_35 : (Jvm.Cond.methodLink "PillarSaints" (94 : Nat) ({ cls := "java/lang/Math", name := "min", desc := "(II)I" } : Jvm.MethodName)) ∈ xTs := xTs_of (xt_3 (xnth_mem 35 rfl)) rfl
theorem kw3_36 : (Jvm.Cond.methodLink "PillarSaints" (100 : Nat) ({ cls := "PillarSaints$World", name := "say", desc := "(I)V" } : Jvm.MethodName)) ∈ xTs := xTs_of (xt_3 (xnth_mem 36 rfl)) rfl
theorem kw3_37 : (Jvm.Cond.instanceMethod ({ cls := "PillarSaints$World", name := "say", desc := "(I)V" } : Jvm.MethodName)) ∈ xTs := xTs_of (xt_3 (xnth_mem 37 rfl)) rfl
theorem kw3_38 : (Jvm.Cond.selects "PillarSaints$World" ({ cls := "PillarSaints$World", name := "say", desc := "(I)V" } : Jvm.MethodName) ({ cls := "PillarSaints$World", name := "say", desc := "(I)V" } : Jvm.MethodName)) ∈ xTs := xTs_of (xt_3 (xnth_mem 38 rfl)) rfl
theorem kw3_39 : (Jvm.Cond.code ({ cls := "PillarSaints$World", name := "say", desc := "(I)V" } : Jvm.MethodName) prog_11_method_14_code (3 : Nat) (Option.none : Option Jvm.ClassFile.FieldType)) ∈ xTs := xTs_of (xt_3 (xnth_mem 39 rfl)) rfl
theorem kw3_40 : (Jvm.Cond.methodLink "PillarSaints" (104 : Nat) ({ cls := "PillarSaints$World", name := "goDown", desc := "(I)V" } : Jvm.MethodName)) ∈ xTs := xTs_of (xt_3 (xnth_mem 40 rfl)) rfl
theorem kw3_41 : (Jvm.Cond.instanceMethod ({ cls := "PillarSaints$World", name := "goDown", desc := "(I)V" } : Jvm.MethodName)) ∈ xTs := xTs_of (xt_3 (xnth_mem 41 rfl)) rfl
theorem kw3_42 : (Jvm.Cond.selects "PillarSaints$World" ({ cls := "PillarSaints$World", name := "goDown", desc := "(I)V" } : Jvm.MethodName) ({ cls := "PillarSaints$World", name := "goDown", desc := "(I)V" } : Jvm.MethodName)) ∈ xTs := xTs_of (xt_3 (xnth_mem 42 rfl)) rfl
theorem kw3_43 : (Jvm.Cond.code ({ cls := "PillarSaints$World", name := "goDown", desc := "(I)V" } : Jvm.MethodName) prog_11_method_16_code (3 : Nat) (Option.none : Option Jvm.ClassFile.FieldType)) ∈ xTs := xTs_of (xt_3 (xnth_mem 43 rfl)) rfl
theorem kw3_44 : (Jvm.Cond.methodLink "PillarSaints" (107 : Nat) ({ cls := "PillarSaints$World", name := "raise", desc := "(II)V" } : Jvm.MethodName)) ∈ xTs := xTs_of (xt_3 (xnth_mem 44 rfl)) rfl
theorem kw3_45 : (Jvm.Cond.instanceMethod ({ cls := "PillarSaints$World", name := "raise", desc := "(II)V" } : Jvm.MethodName)) ∈ xTs := xTs_of (xt_3 (xnth_mem 45 rfl)) rfl
theorem kw3_46 : (Jvm.Cond.selects "PillarSaints$World" ({ cls := "PillarSaints$World", name := "raise", desc := "(II)V" } : Jvm.MethodName) ({ cls := "PillarSaints$World", name := "raise", desc := "(II)V" } : Jvm.MethodName)) ∈ xTs := xTs_of (xt_3 (xnth_mem 46 rfl)) rfl
theorem kw3_47 : (Jvm.Cond.code ({ cls := "PillarSaints$World", name := "raise", desc := "(II)V" } : Jvm.MethodName) prog_11_method_15_code (3 : Nat) (Option.none : Option Jvm.ClassFile.FieldType)) ∈ xTs := xTs_of (xt_3 (xnth_mem 47 rfl)) rfl
theorem kw3_48 : (Jvm.Cond.methodLink "PillarSaintsLaw" (36 : Nat) ({ cls := "PillarSaints", name := "days", desc := "(I)I" } : Jvm.MethodName)) ∈ xTs := xTs_of (xt_3 (xnth_mem 48 rfl)) rfl
theorem kw3_49 : (Jvm.Cond.instanceMethod ({ cls := "PillarSaints", name := "days", desc := "(I)I" } : Jvm.MethodName)) ∈ xTs := xTs_of (xt_3 (xnth_mem 49 rfl)) rfl
theorem kw3_50 : (Jvm.Cond.selects "PillarSaints" ({ cls := "PillarSaints", name := "days", desc := "(I)I" } : Jvm.MethodName) ({ cls := "PillarSaints", name := "days", desc := "(I)I" } : Jvm.MethodName)) ∈ xTs := xTs_of (xt_3 (xnth_mem 50 rfl)) rfl
theorem kw3_51 : (Jvm.Cond.code ({ cls := "PillarSaints", name := "days", desc := "(I)I" } : Jvm.MethodName) prog_1_method_7_code (5 : Nat) (Option.some Jvm.ClassFile.FieldType.int)) ∈ xTs := xTs_of (xt_3 (xnth_mem 51 rfl)) rfl
theorem kw3_52 : (Jvm.Cond.methodLink "PillarSaints" (114 : Nat) ({ cls := "PillarSaints$Desert", name := "passDay", desc := "(LPillarSaints$World;Z)I" } : Jvm.MethodName)) ∈ xTs := xTs_of (xt_3 (xnth_mem 52 rfl)) rfl
theorem kw3_53 : (Jvm.Cond.instanceMethod ({ cls := "PillarSaints$Desert", name := "passDay", desc := "(LPillarSaints$World;Z)I" } : Jvm.MethodName)) ∈ xTs := xTs_of (xt_3 (xnth_mem 53 rfl)) rfl
theorem kw3_54 : (Jvm.Cond.selects "PillarSaints$Desert" ({ cls := "PillarSaints$Desert", name := "passDay", desc := "(LPillarSaints$World;Z)I" } : Jvm.MethodName) ({ cls := "PillarSaints$Desert", name := "passDay", desc := "(LPillarSaints$World;Z)I" } : Jvm.MethodName)) ∈ xTs := xTs_of (xt_3 (xnth_mem 54 rfl)) rfl
theorem kw3_55 : (Jvm.Cond.code ({ cls := "PillarSaints$Desert", name := "passDay", desc := "(LPillarSaints$World;Z)I" } : Jvm.MethodName) prog_2_method_4_code (5 : Nat) (Option.some Jvm.ClassFile.FieldType.int)) ∈ xTs := xTs_of (xt_3 (xnth_mem 55 rfl)) rfl
theorem kw3_56 : (Jvm.Cond.methodLink "PillarSaints$Desert" (80 : Nat) ({ cls := "PillarSaints$Plan", name := "carryOut", desc := "(LPillarSaints$World;)V" } : Jvm.MethodName)) ∈ xTs := xTs_of (xt_3 (xnth_mem 56 rfl)) rfl
theorem kw3_57 : (Jvm.Cond.instanceMethod ({ cls := "PillarSaints$Plan", name := "carryOut", desc := "(LPillarSaints$World;)V" } : Jvm.MethodName)) ∈ xTs := xTs_of (xt_3 (xnth_mem 57 rfl)) rfl
theorem kw3_58 : (Jvm.Cond.selects "PillarSaints$Plan" ({ cls := "PillarSaints$Plan", name := "carryOut", desc := "(LPillarSaints$World;)V" } : Jvm.MethodName) ({ cls := "PillarSaints$Plan", name := "carryOut", desc := "(LPillarSaints$World;)V" } : Jvm.MethodName)) ∈ xTs := xTs_of (xt_3 (xnth_mem 58 rfl)) rfl
theorem kw3_59 : (Jvm.Cond.code ({ cls := "PillarSaints$Plan", name := "carryOut", desc := "(LPillarSaints$World;)V" } : Jvm.MethodName) prog_6_method_4_code (4 : Nat) (Option.none : Option Jvm.ClassFile.FieldType)) ∈ xTs := xTs_of (xt_3 (xnth_mem 59 rfl)) rfl
theorem kw3_60 : (Jvm.Cond.methodLink "PillarSaints$Plan" (38 : Nat) ({ cls := "PillarSaints$Plan", name := "carryOutLine", desc := "(ILPillarSaints$World;)V" } : Jvm.MethodName)) ∈ xTs := xTs_of (xt_3 (xnth_mem 60 rfl)) rfl
theorem kw3_62 : (Jvm.Cond.instanceMethod ({ cls := "PillarSaints$Plan", name := "carryOutLine", desc := "(ILPillarSaints$World;)V" } : Jvm.MethodName)) ∈ xTs := xTs_of (xt_3 (xnth_mem 62 rfl)) rfl
theorem kw3_63 : (Jvm.Cond.code ({ cls := "PillarSaints$Plan", name := "carryOutLine", desc := "(ILPillarSaints$World;)V" } : Jvm.MethodName) prog_6_method_5_code (3 : Nat) (Option.none : Option Jvm.ClassFile.FieldType)) ∈ xTs := xTs_of (xt_3 (xnth_mem 63 rfl)) rfl
theorem kw3_64 : (Jvm.Cond.methodLink "PillarSaints$Plan" (45 : Nat) ({ cls := "PillarSaints$World", name := "say", desc := "(I)V" } : Jvm.MethodName)) ∈ xTs := xTs_of (xt_3 (xnth_mem 64 rfl)) rfl
theorem kw3_65 : (Jvm.Cond.methodLink "PillarSaints$Plan" (49 : Nat) ({ cls := "PillarSaints$World", name := "goDown", desc := "(I)V" } : Jvm.MethodName)) ∈ xTs := xTs_of (xt_3 (xnth_mem 65 rfl)) rfl
theorem kw3_66 : (Jvm.Cond.methodLink "PillarSaints$Plan" (52 : Nat) ({ cls := "PillarSaints$World", name := "raise", desc := "(II)V" } : Jvm.MethodName)) ∈ xTs := xTs_of (xt_3 (xnth_mem 66 rfl)) rfl
theorem kw3_67 : (Jvm.Cond.methodLink "PillarSaints$Plan" (56 : Nat) ({ cls := "PillarSaints$World", name := "curse", desc := "(I)V" } : Jvm.MethodName)) ∈ xTs := xTs_of (xt_3 (xnth_mem 67 rfl)) rfl
theorem kw3_68 : (Jvm.Cond.instanceMethod ({ cls := "PillarSaints$World", name := "curse", desc := "(I)V" } : Jvm.MethodName)) ∈ xTs := xTs_of (xt_3 (xnth_mem 68 rfl)) rfl
theorem kw3_69 : (Jvm.Cond.selects "PillarSaints$World" ({ cls := "PillarSaints$World", name := "curse", desc := "(I)V" } : Jvm.MethodName) ({ cls := "PillarSaints$World", name := "curse", desc := "(I)V" } : Jvm.MethodName)) ∈ xTs := xTs_of (xt_3 (xnth_mem 69 rfl)) rfl
theorem kw3_70 : (Jvm.Cond.code ({ cls := "PillarSaints$World", name := "curse", desc := "(I)V" } : Jvm.MethodName) prog_11_method_17_code (2 : Nat) (Option.none : Option Jvm.ClassFile.FieldType)) ∈ xTs := xTs_of (xt_3 (xnth_mem 70 rfl)) rfl
theorem kw3_71 : (Jvm.Cond.methodLink "PillarSaints$World" (118 : Nat) ({ cls := "PillarSaints$World", name := "isDead", desc := "(I)Z" } : Jvm.MethodName)) ∈ xTs := xTs_of (xt_3 (xnth_mem 71 rfl)) rfl
theorem kw3_72 : (Jvm.Cond.instanceMethod ({ cls := "PillarSaints$World", name := "isDead", desc := "(I)Z" } : Jvm.MethodName)) ∈ xTs := xTs_of (xt_3 (xnth_mem 72 rfl)) rfl
theorem kw3_73 : (Jvm.Cond.selects "PillarSaints$World" ({ cls := "PillarSaints$World", name := "isDead", desc := "(I)Z" } : Jvm.MethodName) ({ cls := "PillarSaints$World", name := "isDead", desc := "(I)Z" } : Jvm.MethodName)) ∈ xTs := xTs_of (xt_3 (xnth_mem 73 rfl)) rfl
theorem kw3_74 : (Jvm.Cond.code ({ cls := "PillarSaints$World", name := "isDead", desc := "(I)Z" } : Jvm.MethodName) prog_11_method_5_code (2 : Nat) (Option.some Jvm.ClassFile.FieldType.boolean)) ∈ xTs := xTs_of (xt_3 (xnth_mem 74 rfl)) rfl
theorem kw3_75 : (Jvm.Cond.methodLink "PillarSaints$Desert" (87 : Nat) ({ cls := "PillarSaints$Sky", name := "weatherOn", desc := "(I)I" } : Jvm.MethodName)) ∈ xTs := xTs_of (xt_3 (xnth_mem 75 rfl)) rfl
theorem kw3_76 : (Jvm.Cond.instanceMethod ({ cls := "PillarSaints$Sky", name := "weatherOn", desc := "(I)I" } : Jvm.MethodName)) ∈ xTs := xTs_of (xt_3 (xnth_mem 76 rfl)) rfl
theorem kw3_77 : (Jvm.Cond.selects "PillarSaints$Sky" ({ cls := "PillarSaints$Sky", name := "weatherOn", desc := "(I)I" } : Jvm.MethodName) ({ cls := "PillarSaints$Sky", name := "weatherOn", desc := "(I)I" } : Jvm.MethodName)) ∈ xTs := xTs_of (xt_3 (xnth_mem 77 rfl)) rfl
theorem kw3_78 : (Jvm.Cond.code ({ cls := "PillarSaints$Sky", name := "weatherOn", desc := "(I)I" } : Jvm.MethodName) prog_8_method_4_code (3 : Nat) (Option.some Jvm.ClassFile.FieldType.int)) ∈ xTs := xTs_of (xt_3 (xnth_mem 78 rfl)) rfl
theorem kw3_79 : (Jvm.Cond.methodLink "PillarSaints$Desert" (94 : Nat) ({ cls := "PillarSaints$Desert", name := "lowerBasket", desc := "(LPillarSaints$World;)V" } : Jvm.MethodName)) ∈ xTs := xTs_of (xt_3 (xnth_mem 79 rfl)) rfl
theorem kw3_81 : (Jvm.Cond.instanceMethod ({ cls := "PillarSaints$Desert", name := "lowerBasket", desc := "(LPillarSaints$World;)V" } : Jvm.MethodName)) ∈ xTs := xTs_of (xt_3 (xnth_mem 81 rfl)) rfl
theorem kw3_82 : (Jvm.Cond.code ({ cls := "PillarSaints$Desert", name := "lowerBasket", desc := "(LPillarSaints$World;)V" } : Jvm.MethodName) prog_2_method_5_code (4 : Nat) (Option.none : Option Jvm.ClassFile.FieldType)) ∈ xTs := xTs_of (xt_3 (xnth_mem 82 rfl)) rfl
theorem kw3_83 : (Jvm.Cond.methodLink "PillarSaints$Desert" (116 : Nat) ({ cls := "PillarSaints$World", name := "sitterOn", desc := "(I)I" } : Jvm.MethodName)) ∈ xTs := xTs_of (xt_3 (xnth_mem 83 rfl)) rfl
theorem kw3_84 : (Jvm.Cond.instanceMethod ({ cls := "PillarSaints$World", name := "sitterOn", desc := "(I)I" } : Jvm.MethodName)) ∈ xTs := xTs_of (xt_3 (xnth_mem 84 rfl)) rfl
theorem kw3_85 : (Jvm.Cond.selects "PillarSaints$World" ({ cls := "PillarSaints$World", name := "sitterOn", desc := "(I)I" } : Jvm.MethodName) ({ cls := "PillarSaints$World", name := "sitterOn", desc := "(I)I" } : Jvm.MethodName)) ∈ xTs := xTs_of (xt_3 (xnth_mem 85 rfl)) rfl
theorem kw3_86 : (Jvm.Cond.code ({ cls := "PillarSaints$World", name := "sitterOn", desc := "(I)I" } : Jvm.MethodName) prog_11_method_6_code (2 : Nat) (Option.some Jvm.ClassFile.FieldType.int)) ∈ xTs := xTs_of (xt_3 (xnth_mem 86 rfl)) rfl
theorem kw3_87 : (Jvm.Cond.methodLink "PillarSaints$Desert" (119 : Nat) ({ cls := "PillarSaints$Law", name := "tells", desc := "(ILPillarSaints$World;I)I" } : Jvm.MethodName)) ∈ xTs := xTs_of (xt_3 (xnth_mem 87 rfl)) rfl
theorem kw3_88 : (Jvm.Cond.instanceMethod ({ cls := "PillarSaints$Law", name := "tells", desc := "(ILPillarSaints$World;I)I" } : Jvm.MethodName)) ∈ xTs := xTs_of (xt_3 (xnth_mem 88 rfl)) rfl
theorem kw3_89 : (Jvm.Cond.selects "PillarSaints$Law" ({ cls := "PillarSaints$Law", name := "tells", desc := "(ILPillarSaints$World;I)I" } : Jvm.MethodName) ({ cls := "PillarSaints$Law", name := "tells", desc := "(ILPillarSaints$World;I)I" } : Jvm.MethodName)) ∈ xTs := xTs_of (xt_3 (xnth_mem 89 rfl)) rfl
theorem kw3_90 : (Jvm.Cond.code ({ cls := "PillarSaints$Law", name := "tells", desc := "(ILPillarSaints$World;I)I" } : Jvm.MethodName) prog_4_method_8_code (5 : Nat) (Option.some Jvm.ClassFile.FieldType.int)) ∈ xTs := xTs_of (xt_3 (xnth_mem 90 rfl)) rfl
theorem kw3_91 : (Jvm.Cond.methodLink "PillarSaints$Law" (43 : Nat) ({ cls := "PillarSaints$World", name := "isSaint", desc := "(I)Z" } : Jvm.MethodName)) ∈ xTs := xTs_of (xt_3 (xnth_mem 91 rfl)) rfl
theorem kw3_92 : (Jvm.Cond.methodLink "PillarSaints$Law" (49 : Nat) ({ cls := "PillarSaints$Law", name := "run", desc := "(IILPillarSaints$World;I)I" } : Jvm.MethodName)) ∈ xTs := xTs_of (xt_3 (xnth_mem 92 rfl)) rfl
theorem kw3_94 : (Jvm.Cond.instanceMethod ({ cls := "PillarSaints$Law", name := "run", desc := "(IILPillarSaints$World;I)I" } : Jvm.MethodName)) ∈ xTs := xTs_of (xt_3 (xnth_mem 94 rfl)) rfl
theorem kw3_95 : (Jvm.Cond.code ({ cls := "PillarSaints$Law", name := "run", desc := "(IILPillarSaints$World;I)I" } : Jvm.MethodName) prog_4_method_11_code (8 : Nat) (Option.some Jvm.ClassFile.FieldType.int)) ∈ xTs := xTs_of (xt_3 (xnth_mem 95 rfl)) rfl
theorem kw3_96 : (Jvm.Cond.methodLink "PillarSaints$Law" (71 : Nat) ({ cls := "java/lang/Math", name := "max", desc := "(II)I" } : Jvm.MethodName)) ∈ xTs := xTs_of (xt_3 (xnth_mem 96 rfl)) rfl
theorem kw3_97 : (Jvm.Cond.static ({ cls := "java/lang/Math", name := "max", desc := "(II)I" } : Jvm.MethodName)) ∈ xTs := xTs_of (xt_3 (xnth_mem 97 rfl)) rfl
theorem kw3_98 : (Jvm.Cond.code ({ cls := "java/lang/Math", name := "max", desc := "(II)I" } : Jvm.MethodName) prog_16_method_65_code (2 : Nat) (Option.some Jvm.ClassFile.FieldType.int)) ∈ xTs := xTs_of (xt_3 (xnth_mem 98 rfl)) rfl
theorem kw3_99 : (Jvm.Cond.methodLink "PillarSaints$Law" (86 : Nat) ({ cls := "PillarSaints$Law", name := "named", desc := "(ILPillarSaints$World;I)I" } : Jvm.MethodName)) ∈ xTs := xTs_of (xt_3 (xnth_mem 99 rfl)) rfl
theorem kw3_100 : (Jvm.Cond.static ({ cls := "PillarSaints$Law", name := "named", desc := "(ILPillarSaints$World;I)I" } : Jvm.MethodName)) ∈ xTs := xTs_of (xt_3 (xnth_mem 100 rfl)) rfl
theorem kw3_101 : (Jvm.Cond.code ({ cls := "PillarSaints$Law", name := "named", desc := "(ILPillarSaints$World;I)I" } : Jvm.MethodName) prog_4_method_13_code (4 : Nat) (Option.some Jvm.ClassFile.FieldType.int)) ∈ xTs := xTs_of (xt_3 (xnth_mem 101 rfl)) rfl
theorem kw3_102 : (Jvm.Cond.methodLink "PillarSaints$Law" (92 : Nat) ({ cls := "PillarSaints$World", name := "pillarOf", desc := "(I)I" } : Jvm.MethodName)) ∈ xTs := xTs_of (xt_3 (xnth_mem 102 rfl)) rfl
theorem kw3_103 : (Jvm.Cond.methodLink "PillarSaints$Law" (76 : Nat) ({ cls := "PillarSaints$World", name := "doctrineAbove", desc := "(I)I" } : Jvm.MethodName)) ∈ xTs := xTs_of (xt_3 (xnth_mem 103 rfl)) rfl
theorem kw3_104 : (Jvm.Cond.instanceMethod ({ cls := "PillarSaints$World", name := "doctrineAbove", desc := "(I)I" } : Jvm.MethodName)) ∈ xTs := xTs_of (xt_3 (xnth_mem 104 rfl)) rfl
theorem kw3_105 : (Jvm.Cond.selects "PillarSaints$World" ({ cls := "PillarSaints$World", name := "doctrineAbove", desc := "(I)I" } : Jvm.MethodName) ({ cls := "PillarSaints$World", name := "doctrineAbove", desc := "(I)I" } : Jvm.MethodName)) ∈ xTs := xTs_of (xt_3 (xnth_mem 105 rfl)) rfl
theorem kw3_106 : (Jvm.Cond.code ({ cls := "PillarSaints$World", name := "doctrineAbove", desc := "(I)I" } : Jvm.MethodName) prog_11_method_28_code (5 : Nat) (Option.some Jvm.ClassFile.FieldType.int)) ∈ xTs := xTs_of (xt_3 (xnth_mem 106 rfl)) rfl
theorem kw3_107 : (Jvm.Cond.methodLink "PillarSaints$Law" (89 : Nat) ({ cls := "PillarSaints$Law", name := "joined", desc := "(III)I" } : Jvm.MethodName)) ∈ xTs := xTs_of (xt_3 (xnth_mem 107 rfl)) rfl
theorem kw3_108 : (Jvm.Cond.static ({ cls := "PillarSaints$Law", name := "joined", desc := "(III)I" } : Jvm.MethodName)) ∈ xTs := xTs_of (xt_3 (xnth_mem 108 rfl)) rfl
theorem kw3_109 : (Jvm.Cond.code ({ cls := "PillarSaints$Law", name := "joined", desc := "(III)I" } : Jvm.MethodName) prog_4_method_12_code (3 : Nat) (Option.some Jvm.ClassFile.FieldType.int)) ∈ xTs := xTs_of (xt_3 (xnth_mem 109 rfl)) rfl
theorem kw3_110 : (Jvm.Cond.methodLink "PillarSaints$Law" (53 : Nat) ({ cls := "PillarSaints$Law", name := "bounded", desc := "(II)I" } : Jvm.MethodName)) ∈ xTs := xTs_of (xt_3 (xnth_mem 110 rfl)) rfl
theorem kw3_111 : (Jvm.Cond.static ({ cls := "PillarSaints$Law", name := "bounded", desc := "(II)I" } : Jvm.MethodName)) ∈ xTs := xTs_of (xt_3 (xnth_mem 111 rfl)) rfl
theorem kw3_112 : (Jvm.Cond.code ({ cls := "PillarSaints$Law", name := "bounded", desc := "(II)I" } : Jvm.MethodName) prog_4_method_9_code (2 : Nat) (Option.some Jvm.ClassFile.FieldType.int)) ∈ xTs := xTs_of (xt_3 (xnth_mem 112 rfl)) rfl
theorem kw3_114 : (Jvm.Cond.static ({ cls := "PillarSaints", name := "held", desc := "(III)I" } : Jvm.MethodName)) ∈ xTs := xTs_of (xt_3 (xnth_mem 114 rfl)) rfl
theorem kw3_115 : (Jvm.Cond.code ({ cls := "PillarSaints", name := "held", desc := "(III)I" } : Jvm.MethodName) prog_1_method_37_code (3 : Nat) (Option.some Jvm.ClassFile.FieldType.int)) ∈ xTs := xTs_of (xt_3 (xnth_mem 115 rfl)) rfl
theorem kw3_116 : (Jvm.Cond.methodLink "PillarSaints" (329 : Nat) ({ cls := "java/lang/Math", name := "max", desc := "(II)I" } : Jvm.MethodName)) ∈ xTs := xTs_of (xt_3 (xnth_mem 116 rfl)) rfl
theorem kw3_117 : (Jvm.Cond.methodLink "PillarSaints$Law" (57 : Nat) ({ cls := "PillarSaints$Law", name := "usual", desc := "(ILPillarSaints$World;I)I" } : Jvm.MethodName)) ∈ xTs := xTs_of (xt_3 (xnth_mem 117 rfl)) rfl
theorem kw3_118 : (Jvm.Cond.static ({ cls := "PillarSaints$Law", name := "usual", desc := "(ILPillarSaints$World;I)I" } : Jvm.MethodName)) ∈ xTs := xTs_of (xt_3 (xnth_mem 118 rfl)) rfl
theorem kw3_119 : (Jvm.Cond.code ({ cls := "PillarSaints$Law", name := "usual", desc := "(ILPillarSaints$World;I)I" } : Jvm.MethodName) prog_4_method_10_code (3 : Nat) (Option.some Jvm.ClassFile.FieldType.int)) ∈ xTs := xTs_of (xt_3 (xnth_mem 119 rfl)) rfl
theorem kw3_120 : (Jvm.Cond.methodLink "PillarSaints$Law" (83 : Nat) ({ cls := "java/lang/Math", name := "floorDiv", desc := "(II)I" } : Jvm.MethodName)) ∈ xTs := xTs_of (xt_3 (xnth_mem 120 rfl)) rfl
theorem kw3_121 : (Jvm.Cond.static ({ cls := "java/lang/Math", name := "floorDiv", desc := "(II)I" } : Jvm.MethodName)) ∈ xTs := xTs_of (xt_3 (xnth_mem 121 rfl)) rfl
theorem kw3_122 : (Jvm.Cond.code ({ cls := "java/lang/Math", name := "floorDiv", desc := "(II)I" } : Jvm.MethodName) prog_16_method_47_code (3 : Nat) (Option.some Jvm.ClassFile.FieldType.int)) ∈ xTs := xTs_of (xt_3 (xnth_mem 122 rfl)) rfl
theorem kw3_123 : (Jvm.Cond.methodLink "PillarSaints$Desert" (123 : Nat) ({ cls := "PillarSaints$World", name := "eat", desc := "(II)V" } : Jvm.MethodName)) ∈ xTs := xTs_of (xt_3 (xnth_mem 123 rfl)) rfl
theorem kw3_124 : (Jvm.Cond.instanceMethod ({ cls := "PillarSaints$World", name := "eat", desc := "(II)V" } : Jvm.MethodName)) ∈ xTs := xTs_of (xt_3 (xnth_mem 124 rfl)) rfl
theorem kw3_125 : (Jvm.Cond.selects "PillarSaints$World" ({ cls := "PillarSaints$World", name := "eat", desc := "(II)V" } : Jvm.MethodName) ({ cls := "PillarSaints$World", name := "eat", desc := "(II)V" } : Jvm.MethodName)) ∈ xTs := xTs_of (xt_3 (xnth_mem 125 rfl)) rfl
theorem kw3_126 : (Jvm.Cond.code ({ cls := "PillarSaints$World", name := "eat", desc := "(II)V" } : Jvm.MethodName) prog_11_method_23_code (4 : Nat) (Option.none : Option Jvm.ClassFile.FieldType)) ∈ xTs := xTs_of (xt_3 (xnth_mem 126 rfl)) rfl
theorem kw3_127 : (Jvm.Cond.methodLink "PillarSaints$World" (130 : Nat) ({ cls := "java/lang/Math", name := "max", desc := "(II)I" } : Jvm.MethodName)) ∈ xTs := xTs_of (xt_3 (xnth_mem 127 rfl)) rfl
theorem kw3_128 : (Jvm.Cond.methodLink "PillarSaints$Desert" (97 : Nat) ({ cls := "PillarSaints$World", name := "hungerOnGround", desc := "()V" } : Jvm.MethodName)) ∈ xTs := xTs_of (xt_3 (xnth_mem 128 rfl)) rfl
theorem kw3_129 : (Jvm.Cond.instanceMethod ({ cls := "PillarSaints$World", name := "hungerOnGround", desc := "()V" } : Jvm.MethodName)) ∈ xTs := xTs_of (xt_3 (xnth_mem 129 rfl)) rfl
theorem kw3_130 : (Jvm.Cond.selects "PillarSaints$World" ({ cls := "PillarSaints$World", name := "hungerOnGround", desc := "()V" } : Jvm.MethodName) ({ cls := "PillarSaints$World", name := "hungerOnGround", desc := "()V" } : Jvm.MethodName)) ∈ xTs := xTs_of (xt_3 (xnth_mem 130 rfl)) rfl
theorem kw3_131 : (Jvm.Cond.code ({ cls := "PillarSaints$World", name := "hungerOnGround", desc := "()V" } : Jvm.MethodName) prog_11_method_24_code (3 : Nat) (Option.none : Option Jvm.ClassFile.FieldType)) ∈ xTs := xTs_of (xt_3 (xnth_mem 131 rfl)) rfl
theorem kw3_132 : (Jvm.Cond.methodLink "PillarSaints$Desert" (100 : Nat) ({ cls := "PillarSaints$Desert", name := "lowerAdvice", desc := "(LPillarSaints$World;)V" } : Jvm.MethodName)) ∈ xTs := xTs_of (xt_3 (xnth_mem 132 rfl)) rfl
theorem kw3_134 : (Jvm.Cond.instanceMethod ({ cls := "PillarSaints$Desert", name := "lowerAdvice", desc := "(LPillarSaints$World;)V" } : Jvm.MethodName)) ∈ xTs := xTs_of (xt_3 (xnth_mem 134 rfl)) rfl
theorem kw3_135 : (Jvm.Cond.code ({ cls := "PillarSaints$Desert", name := "lowerAdvice", desc := "(LPillarSaints$World;)V" } : Jvm.MethodName) prog_2_method_6_code (4 : Nat) (Option.none : Option Jvm.ClassFile.FieldType)) ∈ xTs := xTs_of (xt_3 (xnth_mem 135 rfl)) rfl
theorem kw3_136 : (Jvm.Cond.methodLink "PillarSaints$Desert" (137 : Nat) ({ cls := "PillarSaints$Desert", name := "adviceAt", desc := "(LPillarSaints$World;II)I" } : Jvm.MethodName)) ∈ xTs := xTs_of (xt_3 (xnth_mem 136 rfl)) rfl
theorem kw3_137 : (Jvm.Cond.instanceMethod ({ cls := "PillarSaints$Desert", name := "adviceAt", desc := "(LPillarSaints$World;II)I" } : Jvm.MethodName)) ∈ xTs := xTs_of (xt_3 (xnth_mem 137 rfl)) rfl
theorem kw3_138 : (Jvm.Cond.selects "PillarSaints$Desert" ({ cls := "PillarSaints$Desert", name := "adviceAt", desc := "(LPillarSaints$World;II)I" } : Jvm.MethodName) ({ cls := "PillarSaints$Desert", name := "adviceAt", desc := "(LPillarSaints$World;II)I" } : Jvm.MethodName)) ∈ xTs := xTs_of (xt_3 (xnth_mem 138 rfl)) rfl
theorem kw3_139 : (Jvm.Cond.code ({ cls := "PillarSaints$Desert", name := "adviceAt", desc := "(LPillarSaints$World;II)I" } : Jvm.MethodName) prog_2_method_7_code (6 : Nat) (Option.some Jvm.ClassFile.FieldType.int)) ∈ xTs := xTs_of (xt_3 (xnth_mem 139 rfl)) rfl
theorem kw3_140 : (Jvm.Cond.methodLink "PillarSaints$Desert" (145 : Nat) ({ cls := "java/lang/Math", name := "floorDiv", desc := "(II)I" } : Jvm.MethodName)) ∈ xTs := xTs_of (xt_3 (xnth_mem 140 rfl)) rfl
theorem kw3_142 : (Jvm.Cond.methodLink "PillarSaints$Desert" (141 : Nat) ({ cls := "PillarSaints$World", name := "note", desc := "(III)V" } : Jvm.MethodName)) ∈ xTs := xTs_of (xt_3 (xnth_mem 142 rfl)) rfl
theorem kw3_143 : (Jvm.Cond.methodLink "PillarSaints$Desert" (103 : Nat) ({ cls := "PillarSaints$Desert", name := "leanAll", desc := "(LPillarSaints$World;)V" } : Jvm.MethodName)) ∈ xTs := xTs_of (xt_3 (xnth_mem 143 rfl)) rfl
theorem kw3_145 : (Jvm.Cond.instanceMethod ({ cls := "PillarSaints$Desert", name := "leanAll", desc := "(LPillarSaints$World;)V" } : Jvm.MethodName)) ∈ xTs := xTs_of (xt_3 (xnth_mem 145 rfl)) rfl
theorem kw3_146 : (Jvm.Cond.code ({ cls := "PillarSaints$Desert", name := "leanAll", desc := "(LPillarSaints$World;)V" } : Jvm.MethodName) prog_2_method_8_code (5 : Nat) (Option.none : Option Jvm.ClassFile.FieldType)) ∈ xTs := xTs_of (xt_3 (xnth_mem 146 rfl)) rfl
theorem kw3_147 : (Jvm.Cond.methodLink "PillarSaints$Desert" (155 : Nat) ({ cls := "PillarSaints$World", name := "isSaint", desc := "(I)Z" } : Jvm.MethodName)) ∈ xTs := xTs_of (xt_3 (xnth_mem 147 rfl)) rfl
theorem kw3_148 : (Jvm.Cond.methodLink "PillarSaints$Desert" (106 : Nat) ({ cls := "PillarSaints$Desert", name := "letDie", desc := "(LPillarSaints$World;Z)I" } : Jvm.MethodName)) ∈ xTs := xTs_of (xt_3 (xnth_mem 148 rfl)) rfl
theorem kw3_150 : (Jvm.Cond.instanceMethod ({ cls := "PillarSaints$Desert", name := "letDie", desc := "(LPillarSaints$World;Z)I" } : Jvm.MethodName)) ∈ xTs := xTs_of (xt_3 (xnth_mem 150 rfl)) rfl
theorem kw3_151 : (Jvm.Cond.code ({ cls := "PillarSaints$Desert", name := "letDie", desc := "(LPillarSaints$World;Z)I" } : Jvm.MethodName) prog_2_method_9_code (7 : Nat) (Option.some Jvm.ClassFile.FieldType.int)) ∈ xTs := xTs_of (xt_3 (xnth_mem 151 rfl)) rfl
theorem kw3_152 : (Jvm.Cond.methodLink "PillarSaints$Desert" (165 : Nat) ({ cls := "PillarSaints$World", name := "isDead", desc := "(I)Z" } : Jvm.MethodName)) ∈ xTs := xTs_of (xt_3 (xnth_mem 152 rfl)) rfl
theorem kw3_153 : (Jvm.Cond.methodLink "PillarSaints$Desert" (171 : Nat) ({ cls := "java/lang/Math", name := "min", desc := "(II)I" } : Jvm.MethodName)) ∈ xTs := xTs_of (xt_3 (xnth_mem 153 rfl)) rfl
theorem kw3_154 : (Jvm.Cond.methodLink "PillarSaints$Desert" (174 : Nat) ({ cls := "PillarSaints$World", name := "draw", desc := "(I)I" } : Jvm.MethodName)) ∈ xTs := xTs_of (xt_3 (xnth_mem 154 rfl)) rfl
theorem kw3_155 : (Jvm.Cond.instanceMethod ({ cls := "PillarSaints$World", name := "draw", desc := "(I)I" } : Jvm.MethodName)) ∈ xTs := xTs_of (xt_3 (xnth_mem 155 rfl)) rfl
theorem kw3_156 : (Jvm.Cond.selects "PillarSaints$World" ({ cls := "PillarSaints$World", name := "draw", desc := "(I)I" } : Jvm.MethodName) ({ cls := "PillarSaints$World", name := "draw", desc := "(I)I" } : Jvm.MethodName)) ∈ xTs := xTs_of (xt_3 (xnth_mem 156 rfl)) rfl
theorem kw3_157 : (Jvm.Cond.code ({ cls := "PillarSaints$World", name := "draw", desc := "(I)I" } : Jvm.MethodName) prog_11_method_25_code (2 : Nat) (Option.some Jvm.ClassFile.FieldType.int)) ∈ xTs := xTs_of (xt_3 (xnth_mem 157 rfl)) rfl
theorem kw3_158 : (Jvm.Cond.constant "PillarSaints$World" (133 : Nat) (1664525 : Int32)) ∈ xTs := xTs_of (xt_3 (xnth_mem 158 rfl)) rfl
theorem kw3_159 : (Jvm.Cond.constant "PillarSaints$World" (134 : Nat) (1013904223 : Int32)) ∈ xTs := xTs_of (xt_3 (xnth_mem 159 rfl)) rfl
theorem kw3_160 : (Jvm.Cond.methodLink "PillarSaints$Desert" (177 : Nat) ({ cls := "PillarSaints$World", name := "bury", desc := "(I)V" } : Jvm.MethodName)) ∈ xTs := xTs_of (xt_3 (xnth_mem 160 rfl)) rfl
theorem kw3_161 : (Jvm.Cond.instanceMethod ({ cls := "PillarSaints$World", name := "bury", desc := "(I)V" } : Jvm.MethodName)) ∈ xTs := xTs_of (xt_3 (xnth_mem 161 rfl)) rfl
theorem kw3_162 : (Jvm.Cond.selects "PillarSaints$World" ({ cls := "PillarSaints$World", name := "bury", desc := "(I)V" } : Jvm.MethodName) ({ cls := "PillarSaints$World", name := "bury", desc := "(I)V" } : Jvm.MethodName)) ∈ xTs := xTs_of (xt_3 (xnth_mem 162 rfl)) rfl
theorem kw3_163 : (Jvm.Cond.code ({ cls := "PillarSaints$World", name := "bury", desc := "(I)V" } : Jvm.MethodName) prog_11_method_22_code (3 : Nat) (Option.none : Option Jvm.ClassFile.FieldType)) ∈ xTs := xTs_of (xt_3 (xnth_mem 163 rfl)) rfl
theorem kw3_164 : (Jvm.Cond.methodLink "PillarSaints$World" (127 : Nat) ({ cls := "PillarSaints$World", name := "aheadOnGround", desc := "(I)I" } : Jvm.MethodName)) ∈ xTs := xTs_of (xt_3 (xnth_mem 164 rfl)) rfl
theorem kw3_166 : (Jvm.Cond.instanceMethod ({ cls := "PillarSaints$World", name := "aheadOnGround", desc := "(I)I" } : Jvm.MethodName)) ∈ xTs := xTs_of (xt_3 (xnth_mem 166 rfl)) rfl
theorem kw3_167 : (Jvm.Cond.code ({ cls := "PillarSaints$World", name := "aheadOnGround", desc := "(I)I" } : Jvm.MethodName) prog_11_method_8_code (3 : Nat) (Option.some Jvm.ClassFile.FieldType.int)) ∈ xTs := xTs_of (xt_3 (xnth_mem 167 rfl)) rfl
theorem kw3_168 : (Jvm.Cond.methodLink "PillarSaints$Desert" (110 : Nat) ({ cls := "PillarSaints$World", name := "climb", desc := "()V" } : Jvm.MethodName)) ∈ xTs := xTs_of (xt_3 (xnth_mem 168 rfl)) rfl
theorem kw3_169 : (Jvm.Cond.methodLink "PillarSaintsLaw" (40 : Nat) ({ cls := "PillarSaints", name := "feed", desc := "(IIIII)I" } : Jvm.MethodName)) ∈ xTs := xTs_of (xt_3 (xnth_mem 169 rfl)) rfl
theorem kw3_170 : (Jvm.Cond.instanceMethod ({ cls := "PillarSaints", name := "feed", desc := "(IIIII)I" } : Jvm.MethodName)) ∈ xTs := xTs_of (xt_3 (xnth_mem 170 rfl)) rfl
theorem kw3_171 : (Jvm.Cond.selects "PillarSaints" ({ cls := "PillarSaints", name := "feed", desc := "(IIIII)I" } : Jvm.MethodName) ({ cls := "PillarSaints", name := "feed", desc := "(IIIII)I" } : Jvm.MethodName)) ∈ xTs := xTs_of (xt_3 (xnth_mem 171 rfl)) rfl
theorem kw3_172 : (Jvm.Cond.code ({ cls := "PillarSaints", name := "feed", desc := "(IIIII)I" } : Jvm.MethodName) prog_1_method_8_code (6 : Nat) (Option.some Jvm.ClassFile.FieldType.int)) ∈ xTs := xTs_of (xt_3 (xnth_mem 172 rfl)) rfl
theorem kw3_173 : (Jvm.Cond.methodLink "PillarSaints" (121 : Nat) ({ cls := "PillarSaints", name := "putNumber", desc := "(I)V" } : Jvm.MethodName)) ∈ xTs := xTs_of (xt_3 (xnth_mem 173 rfl)) rfl
theorem kw3_175 : (Jvm.Cond.instanceMethod ({ cls := "PillarSaints", name := "putNumber", desc := "(I)V" } : Jvm.MethodName)) ∈ xTs := xTs_of (xt_3 (xnth_mem 175 rfl)) rfl
theorem kw3_176 : (Jvm.Cond.code ({ cls := "PillarSaints", name := "putNumber", desc := "(I)V" } : Jvm.MethodName) prog_1_method_34_code (3 : Nat) (Option.none : Option Jvm.ClassFile.FieldType)) ∈ xTs := xTs_of (xt_3 (xnth_mem 176 rfl)) rfl
theorem kw3_177 : (Jvm.Cond.methodLink "PillarSaintsLaw" (45 : Nat) ({ cls := "PillarSaints", name := "end", desc := "(I)Z" } : Jvm.MethodName)) ∈ xTs := xTs_of (xt_3 (xnth_mem 177 rfl)) rfl
theorem kw3_178 : (Jvm.Cond.instanceMethod ({ cls := "PillarSaints", name := "end", desc := "(I)Z" } : Jvm.MethodName)) ∈ xTs := xTs_of (xt_3 (xnth_mem 178 rfl)) rfl
theorem kw3_179 : (Jvm.Cond.selects "PillarSaints" ({ cls := "PillarSaints", name := "end", desc := "(I)Z" } : Jvm.MethodName) ({ cls := "PillarSaints", name := "end", desc := "(I)Z" } : Jvm.MethodName)) ∈ xTs := xTs_of (xt_3 (xnth_mem 179 rfl)) rfl
theorem kw3_180 : (Jvm.Cond.code ({ cls := "PillarSaints", name := "end", desc := "(I)Z" } : Jvm.MethodName) prog_1_method_9_code (2 : Nat) (Option.some Jvm.ClassFile.FieldType.boolean)) ∈ xTs := xTs_of (xt_3 (xnth_mem 180 rfl)) rfl
theorem kw3_181 : (Jvm.Cond.methodLink "PillarSaintsLaw" (50 : Nat) ({ cls := "PillarSaints", name := "text", desc := "(I)I" } : Jvm.MethodName)) ∈ xTs := xTs_of (xt_3 (xnth_mem 181 rfl)) rfl
theorem kw3_182 : (Jvm.Cond.instanceMethod ({ cls := "PillarSaints", name := "text", desc := "(I)I" } : Jvm.MethodName)) ∈ xTs := xTs_of (xt_3 (xnth_mem 182 rfl)) rfl
theorem kw3_183 : (Jvm.Cond.selects "PillarSaints" ({ cls := "PillarSaints", name := "text", desc := "(I)I" } : Jvm.MethodName) ({ cls := "PillarSaints", name := "text", desc := "(I)I" } : Jvm.MethodName)) ∈ xTs := xTs_of (xt_3 (xnth_mem 183 rfl)) rfl
theorem kw3_184 : (Jvm.Cond.code ({ cls := "PillarSaints", name := "text", desc := "(I)I" } : Jvm.MethodName) prog_1_method_10_code (4 : Nat) (Option.some Jvm.ClassFile.FieldType.int)) ∈ xTs := xTs_of (xt_3 (xnth_mem 184 rfl)) rfl
theorem kw3_185 : (Jvm.Cond.methodLink "PillarSaints" (124 : Nat) ({ cls := "PillarSaints$Reader", name := "forgetFault", desc := "()V" } : Jvm.MethodName)) ∈ xTs := xTs_of (xt_3 (xnth_mem 185 rfl)) rfl
theorem kw3_186 : (Jvm.Cond.instanceMethod ({ cls := "PillarSaints$Reader", name := "forgetFault", desc := "()V" } : Jvm.MethodName)) ∈ xTs := xTs_of (xt_3 (xnth_mem 186 rfl)) rfl
theorem kw3_187 : (Jvm.Cond.selects "PillarSaints$Reader" ({ cls := "PillarSaints$Reader", name := "forgetFault", desc := "()V" } : Jvm.MethodName) ({ cls := "PillarSaints$Reader", name := "forgetFault", desc := "()V" } : Jvm.MethodName)) ∈ xTs := xTs_of (xt_3 (xnth_mem 187 rfl)) rfl
theorem kw3_188 : (Jvm.Cond.code ({ cls := "PillarSaints$Reader", name := "forgetFault", desc := "()V" } : Jvm.MethodName) prog_7_method_2_code (1 : Nat) (Option.none : Option Jvm.ClassFile.FieldType)) ∈ xTs := xTs_of (xt_3 (xnth_mem 188 rfl)) rfl
theorem kw3_189 : (Jvm.Cond.methodLink "PillarSaints" (127 : Nat) ({ cls := "PillarSaints$Reader", name := "read", desc := "(I[BILPillarSaints$World;)I" } : Jvm.MethodName)) ∈ xTs := xTs_of (xt_3 (xnth_mem 189 rfl)) rfl
theorem kw3_190 : (Jvm.Cond.instanceMethod ({ cls := "PillarSaints$Reader", name := "read", desc := "(I[BILPillarSaints$World;)I" } : Jvm.MethodName)) ∈ xTs := xTs_of (xt_3 (xnth_mem 190 rfl)) rfl
theorem kw3_191 : (Jvm.Cond.selects "PillarSaints$Reader" ({ cls := "PillarSaints$Reader", name := "read", desc := "(I[BILPillarSaints$World;)I" } : Jvm.MethodName) ({ cls := "PillarSaints$Reader", name := "read", desc := "(I[BILPillarSaints$World;)I" } : Jvm.MethodName)) ∈ xTs := xTs_of (xt_3 (xnth_mem 191 rfl)) rfl
theorem kw3_192 : (Jvm.Cond.code ({ cls := "PillarSaints$Reader", name := "read", desc := "(I[BILPillarSaints$World;)I" } : Jvm.MethodName) prog_7_method_3_code (7 : Nat) (Option.some Jvm.ClassFile.FieldType.int)) ∈ xTs := xTs_of (xt_3 (xnth_mem 192 rfl)) rfl
theorem kw3_193 : (Jvm.Cond.methodLink "PillarSaints$Reader" (53 : Nat) ({ cls := "PillarSaints$Reader", name := "forgetFault", desc := "()V" } : Jvm.MethodName)) ∈ xTs := xTs_of (xt_3 (xnth_mem 193 rfl)) rfl
theorem kw3_194 : (Jvm.Cond.methodLink "PillarSaints$Reader" (56 : Nat) ({ cls := "PillarSaints$Reader", name := "wordsOf", desc := "(I)Ljava/lang/String;" } : Jvm.MethodName)) ∈ xTs := xTs_of (xt_3 (xnth_mem 194 rfl)) rfl
theorem kw3_195 : (Jvm.Cond.static ({ cls := "PillarSaints$Reader", name := "wordsOf", desc := "(I)Ljava/lang/String;" } : Jvm.MethodName)) ∈ xTs := xTs_of (xt_3 (xnth_mem 195 rfl)) rfl
theorem kw3_196 : (Jvm.Cond.code ({ cls := "PillarSaints$Reader", name := "wordsOf", desc := "(I)Ljava/lang/String;" } : Jvm.MethodName) prog_7_method_4_code (1 : Nat) (Option.some (Jvm.ClassFile.FieldType.object "java/lang/String"))) ∈ xTs := xTs_of (xt_3 (xnth_mem 196 rfl)) rfl
theorem kw3_201 : (Jvm.Cond.methodLink "PillarSaints$Reader" (60 : Nat) ({ cls := "PillarSaints$Tokens", name := "cut", desc := "([BILjava/lang/String;)V" } : Jvm.MethodName)) ∈ xTs := xTs_of (xt_3 (xnth_mem 201 rfl)) rfl
theorem kw3_202 : (Jvm.Cond.instanceMethod ({ cls := "PillarSaints$Tokens", name := "cut", desc := "([BILjava/lang/String;)V" } : Jvm.MethodName)) ∈ xTs := xTs_of (xt_3 (xnth_mem 202 rfl)) rfl
theorem kw3_203 : (Jvm.Cond.selects "PillarSaints$Tokens" ({ cls := "PillarSaints$Tokens", name := "cut", desc := "([BILjava/lang/String;)V" } : Jvm.MethodName) ({ cls := "PillarSaints$Tokens", name := "cut", desc := "([BILjava/lang/String;)V" } : Jvm.MethodName)) ∈ xTs := xTs_of (xt_3 (xnth_mem 203 rfl)) rfl
theorem kw3_204 : (Jvm.Cond.code ({ cls := "PillarSaints$Tokens", name := "cut", desc := "([BILjava/lang/String;)V" } : Jvm.MethodName) prog_10_method_2_code (8 : Nat) (Option.none : Option Jvm.ClassFile.FieldType)) ∈ xTs := xTs_of (xt_3 (xnth_mem 204 rfl)) rfl
theorem kw3_205 : (Jvm.Cond.methodLink "PillarSaints$Tokens" (25 : Nat) ({ cls := "PillarSaints$Tokens", name := "endOf", desc := "([BII)I" } : Jvm.MethodName)) ∈ xTs := xTs_of (xt_3 (xnth_mem 205 rfl)) rfl
theorem kw3_206 : (Jvm.Cond.static ({ cls := "PillarSaints$Tokens", name := "endOf", desc := "([BII)I" } : Jvm.MethodName)) ∈ xTs := xTs_of (xt_3 (xnth_mem 206 rfl)) rfl
theorem kw3_207 : (Jvm.Cond.code ({ cls := "PillarSaints$Tokens", name := "endOf", desc := "([BII)I" } : Jvm.MethodName) prog_10_method_4_code (6 : Nat) (Option.some Jvm.ClassFile.FieldType.int)) ∈ xTs := xTs_of (xt_3 (xnth_mem 207 rfl)) rfl
theorem kw3_208 : (Jvm.Cond.methodLink "PillarSaints$Tokens" (35 : Nat) ({ cls := "PillarSaints$Tokens", name := "signAt", desc := "([BI)I" } : Jvm.MethodName)) ∈ xTs := xTs_of (xt_3 (xnth_mem 208 rfl)) rfl
theorem kw3_209 : (Jvm.Cond.static ({ cls := "PillarSaints$Tokens", name := "signAt", desc := "([BI)I" } : Jvm.MethodName)) ∈ xTs := xTs_of (xt_3 (xnth_mem 209 rfl)) rfl
theorem kw3_210 : (Jvm.Cond.code ({ cls := "PillarSaints$Tokens", name := "signAt", desc := "([BI)I" } : Jvm.MethodName) prog_10_method_5_code (2 : Nat) (Option.some Jvm.ClassFile.FieldType.int)) ∈ xTs := xTs_of (xt_3 (xnth_mem 210 rfl)) rfl
theorem kw3_211 : (Jvm.Cond.methodLink "PillarSaints$Tokens" (39 : Nat) ({ cls := "PillarSaints$Tokens", name := "isLetter", desc := "(I)Z" } : Jvm.MethodName)) ∈ xTs := xTs_of (xt_3 (xnth_mem 211 rfl)) rfl
theorem kw3_212 : (Jvm.Cond.static ({ cls := "PillarSaints$Tokens", name := "isLetter", desc := "(I)Z" } : Jvm.MethodName)) ∈ xTs := xTs_of (xt_3 (xnth_mem 212 rfl)) rfl
theorem kw3_213 : (Jvm.Cond.code ({ cls := "PillarSaints$Tokens", name := "isLetter", desc := "(I)Z" } : Jvm.MethodName) prog_10_method_6_code (1 : Nat) (Option.some Jvm.ClassFile.FieldType.boolean)) ∈ xTs := xTs_of (xt_3 (xnth_mem 213 rfl)) rfl
theorem kw3_214 : (Jvm.Cond.methodLink "PillarSaints$Tokens" (51 : Nat) ({ cls := "PillarSaints$Tokens", name := "isDigit", desc := "(I)Z" } : Jvm.MethodName)) ∈ xTs := xTs_of (xt_3 (xnth_mem 214 rfl)) rfl
theorem kw3_215 : (Jvm.Cond.static ({ cls := "PillarSaints$Tokens", name := "isDigit", desc := "(I)Z" } : Jvm.MethodName)) ∈ xTs := xTs_of (xt_3 (xnth_mem 215 rfl)) rfl
theorem kw3_216 : (Jvm.Cond.code ({ cls := "PillarSaints$Tokens", name := "isDigit", desc := "(I)Z" } : Jvm.MethodName) prog_10_method_7_code (1 : Nat) (Option.some Jvm.ClassFile.FieldType.boolean)) ∈ xTs := xTs_of (xt_3 (xnth_mem 216 rfl)) rfl
theorem kw3_217 : (Jvm.Cond.methodLink "PillarSaints$Tokens" (29 : Nat) ({ cls := "java/lang/Math", name := "max", desc := "(II)I" } : Jvm.MethodName)) ∈ xTs := xTs_of (xt_3 (xnth_mem 217 rfl)) rfl
theorem kw3_218 : (Jvm.Cond.methodLink "PillarSaints$Tokens" (43 : Nat) ({ cls := "PillarSaints$Tokens", name := "wordOf", desc := "([BIILjava/lang/String;)I" } : Jvm.MethodName)) ∈ xTs := xTs_of (xt_3 (xnth_mem 218 rfl)) rfl
theorem kw3_219 : (Jvm.Cond.static ({ cls := "PillarSaints$Tokens", name := "wordOf", desc := "([BIILjava/lang/String;)I" } : Jvm.MethodName)) ∈ xTs := xTs_of (xt_3 (xnth_mem 219 rfl)) rfl
theorem kw3_220 : (Jvm.Cond.code ({ cls := "PillarSaints$Tokens", name := "wordOf", desc := "([BIILjava/lang/String;)I" } : Jvm.MethodName) prog_10_method_9_code (8 : Nat) (Option.some Jvm.ClassFile.FieldType.int)) ∈ xTs := xTs_of (xt_3 (xnth_mem 220 rfl)) rfl
theorem kw3_221 : (Jvm.Cond.methodLink "PillarSaints$Tokens" (57 : Nat) ({ cls := "java/lang/String", name := "length", desc := "()I" } : Jvm.MethodName)) ∈ xTs := xTs_of (xt_3 (xnth_mem 221 rfl)) rfl
theorem kw3_222 : (Jvm.Cond.instanceMethod ({ cls := "java/lang/String", name := "length", desc := "()I" } : Jvm.MethodName)) ∈ xTs := xTs_of (xt_3 (xnth_mem 222 rfl)) rfl
theorem kw3_223 : (Jvm.Cond.selects "java/lang/String" ({ cls := "java/lang/String", name := "length", desc := "()I" } : Jvm.MethodName) ({ cls := "java/lang/String", name := "length", desc := "()I" } : Jvm.MethodName)) ∈ xTs := xTs_of (xt_3 (xnth_mem 223 rfl)) rfl
theorem kw3_224 : (Jvm.Cond.code ({ cls := "java/lang/String", name := "length", desc := "()I" } : Jvm.MethodName) prog_17_method_54_code (1 : Nat) (Option.some Jvm.ClassFile.FieldType.int)) ∈ xTs := xTs_of (xt_3 (xnth_mem 224 rfl)) rfl
theorem kw3_225 : (Jvm.Cond.methodLink "java/lang/String" (335 : Nat) ({ cls := "java/lang/String", name := "coder", desc := "()B" } : Jvm.MethodName)) ∈ xTs := xTs_of (xt_3 (xnth_mem 225 rfl)) rfl
theorem kw3_226 : (Jvm.Cond.instanceMethod ({ cls := "java/lang/String", name := "coder", desc := "()B" } : Jvm.MethodName)) ∈ xTs := xTs_of (xt_3 (xnth_mem 226 rfl)) rfl
theorem kw3_227 : (Jvm.Cond.selects "java/lang/String" ({ cls := "java/lang/String", name := "coder", desc := "()B" } : Jvm.MethodName) ({ cls := "java/lang/String", name := "coder", desc := "()B" } : Jvm.MethodName)) ∈ xTs := xTs_of (xt_3 (xnth_mem 227 rfl)) rfl
theorem kw3_228 : (Jvm.Cond.code ({ cls := "java/lang/String", name := "coder", desc := "()B" } : Jvm.MethodName) prog_17_method_152_code (1 : Nat) (Option.some Jvm.ClassFile.FieldType.byte)) ∈ xTs := xTs_of (xt_3 (xnth_mem 228 rfl)) rfl
theorem kw3_229 : (Jvm.Cond.fieldLink "java/lang/String" (38 : Nat) "java/lang/String" "COMPACT_STRINGS" "Z") ∈ xTs := xTs_of (xt_3 (xnth_mem 229 rfl)) rfl
theorem kw3_231 : (Jvm.Cond.methodLink "PillarSaints$Tokens" (63 : Nat) ({ cls := "java/lang/String", name := "charAt", desc := "(I)C" } : Jvm.MethodName)) ∈ xTs := xTs_of (xt_3 (xnth_mem 231 rfl)) rfl
theorem kw3_232 : (Jvm.Cond.instanceMethod ({ cls := "java/lang/String", name := "charAt", desc := "(I)C" } : Jvm.MethodName)) ∈ xTs := xTs_of (xt_3 (xnth_mem 232 rfl)) rfl
theorem kw3_233 : (Jvm.Cond.selects "java/lang/String" ({ cls := "java/lang/String", name := "charAt", desc := "(I)C" } : Jvm.MethodName) ({ cls := "java/lang/String", name := "charAt", desc := "(I)C" } : Jvm.MethodName)) ∈ xTs := xTs_of (xt_3 (xnth_mem 233 rfl)) rfl
theorem kw3_234 : (Jvm.Cond.code ({ cls := "java/lang/String", name := "charAt", desc := "(I)C" } : Jvm.MethodName) prog_17_method_56_code (2 : Nat) (Option.some Jvm.ClassFile.FieldType.char)) ∈ xTs := xTs_of (xt_3 (xnth_mem 234 rfl)) rfl
theorem kw3_235 : (Jvm.Cond.methodLink "java/lang/String" (492 : Nat) ({ cls := "java/lang/String", name := "isLatin1", desc := "()Z" } : Jvm.MethodName)) ∈ xTs := xTs_of (xt_3 (xnth_mem 235 rfl)) rfl
theorem kw3_236 : (Jvm.Cond.instanceMethod ({ cls := "java/lang/String", name := "isLatin1", desc := "()Z" } : Jvm.MethodName)) ∈ xTs := xTs_of (xt_3 (xnth_mem 236 rfl)) rfl
theorem kw3_237 : (Jvm.Cond.selects "java/lang/String" ({ cls := "java/lang/String", name := "isLatin1", desc := "()Z" } : Jvm.MethodName) ({ cls := "java/lang/String", name := "isLatin1", desc := "()Z" } : Jvm.MethodName)) ∈ xTs := xTs_of (xt_3 (xnth_mem 237 rfl)) rfl
theorem kw3_238 : (Jvm.Cond.code ({ cls := "java/lang/String", name := "isLatin1", desc := "()Z" } : Jvm.MethodName) prog_17_method_154_code (1 : Nat) (Option.some Jvm.ClassFile.FieldType.boolean)) ∈ xTs := xTs_of (xt_3 (xnth_mem 238 rfl)) rfl
theorem kw3_239 : (Jvm.Cond.methodLink "java/lang/String" (495 : Nat) ({ cls := "java/lang/StringLatin1", name := "charAt", desc := "([BI)C" } : Jvm.MethodName)) ∈ xTs := xTs_of (xt_3 (xnth_mem 239 rfl)) rfl
theorem kw4_0 : (Jvm.Cond.static ({ cls := "java/lang/StringLatin1", name := "charAt", desc := "([BI)C" } : Jvm.MethodName)) ∈ xTs := xTs_of (xt_4 (xnth_mem 0 rfl)) rfl
theorem kw4_1 : (Jvm.Cond.code ({ cls := "java/lang/StringLatin1", name := "charAt", desc := "([BI)C" } : Jvm.MethodName) prog_18_method_2_code (2 : Nat) (Option.some Jvm.ClassFile.FieldType.char)) ∈ xTs := xTs_of (xt_4 (xnth_mem 1 rfl)) rfl
theorem kw4_2 : (Jvm.Cond.methodLink "java/lang/StringLatin1" (9 : Nat) ({ cls := "java/lang/String", name := "checkIndex", desc := "(II)V" } : Jvm.MethodName)) ∈ xTs := xTs_of (xt_4 (xnth_mem 2 rfl)) rfl
theorem kw4_3 : (Jvm.Cond.static ({ cls := "java/lang/String", name := "checkIndex", desc := "(II)V" } : Jvm.MethodName)) ∈ xTs := xTs_of (xt_4 (xnth_mem 3 rfl)) rfl
theorem kw4_4 : (Jvm.Cond.code ({ cls := "java/lang/String", name := "checkIndex", desc := "(II)V" } : Jvm.MethodName) prog_17_method_155_code (2 : Nat) (Option.none : Option Jvm.ClassFile.FieldType)) ∈ xTs := xTs_of (xt_4 (xnth_mem 4 rfl)) rfl
theorem kw4_5 : (Jvm.Cond.fieldLink "java/lang/String" (1053 : Nat) "jdk/internal/util/Preconditions" "SIOOBE_FORMATTER" "Ljava/util/function/BiFunction;") ∈ xTs := xTs_of (xt_4 (xnth_mem 5 rfl)) rfl
theorem kw4_7 : (Jvm.Cond.methodLink "java/lang/String" (1059 : Nat) ({ cls := "jdk/internal/util/Preconditions", name := "checkIndex", desc := "(IILjava/util/function/BiFunction;)I" } : Jvm.MethodName)) ∈ xTs := xTs_of (xt_4 (xnth_mem 7 rfl)) rfl
theorem kw4_8 : (Jvm.Cond.static ({ cls := "jdk/internal/util/Preconditions", name := "checkIndex", desc := "(IILjava/util/function/BiFunction;)I" } : Jvm.MethodName)) ∈ xTs := xTs_of (xt_4 (xnth_mem 8 rfl)) rfl
theorem kw4_9 : (Jvm.Cond.code ({ cls := "jdk/internal/util/Preconditions", name := "checkIndex", desc := "(IILjava/util/function/BiFunction;)I" } : Jvm.MethodName) prog_22_method_11_code (3 : Nat) (Option.some Jvm.ClassFile.FieldType.int)) ∈ xTs := xTs_of (xt_4 (xnth_mem 9 rfl)) rfl
theorem kw4_10 : (Jvm.Cond.methodLink "java/lang/String" (498 : Nat) ({ cls := "java/lang/StringUTF16", name := "charAt", desc := "([BI)C" } : Jvm.MethodName)) ∈ xTs := xTs_of (xt_4 (xnth_mem 10 rfl)) rfl
theorem kw4_11 : (Jvm.Cond.static ({ cls := "java/lang/StringUTF16", name := "charAt", desc := "([BI)C" } : Jvm.MethodName)) ∈ xTs := xTs_of (xt_4 (xnth_mem 11 rfl)) rfl
theorem kw4_12 : (Jvm.Cond.code ({ cls := "java/lang/StringUTF16", name := "charAt", desc := "([BI)C" } : Jvm.MethodName) prog_19_method_83_code (2 : Nat) (Option.some Jvm.ClassFile.FieldType.char)) ∈ xTs := xTs_of (xt_4 (xnth_mem 12 rfl)) rfl
theorem kw4_13 : (Jvm.Cond.methodLink "java/lang/StringUTF16" (67 : Nat) ({ cls := "java/lang/StringUTF16", name := "checkIndex", desc := "(I[B)V" } : Jvm.MethodName)) ∈ xTs := xTs_of (xt_4 (xnth_mem 13 rfl)) rfl
theorem kw4_14 : (Jvm.Cond.static ({ cls := "java/lang/StringUTF16", name := "checkIndex", desc := "(I[B)V" } : Jvm.MethodName)) ∈ xTs := xTs_of (xt_4 (xnth_mem 14 rfl)) rfl
theorem kw4_15 : (Jvm.Cond.code ({ cls := "java/lang/StringUTF16", name := "checkIndex", desc := "(I[B)V" } : Jvm.MethodName) prog_19_method_91_code (2 : Nat) (Option.none : Option Jvm.ClassFile.FieldType)) ∈ xTs := xTs_of (xt_4 (xnth_mem 15 rfl)) rfl
theorem kw4_16 : (Jvm.Cond.methodLink "java/lang/StringUTF16" (48 : Nat) ({ cls := "java/lang/StringUTF16", name := "length", desc := "([B)I" } : Jvm.MethodName)) ∈ xTs := xTs_of (xt_4 (xnth_mem 16 rfl)) rfl
theorem kw4_17 : (Jvm.Cond.static ({ cls := "java/lang/StringUTF16", name := "length", desc := "([B)I" } : Jvm.MethodName)) ∈ xTs := xTs_of (xt_4 (xnth_mem 17 rfl)) rfl
theorem kw4_18 : (Jvm.Cond.code ({ cls := "java/lang/StringUTF16", name := "length", desc := "([B)I" } : Jvm.MethodName) prog_19_method_6_code (1 : Nat) (Option.some Jvm.ClassFile.FieldType.int)) ∈ xTs := xTs_of (xt_4 (xnth_mem 18 rfl)) rfl
theorem kw4_19 : (Jvm.Cond.methodLink "java/lang/StringUTF16" (414 : Nat) ({ cls := "java/lang/String", name := "checkIndex", desc := "(II)V" } : Jvm.MethodName)) ∈ xTs := xTs_of (xt_4 (xnth_mem 19 rfl)) rfl
theorem kw4_20 : (Jvm.Cond.methodLink "java/lang/StringUTF16" (71 : Nat) ({ cls := "java/lang/StringUTF16", name := "getChar", desc := "([BI)C" } : Jvm.MethodName)) ∈ xTs := xTs_of (xt_4 (xnth_mem 20 rfl)) rfl
theorem kw4_21 : (Jvm.Cond.static ({ cls := "java/lang/StringUTF16", name := "getChar", desc := "([BI)C" } : Jvm.MethodName)) ∈ xTs := xTs_of (xt_4 (xnth_mem 21 rfl)) rfl
theorem kw4_22 : (Jvm.Cond.code ({ cls := "java/lang/StringUTF16", name := "getChar", desc := "([BI)C" } : Jvm.MethodName) prog_19_method_5_code (2 : Nat) (Option.some Jvm.ClassFile.FieldType.char)) ∈ xTs := xTs_of (xt_4 (xnth_mem 22 rfl)) rfl
theorem kw4_23 : (Jvm.Cond.fieldLink "java/lang/StringUTF16" (44 : Nat) "java/lang/StringUTF16" "$assertionsDisabled" "Z") ∈ xTs := xTs_of (xt_4 (xnth_mem 23 rfl)) rfl
theorem kw4_25 : (Jvm.Cond.fieldLink "java/lang/StringUTF16" (59 : Nat) "java/lang/StringUTF16" "HI_BYTE_SHIFT" "I") ∈ xTs := xTs_of (xt_4 (xnth_mem 25 rfl)) rfl
theorem kw4_27 : (Jvm.Cond.fieldLink "java/lang/StringUTF16" (63 : Nat) "java/lang/StringUTF16" "LO_BYTE_SHIFT" "I") ∈ xTs := xTs_of (xt_4 (xnth_mem 27 rfl)) rfl
theorem kw4_29 : (Jvm.Cond.methodLink "PillarSaints$Tokens" (47 : Nat) ({ cls := "PillarSaints$Tokens", name := "add", desc := "(III)V" } : Jvm.MethodName)) ∈ xTs := xTs_of (xt_4 (xnth_mem 29 rfl)) rfl
theorem kw4_31 : (Jvm.Cond.instanceMethod ({ cls := "PillarSaints$Tokens", name := "add", desc := "(III)V" } : Jvm.MethodName)) ∈ xTs := xTs_of (xt_4 (xnth_mem 31 rfl)) rfl
theorem kw4_32 : (Jvm.Cond.code ({ cls := "PillarSaints$Tokens", name := "add", desc := "(III)V" } : Jvm.MethodName) prog_10_method_3_code (4 : Nat) (Option.none : Option Jvm.ClassFile.FieldType)) ∈ xTs := xTs_of (xt_4 (xnth_mem 32 rfl)) rfl
theorem kw4_33 : (Jvm.Cond.methodLink "PillarSaints$Tokens" (54 : Nat) ({ cls := "PillarSaints$Tokens", name := "numberOf", desc := "([BII)I" } : Jvm.MethodName)) ∈ xTs := xTs_of (xt_4 (xnth_mem 33 rfl)) rfl
theorem kw4_34 : (Jvm.Cond.static ({ cls := "PillarSaints$Tokens", name := "numberOf", desc := "([BII)I" } : Jvm.MethodName)) ∈ xTs := xTs_of (xt_4 (xnth_mem 34 rfl)) rfl
theorem kw4_35 : (Jvm.Cond.code ({ cls := "PillarSaints$Tokens", name := "numberOf", desc := "([BII)I" } : Jvm.MethodName) prog_10_method_8_code (5 : Nat) (Option.some Jvm.ClassFile.FieldType.int)) ∈ xTs := xTs_of (xt_4 (xnth_mem 35 rfl)) rfl
theorem kw4_36 : (Jvm.Cond.methodLink "PillarSaints$Reader" (80 : Nat) ({ cls := "PillarSaints$Law", name := "clear", desc := "()V" } : Jvm.MethodName)) ∈ xTs := xTs_of (xt_4 (xnth_mem 36 rfl)) rfl
theorem kw4_37 : (Jvm.Cond.instanceMethod ({ cls := "PillarSaints$Law", name := "clear", desc := "()V" } : Jvm.MethodName)) ∈ xTs := xTs_of (xt_4 (xnth_mem 37 rfl)) rfl
theorem kw4_38 : (Jvm.Cond.selects "PillarSaints$Law" ({ cls := "PillarSaints$Law", name := "clear", desc := "()V" } : Jvm.MethodName) ({ cls := "PillarSaints$Law", name := "clear", desc := "()V" } : Jvm.MethodName)) ∈ xTs := xTs_of (xt_4 (xnth_mem 38 rfl)) rfl
theorem kw4_39 : (Jvm.Cond.code ({ cls := "PillarSaints$Law", name := "clear", desc := "()V" } : Jvm.MethodName) prog_4_method_2_code (1 : Nat) (Option.none : Option Jvm.ClassFile.FieldType)) ∈ xTs := xTs_of (xt_4 (xnth_mem 39 rfl)) rfl
theorem kw4_40 : (Jvm.Cond.methodLink "PillarSaints$Reader" (88 : Nat) ({ cls := "PillarSaints$Reader", name := "kind", desc := "()I" } : Jvm.MethodName)) ∈ xTs := xTs_of (xt_4 (xnth_mem 40 rfl)) rfl
theorem kw4_42 : (Jvm.Cond.instanceMethod ({ cls := "PillarSaints$Reader", name := "kind", desc := "()I" } : Jvm.MethodName)) ∈ xTs := xTs_of (xt_4 (xnth_mem 42 rfl)) rfl
theorem kw4_43 : (Jvm.Cond.code ({ cls := "PillarSaints$Reader", name := "kind", desc := "()I" } : Jvm.MethodName) prog_7_method_5_code (1 : Nat) (Option.some Jvm.ClassFile.FieldType.int)) ∈ xTs := xTs_of (xt_4 (xnth_mem 43 rfl)) rfl
theorem kw4_44 : (Jvm.Cond.methodLink "PillarSaints$Reader" (92 : Nat) ({ cls := "PillarSaints$Reader", name := "lawLine", desc := "()Z" } : Jvm.MethodName)) ∈ xTs := xTs_of (xt_4 (xnth_mem 44 rfl)) rfl
theorem kw4_46 : (Jvm.Cond.instanceMethod ({ cls := "PillarSaints$Reader", name := "lawLine", desc := "()Z" } : Jvm.MethodName)) ∈ xTs := xTs_of (xt_4 (xnth_mem 46 rfl)) rfl
theorem kw4_47 : (Jvm.Cond.code ({ cls := "PillarSaints$Reader", name := "lawLine", desc := "()Z" } : Jvm.MethodName) prog_7_method_12_code (2 : Nat) (Option.some Jvm.ClassFile.FieldType.boolean)) ∈ xTs := xTs_of (xt_4 (xnth_mem 47 rfl)) rfl
theorem kw4_48 : (Jvm.Cond.methodLink "PillarSaints$Reader" (133 : Nat) ({ cls := "PillarSaints$Reader", name := "isWord", desc := "(I)Z" } : Jvm.MethodName)) ∈ xTs := xTs_of (xt_4 (xnth_mem 48 rfl)) rfl
theorem kw4_50 : (Jvm.Cond.instanceMethod ({ cls := "PillarSaints$Reader", name := "isWord", desc := "(I)Z" } : Jvm.MethodName)) ∈ xTs := xTs_of (xt_4 (xnth_mem 50 rfl)) rfl
theorem kw4_51 : (Jvm.Cond.code ({ cls := "PillarSaints$Reader", name := "isWord", desc := "(I)Z" } : Jvm.MethodName) prog_7_method_6_code (2 : Nat) (Option.some Jvm.ClassFile.FieldType.boolean)) ∈ xTs := xTs_of (xt_4 (xnth_mem 51 rfl)) rfl
theorem kw4_52 : (Jvm.Cond.methodLink "PillarSaints$Reader" (136 : Nat) ({ cls := "PillarSaints$Reader", name := "begin", desc := "(I)Z" } : Jvm.MethodName)) ∈ xTs := xTs_of (xt_4 (xnth_mem 52 rfl)) rfl
theorem kw4_54 : (Jvm.Cond.instanceMethod ({ cls := "PillarSaints$Reader", name := "begin", desc := "(I)Z" } : Jvm.MethodName)) ∈ xTs := xTs_of (xt_4 (xnth_mem 54 rfl)) rfl
theorem kw4_55 : (Jvm.Cond.code ({ cls := "PillarSaints$Reader", name := "begin", desc := "(I)Z" } : Jvm.MethodName) prog_7_method_11_code (2 : Nat) (Option.some Jvm.ClassFile.FieldType.boolean)) ∈ xTs := xTs_of (xt_4 (xnth_mem 55 rfl)) rfl
theorem kw4_56 : (Jvm.Cond.methodLink "PillarSaints$Reader" (120 : Nat) ({ cls := "PillarSaints$Reader", name := "refuse", desc := "(I)Z" } : Jvm.MethodName)) ∈ xTs := xTs_of (xt_4 (xnth_mem 56 rfl)) rfl
theorem kw4_58 : (Jvm.Cond.instanceMethod ({ cls := "PillarSaints$Reader", name := "refuse", desc := "(I)Z" } : Jvm.MethodName)) ∈ xTs := xTs_of (xt_4 (xnth_mem 58 rfl)) rfl
theorem kw4_59 : (Jvm.Cond.code ({ cls := "PillarSaints$Reader", name := "refuse", desc := "(I)Z" } : Jvm.MethodName) prog_7_method_7_code (2 : Nat) (Option.some Jvm.ClassFile.FieldType.boolean)) ∈ xTs := xTs_of (xt_4 (xnth_mem 59 rfl)) rfl
theorem kw4_60 : (Jvm.Cond.methodLink "PillarSaints$Reader" (139 : Nat) ({ cls := "PillarSaints$Law", name := "openLine", desc := "(I)V" } : Jvm.MethodName)) ∈ xTs := xTs_of (xt_4 (xnth_mem 60 rfl)) rfl
theorem kw4_61 : (Jvm.Cond.instanceMethod ({ cls := "PillarSaints$Law", name := "openLine", desc := "(I)V" } : Jvm.MethodName)) ∈ xTs := xTs_of (xt_4 (xnth_mem 61 rfl)) rfl
theorem kw4_62 : (Jvm.Cond.selects "PillarSaints$Law" ({ cls := "PillarSaints$Law", name := "openLine", desc := "(I)V" } : Jvm.MethodName) ({ cls := "PillarSaints$Law", name := "openLine", desc := "(I)V" } : Jvm.MethodName)) ∈ xTs := xTs_of (xt_4 (xnth_mem 62 rfl)) rfl
theorem kw4_63 : (Jvm.Cond.code ({ cls := "PillarSaints$Law", name := "openLine", desc := "(I)V" } : Jvm.MethodName) prog_4_method_4_code (2 : Nat) (Option.none : Option Jvm.ClassFile.FieldType)) ∈ xTs := xTs_of (xt_4 (xnth_mem 63 rfl)) rfl
theorem kw4_64 : (Jvm.Cond.methodLink "PillarSaints$Reader" (143 : Nat) ({ cls := "PillarSaints$Reader", name := "sum", desc := "()Z" } : Jvm.MethodName)) ∈ xTs := xTs_of (xt_4 (xnth_mem 64 rfl)) rfl
theorem kw4_66 : (Jvm.Cond.instanceMethod ({ cls := "PillarSaints$Reader", name := "sum", desc := "()Z" } : Jvm.MethodName)) ∈ xTs := xTs_of (xt_4 (xnth_mem 66 rfl)) rfl
theorem kw4_67 : (Jvm.Cond.code ({ cls := "PillarSaints$Reader", name := "sum", desc := "()Z" } : Jvm.MethodName) prog_7_method_15_code (4 : Nat) (Option.some Jvm.ClassFile.FieldType.boolean)) ∈ xTs := xTs_of (xt_4 (xnth_mem 67 rfl)) rfl
theorem kw4_68 : (Jvm.Cond.methodLink "PillarSaints$Reader" (164 : Nat) ({ cls := "PillarSaints$Reader", name := "unit", desc := "()Z" } : Jvm.MethodName)) ∈ xTs := xTs_of (xt_4 (xnth_mem 68 rfl)) rfl
theorem kw4_70 : (Jvm.Cond.instanceMethod ({ cls := "PillarSaints$Reader", name := "unit", desc := "()Z" } : Jvm.MethodName)) ∈ xTs := xTs_of (xt_4 (xnth_mem 70 rfl)) rfl
theorem kw4_71 : (Jvm.Cond.code ({ cls := "PillarSaints$Reader", name := "unit", desc := "()Z" } : Jvm.MethodName) prog_7_method_16_code (3 : Nat) (Option.some Jvm.ClassFile.FieldType.boolean)) ∈ xTs := xTs_of (xt_4 (xnth_mem 71 rfl)) rfl
theorem kw4_72 : (Jvm.Cond.methodLink "PillarSaints$Reader" (127 : Nat) ({ cls := "PillarSaints$Reader", name := "numberHere", desc := "()I" } : Jvm.MethodName)) ∈ xTs := xTs_of (xt_4 (xnth_mem 72 rfl)) rfl
theorem kw4_74 : (Jvm.Cond.instanceMethod ({ cls := "PillarSaints$Reader", name := "numberHere", desc := "()I" } : Jvm.MethodName)) ∈ xTs := xTs_of (xt_4 (xnth_mem 74 rfl)) rfl
theorem kw4_75 : (Jvm.Cond.code ({ cls := "PillarSaints$Reader", name := "numberHere", desc := "()I" } : Jvm.MethodName) prog_7_method_9_code (1 : Nat) (Option.some Jvm.ClassFile.FieldType.int)) ∈ xTs := xTs_of (xt_4 (xnth_mem 75 rfl)) rfl
theorem kw4_76 : (Jvm.Cond.methodLink "PillarSaints$Reader" (161 : Nat) ({ cls := "PillarSaints$Law", name := "emit", desc := "(I)V" } : Jvm.MethodName)) ∈ xTs := xTs_of (xt_4 (xnth_mem 76 rfl)) rfl
theorem kw4_77 : (Jvm.Cond.instanceMethod ({ cls := "PillarSaints$Law", name := "emit", desc := "(I)V" } : Jvm.MethodName)) ∈ xTs := xTs_of (xt_4 (xnth_mem 77 rfl)) rfl
theorem kw4_78 : (Jvm.Cond.selects "PillarSaints$Law" ({ cls := "PillarSaints$Law", name := "emit", desc := "(I)V" } : Jvm.MethodName) ({ cls := "PillarSaints$Law", name := "emit", desc := "(I)V" } : Jvm.MethodName)) ∈ xTs := xTs_of (xt_4 (xnth_mem 78 rfl)) rfl
theorem kw4_79 : (Jvm.Cond.code ({ cls := "PillarSaints$Law", name := "emit", desc := "(I)V" } : Jvm.MethodName) prog_4_method_7_code (2 : Nat) (Option.none : Option Jvm.ClassFile.FieldType)) ∈ xTs := xTs_of (xt_4 (xnth_mem 79 rfl)) rfl
theorem kw4_80 : (Jvm.Cond.methodLink "PillarSaints$Reader" (167 : Nat) ({ cls := "PillarSaints$Reader", name := "number", desc := "(II)Z" } : Jvm.MethodName)) ∈ xTs := xTs_of (xt_4 (xnth_mem 80 rfl)) rfl
theorem kw4_82 : (Jvm.Cond.instanceMethod ({ cls := "PillarSaints$Reader", name := "number", desc := "(II)Z" } : Jvm.MethodName)) ∈ xTs := xTs_of (xt_4 (xnth_mem 82 rfl)) rfl
theorem kw4_83 : (Jvm.Cond.code ({ cls := "PillarSaints$Reader", name := "number", desc := "(II)Z" } : Jvm.MethodName) prog_7_method_10_code (3 : Nat) (Option.some Jvm.ClassFile.FieldType.boolean)) ∈ xTs := xTs_of (xt_4 (xnth_mem 83 rfl)) rfl
theorem kw4_84 : (Jvm.Cond.methodLink "PillarSaints$Reader" (146 : Nat) ({ cls := "PillarSaints$Law", name := "markWhen", desc := "()V" } : Jvm.MethodName)) ∈ xTs := xTs_of (xt_4 (xnth_mem 84 rfl)) rfl
theorem kw4_85 : (Jvm.Cond.instanceMethod ({ cls := "PillarSaints$Law", name := "markWhen", desc := "()V" } : Jvm.MethodName)) ∈ xTs := xTs_of (xt_4 (xnth_mem 85 rfl)) rfl
theorem kw4_86 : (Jvm.Cond.selects "PillarSaints$Law" ({ cls := "PillarSaints$Law", name := "markWhen", desc := "()V" } : Jvm.MethodName) ({ cls := "PillarSaints$Law", name := "markWhen", desc := "()V" } : Jvm.MethodName)) ∈ xTs := xTs_of (xt_4 (xnth_mem 86 rfl)) rfl
theorem kw4_87 : (Jvm.Cond.code ({ cls := "PillarSaints$Law", name := "markWhen", desc := "()V" } : Jvm.MethodName) prog_4_method_5_code (1 : Nat) (Option.none : Option Jvm.ClassFile.FieldType)) ∈ xTs := xTs_of (xt_4 (xnth_mem 87 rfl)) rfl
theorem kw4_88 : (Jvm.Cond.methodLink "PillarSaints$Reader" (149 : Nat) ({ cls := "PillarSaints$Reader", name := "condition", desc := "(I)Z" } : Jvm.MethodName)) ∈ xTs := xTs_of (xt_4 (xnth_mem 88 rfl)) rfl
theorem kw4_90 : (Jvm.Cond.instanceMethod ({ cls := "PillarSaints$Reader", name := "condition", desc := "(I)Z" } : Jvm.MethodName)) ∈ xTs := xTs_of (xt_4 (xnth_mem 90 rfl)) rfl
theorem kw4_91 : (Jvm.Cond.code ({ cls := "PillarSaints$Reader", name := "condition", desc := "(I)Z" } : Jvm.MethodName) prog_7_method_13_code (5 : Nat) (Option.some Jvm.ClassFile.FieldType.boolean)) ∈ xTs := xTs_of (xt_4 (xnth_mem 91 rfl)) rfl
theorem kw4_92 : (Jvm.Cond.methodLink "PillarSaints$Reader" (158 : Nat) ({ cls := "PillarSaints$Reader", name := "comparison", desc := "(I)Z" } : Jvm.MethodName)) ∈ xTs := xTs_of (xt_4 (xnth_mem 92 rfl)) rfl
theorem kw4_94 : (Jvm.Cond.instanceMethod ({ cls := "PillarSaints$Reader", name := "comparison", desc := "(I)Z" } : Jvm.MethodName)) ∈ xTs := xTs_of (xt_4 (xnth_mem 94 rfl)) rfl
theorem kw4_95 : (Jvm.Cond.code ({ cls := "PillarSaints$Reader", name := "comparison", desc := "(I)Z" } : Jvm.MethodName) prog_7_method_14_code (4 : Nat) (Option.some Jvm.ClassFile.FieldType.boolean)) ∈ xTs := xTs_of (xt_4 (xnth_mem 95 rfl)) rfl
theorem kw4_96 : (Jvm.Cond.methodLink "PillarSaints$Reader" (155 : Nat) ({ cls := "PillarSaints$Reader", name := "take", desc := "(I)Z" } : Jvm.MethodName)) ∈ xTs := xTs_of (xt_4 (xnth_mem 96 rfl)) rfl
theorem kw4_98 : (Jvm.Cond.instanceMethod ({ cls := "PillarSaints$Reader", name := "take", desc := "(I)Z" } : Jvm.MethodName)) ∈ xTs := xTs_of (xt_4 (xnth_mem 98 rfl)) rfl
theorem kw4_99 : (Jvm.Cond.code ({ cls := "PillarSaints$Reader", name := "take", desc := "(I)Z" } : Jvm.MethodName) prog_7_method_8_code (2 : Nat) (Option.some Jvm.ClassFile.FieldType.boolean)) ∈ xTs := xTs_of (xt_4 (xnth_mem 99 rfl)) rfl
theorem kw4_100 : (Jvm.Cond.methodLink "PillarSaints$Reader" (152 : Nat) ({ cls := "PillarSaints$Law", name := "closeLine", desc := "()V" } : Jvm.MethodName)) ∈ xTs := xTs_of (xt_4 (xnth_mem 100 rfl)) rfl
theorem kw4_101 : (Jvm.Cond.instanceMethod ({ cls := "PillarSaints$Law", name := "closeLine", desc := "()V" } : Jvm.MethodName)) ∈ xTs := xTs_of (xt_4 (xnth_mem 101 rfl)) rfl
theorem kw4_102 : (Jvm.Cond.selects "PillarSaints$Law" ({ cls := "PillarSaints$Law", name := "closeLine", desc := "()V" } : Jvm.MethodName) ({ cls := "PillarSaints$Law", name := "closeLine", desc := "()V" } : Jvm.MethodName)) ∈ xTs := xTs_of (xt_4 (xnth_mem 102 rfl)) rfl
theorem kw4_103 : (Jvm.Cond.code ({ cls := "PillarSaints$Law", name := "closeLine", desc := "()V" } : Jvm.MethodName) prog_4_method_6_code (1 : Nat) (Option.none : Option Jvm.ClassFile.FieldType)) ∈ xTs := xTs_of (xt_4 (xnth_mem 103 rfl)) rfl
theorem kw4_104 : (Jvm.Cond.methodLink "PillarSaints$Reader" (96 : Nat) ({ cls := "PillarSaints$Reader", name := "skyLine", desc := "()Z" } : Jvm.MethodName)) ∈ xTs := xTs_of (xt_4 (xnth_mem 104 rfl)) rfl
theorem kw4_106 : (Jvm.Cond.instanceMethod ({ cls := "PillarSaints$Reader", name := "skyLine", desc := "()Z" } : Jvm.MethodName)) ∈ xTs := xTs_of (xt_4 (xnth_mem 106 rfl)) rfl
theorem kw4_107 : (Jvm.Cond.code ({ cls := "PillarSaints$Reader", name := "skyLine", desc := "()Z" } : Jvm.MethodName) prog_7_method_17_code (2 : Nat) (Option.some Jvm.ClassFile.FieldType.boolean)) ∈ xTs := xTs_of (xt_4 (xnth_mem 107 rfl)) rfl
theorem kw4_108 : (Jvm.Cond.methodLink "PillarSaints$Reader" (170 : Nat) ({ cls := "PillarSaints$Sky", name := "add", desc := "(II)V" } : Jvm.MethodName)) ∈ xTs := xTs_of (xt_4 (xnth_mem 108 rfl)) rfl
theorem kw4_109 : (Jvm.Cond.instanceMethod ({ cls := "PillarSaints$Sky", name := "add", desc := "(II)V" } : Jvm.MethodName)) ∈ xTs := xTs_of (xt_4 (xnth_mem 109 rfl)) rfl
theorem kw4_110 : (Jvm.Cond.selects "PillarSaints$Sky" ({ cls := "PillarSaints$Sky", name := "add", desc := "(II)V" } : Jvm.MethodName) ({ cls := "PillarSaints$Sky", name := "add", desc := "(II)V" } : Jvm.MethodName)) ∈ xTs := xTs_of (xt_4 (xnth_mem 110 rfl)) rfl
theorem kw4_111 : (Jvm.Cond.code ({ cls := "PillarSaints$Sky", name := "add", desc := "(II)V" } : Jvm.MethodName) prog_8_method_3_code (3 : Nat) (Option.none : Option Jvm.ClassFile.FieldType)) ∈ xTs := xTs_of (xt_4 (xnth_mem 111 rfl)) rfl
theorem kw4_112 : (Jvm.Cond.methodLink "PillarSaints$Reader" (99 : Nat) ({ cls := "PillarSaints$Reader", name := "planLine", desc := "()Z" } : Jvm.MethodName)) ∈ xTs := xTs_of (xt_4 (xnth_mem 112 rfl)) rfl
theorem kw4_114 : (Jvm.Cond.instanceMethod ({ cls := "PillarSaints$Reader", name := "planLine", desc := "()Z" } : Jvm.MethodName)) ∈ xTs := xTs_of (xt_4 (xnth_mem 114 rfl)) rfl
theorem kw4_115 : (Jvm.Cond.code ({ cls := "PillarSaints$Reader", name := "planLine", desc := "()Z" } : Jvm.MethodName) prog_7_method_18_code (5 : Nat) (Option.some Jvm.ClassFile.FieldType.boolean)) ∈ xTs := xTs_of (xt_4 (xnth_mem 115 rfl)) rfl
theorem kw4_116 : (Jvm.Cond.methodLink "PillarSaints$Reader" (174 : Nat) ({ cls := "PillarSaints$Plan", name := "add", desc := "(IIII)V" } : Jvm.MethodName)) ∈ xTs := xTs_of (xt_4 (xnth_mem 116 rfl)) rfl
theorem kw4_117 : (Jvm.Cond.instanceMethod ({ cls := "PillarSaints$Plan", name := "add", desc := "(IIII)V" } : Jvm.MethodName)) ∈ xTs := xTs_of (xt_4 (xnth_mem 117 rfl)) rfl
theorem kw4_118 : (Jvm.Cond.selects "PillarSaints$Plan" ({ cls := "PillarSaints$Plan", name := "add", desc := "(IIII)V" } : Jvm.MethodName) ({ cls := "PillarSaints$Plan", name := "add", desc := "(IIII)V" } : Jvm.MethodName)) ∈ xTs := xTs_of (xt_4 (xnth_mem 118 rfl)) rfl
theorem kw4_119 : (Jvm.Cond.code ({ cls := "PillarSaints$Plan", name := "add", desc := "(IIII)V" } : Jvm.MethodName) prog_6_method_3_code (5 : Nat) (Option.none : Option Jvm.ClassFile.FieldType)) ∈ xTs := xTs_of (xt_4 (xnth_mem 119 rfl)) rfl
theorem kw4_120 : (Jvm.Cond.methodLink "PillarSaints$Reader" (102 : Nat) ({ cls := "PillarSaints$Reader", name := "tenetLine", desc := "()Z" } : Jvm.MethodName)) ∈ xTs := xTs_of (xt_4 (xnth_mem 120 rfl)) rfl
theorem kw4_122 : (Jvm.Cond.instanceMethod ({ cls := "PillarSaints$Reader", name := "tenetLine", desc := "()Z" } : Jvm.MethodName)) ∈ xTs := xTs_of (xt_4 (xnth_mem 122 rfl)) rfl
theorem kw4_123 : (Jvm.Cond.code ({ cls := "PillarSaints$Reader", name := "tenetLine", desc := "()Z" } : Jvm.MethodName) prog_7_method_19_code (3 : Nat) (Option.some Jvm.ClassFile.FieldType.boolean)) ∈ xTs := xTs_of (xt_4 (xnth_mem 123 rfl)) rfl
theorem kw4_124 : (Jvm.Cond.methodLink "PillarSaints$Reader" (177 : Nat) ({ cls := "PillarSaints$Tenets", name := "add", desc := "(II)V" } : Jvm.MethodName)) ∈ xTs := xTs_of (xt_4 (xnth_mem 124 rfl)) rfl
theorem kw4_125 : (Jvm.Cond.instanceMethod ({ cls := "PillarSaints$Tenets", name := "add", desc := "(II)V" } : Jvm.MethodName)) ∈ xTs := xTs_of (xt_4 (xnth_mem 125 rfl)) rfl
theorem kw4_126 : (Jvm.Cond.selects "PillarSaints$Tenets" ({ cls := "PillarSaints$Tenets", name := "add", desc := "(II)V" } : Jvm.MethodName) ({ cls := "PillarSaints$Tenets", name := "add", desc := "(II)V" } : Jvm.MethodName)) ∈ xTs := xTs_of (xt_4 (xnth_mem 126 rfl)) rfl
theorem kw4_127 : (Jvm.Cond.code ({ cls := "PillarSaints$Tenets", name := "add", desc := "(II)V" } : Jvm.MethodName) prog_9_method_3_code (3 : Nat) (Option.none : Option Jvm.ClassFile.FieldType)) ∈ xTs := xTs_of (xt_4 (xnth_mem 127 rfl)) rfl
theorem kw4_128 : (Jvm.Cond.methodLink "PillarSaints" (131 : Nat) ({ cls := "PillarSaints$Desert", name := "takeText", desc := "(ILPillarSaints$Reader;)V" } : Jvm.MethodName)) ∈ xTs := xTs_of (xt_4 (xnth_mem 128 rfl)) rfl
theorem kw4_129 : (Jvm.Cond.instanceMethod ({ cls := "PillarSaints$Desert", name := "takeText", desc := "(ILPillarSaints$Reader;)V" } : Jvm.MethodName)) ∈ xTs := xTs_of (xt_4 (xnth_mem 129 rfl)) rfl
theorem kw4_130 : (Jvm.Cond.selects "PillarSaints$Desert" ({ cls := "PillarSaints$Desert", name := "takeText", desc := "(ILPillarSaints$Reader;)V" } : Jvm.MethodName) ({ cls := "PillarSaints$Desert", name := "takeText", desc := "(ILPillarSaints$Reader;)V" } : Jvm.MethodName)) ∈ xTs := xTs_of (xt_4 (xnth_mem 130 rfl)) rfl
theorem kw4_131 : (Jvm.Cond.code ({ cls := "PillarSaints$Desert", name := "takeText", desc := "(ILPillarSaints$Reader;)V" } : Jvm.MethodName) prog_2_method_3_code (3 : Nat) (Option.none : Option Jvm.ClassFile.FieldType)) ∈ xTs := xTs_of (xt_4 (xnth_mem 131 rfl)) rfl
theorem kw4_132 : (Jvm.Cond.methodLink "PillarSaints$Desert" (59 : Nat) ({ cls := "PillarSaints$Law", name := "copyFrom", desc := "(LPillarSaints$Law;)V" } : Jvm.MethodName)) ∈ xTs := xTs_of (xt_4 (xnth_mem 132 rfl)) rfl
theorem kw4_133 : (Jvm.Cond.instanceMethod ({ cls := "PillarSaints$Law", name := "copyFrom", desc := "(LPillarSaints$Law;)V" } : Jvm.MethodName)) ∈ xTs := xTs_of (xt_4 (xnth_mem 133 rfl)) rfl
theorem kw4_134 : (Jvm.Cond.selects "PillarSaints$Law" ({ cls := "PillarSaints$Law", name := "copyFrom", desc := "(LPillarSaints$Law;)V" } : Jvm.MethodName) ({ cls := "PillarSaints$Law", name := "copyFrom", desc := "(LPillarSaints$Law;)V" } : Jvm.MethodName)) ∈ xTs := xTs_of (xt_4 (xnth_mem 134 rfl)) rfl
theorem kw4_135 : (Jvm.Cond.code ({ cls := "PillarSaints$Law", name := "copyFrom", desc := "(LPillarSaints$Law;)V" } : Jvm.MethodName) prog_4_method_3_code (2 : Nat) (Option.none : Option Jvm.ClassFile.FieldType)) ∈ xTs := xTs_of (xt_4 (xnth_mem 135 rfl)) rfl
theorem kw4_136 : (Jvm.Cond.methodLink "PillarSaints$Law" (37 : Nat) ({ cls := "java/lang/System", name := "arraycopy", desc := "(Ljava/lang/Object;ILjava/lang/Object;II)V" } : Jvm.MethodName)) ∈ xTs := xTs_of (xt_4 (xnth_mem 136 rfl)) rfl
theorem kw4_137 : (Jvm.Cond.methodLink "PillarSaints$Desert" (62 : Nat) ({ cls := "PillarSaints$Sky", name := "copyFrom", desc := "(LPillarSaints$Sky;)V" } : Jvm.MethodName)) ∈ xTs := xTs_of (xt_4 (xnth_mem 137 rfl)) rfl
theorem kw4_138 : (Jvm.Cond.instanceMethod ({ cls := "PillarSaints$Sky", name := "copyFrom", desc := "(LPillarSaints$Sky;)V" } : Jvm.MethodName)) ∈ xTs := xTs_of (xt_4 (xnth_mem 138 rfl)) rfl
theorem kw4_139 : (Jvm.Cond.selects "PillarSaints$Sky" ({ cls := "PillarSaints$Sky", name := "copyFrom", desc := "(LPillarSaints$Sky;)V" } : Jvm.MethodName) ({ cls := "PillarSaints$Sky", name := "copyFrom", desc := "(LPillarSaints$Sky;)V" } : Jvm.MethodName)) ∈ xTs := xTs_of (xt_4 (xnth_mem 139 rfl)) rfl
theorem kw4_140 : (Jvm.Cond.code ({ cls := "PillarSaints$Sky", name := "copyFrom", desc := "(LPillarSaints$Sky;)V" } : Jvm.MethodName) prog_8_method_2_code (2 : Nat) (Option.none : Option Jvm.ClassFile.FieldType)) ∈ xTs := xTs_of (xt_4 (xnth_mem 140 rfl)) rfl
theorem kw4_141 : (Jvm.Cond.methodLink "PillarSaints$Sky" (18 : Nat) ({ cls := "java/lang/System", name := "arraycopy", desc := "(Ljava/lang/Object;ILjava/lang/Object;II)V" } : Jvm.MethodName)) ∈ xTs := xTs_of (xt_4 (xnth_mem 141 rfl)) rfl
theorem kw4_142 : (Jvm.Cond.methodLink "PillarSaints$Desert" (65 : Nat) ({ cls := "PillarSaints$Plan", name := "copyFrom", desc := "(LPillarSaints$Plan;)V" } : Jvm.MethodName)) ∈ xTs := xTs_of (xt_4 (xnth_mem 142 rfl)) rfl
theorem kw4_143 : (Jvm.Cond.instanceMethod ({ cls := "PillarSaints$Plan", name := "copyFrom", desc := "(LPillarSaints$Plan;)V" } : Jvm.MethodName)) ∈ xTs := xTs_of (xt_4 (xnth_mem 143 rfl)) rfl
theorem kw4_144 : (Jvm.Cond.selects "PillarSaints$Plan" ({ cls := "PillarSaints$Plan", name := "copyFrom", desc := "(LPillarSaints$Plan;)V" } : Jvm.MethodName) ({ cls := "PillarSaints$Plan", name := "copyFrom", desc := "(LPillarSaints$Plan;)V" } : Jvm.MethodName)) ∈ xTs := xTs_of (xt_4 (xnth_mem 144 rfl)) rfl
theorem kw4_145 : (Jvm.Cond.code ({ cls := "PillarSaints$Plan", name := "copyFrom", desc := "(LPillarSaints$Plan;)V" } : Jvm.MethodName) prog_6_method_2_code (2 : Nat) (Option.none : Option Jvm.ClassFile.FieldType)) ∈ xTs := xTs_of (xt_4 (xnth_mem 145 rfl)) rfl
theorem kw4_146 : (Jvm.Cond.methodLink "PillarSaints$Plan" (24 : Nat) ({ cls := "java/lang/System", name := "arraycopy", desc := "(Ljava/lang/Object;ILjava/lang/Object;II)V" } : Jvm.MethodName)) ∈ xTs := xTs_of (xt_4 (xnth_mem 146 rfl)) rfl
theorem kw4_147 : (Jvm.Cond.methodLink "PillarSaints$Desert" (68 : Nat) ({ cls := "PillarSaints$Tenets", name := "copyFrom", desc := "(LPillarSaints$Tenets;)V" } : Jvm.MethodName)) ∈ xTs := xTs_of (xt_4 (xnth_mem 147 rfl)) rfl
theorem kw4_148 : (Jvm.Cond.instanceMethod ({ cls := "PillarSaints$Tenets", name := "copyFrom", desc := "(LPillarSaints$Tenets;)V" } : Jvm.MethodName)) ∈ xTs := xTs_of (xt_4 (xnth_mem 148 rfl)) rfl
theorem kw4_149 : (Jvm.Cond.selects "PillarSaints$Tenets" ({ cls := "PillarSaints$Tenets", name := "copyFrom", desc := "(LPillarSaints$Tenets;)V" } : Jvm.MethodName) ({ cls := "PillarSaints$Tenets", name := "copyFrom", desc := "(LPillarSaints$Tenets;)V" } : Jvm.MethodName)) ∈ xTs := xTs_of (xt_4 (xnth_mem 149 rfl)) rfl
theorem kw4_150 : (Jvm.Cond.code ({ cls := "PillarSaints$Tenets", name := "copyFrom", desc := "(LPillarSaints$Tenets;)V" } : Jvm.MethodName) prog_9_method_2_code (2 : Nat) (Option.none : Option Jvm.ClassFile.FieldType)) ∈ xTs := xTs_of (xt_4 (xnth_mem 150 rfl)) rfl
theorem kw4_151 : (Jvm.Cond.methodLink "PillarSaints$Tenets" (18 : Nat) ({ cls := "java/lang/System", name := "arraycopy", desc := "(Ljava/lang/Object;ILjava/lang/Object;II)V" } : Jvm.MethodName)) ∈ xTs := xTs_of (xt_4 (xnth_mem 151 rfl)) rfl
theorem kw4_152 : (Jvm.Cond.methodLink "PillarSaintsLaw" (54 : Nat) ({ cls := "PillarSaints", name := "fault", desc := "(I)I" } : Jvm.MethodName)) ∈ xTs := xTs_of (xt_4 (xnth_mem 152 rfl)) rfl
theorem kw4_153 : (Jvm.Cond.instanceMethod ({ cls := "PillarSaints", name := "fault", desc := "(I)I" } : Jvm.MethodName)) ∈ xTs := xTs_of (xt_4 (xnth_mem 153 rfl)) rfl
theorem kw4_154 : (Jvm.Cond.selects "PillarSaints" ({ cls := "PillarSaints", name := "fault", desc := "(I)I" } : Jvm.MethodName) ({ cls := "PillarSaints", name := "fault", desc := "(I)I" } : Jvm.MethodName)) ∈ xTs := xTs_of (xt_4 (xnth_mem 154 rfl)) rfl
theorem kw4_155 : (Jvm.Cond.code ({ cls := "PillarSaints", name := "fault", desc := "(I)I" } : Jvm.MethodName) prog_1_method_11_code (2 : Nat) (Option.some Jvm.ClassFile.FieldType.int)) ∈ xTs := xTs_of (xt_4 (xnth_mem 155 rfl)) rfl
theorem kw4_156 : (Jvm.Cond.methodLink "PillarSaintsLaw" (58 : Nat) ({ cls := "PillarSaints", name := "of", desc := "(II)I" } : Jvm.MethodName)) ∈ xTs := xTs_of (xt_4 (xnth_mem 156 rfl)) rfl
theorem kw4_157 : (Jvm.Cond.instanceMethod ({ cls := "PillarSaints", name := "of", desc := "(II)I" } : Jvm.MethodName)) ∈ xTs := xTs_of (xt_4 (xnth_mem 157 rfl)) rfl
theorem kw4_158 : (Jvm.Cond.selects "PillarSaints" ({ cls := "PillarSaints", name := "of", desc := "(II)I" } : Jvm.MethodName) ({ cls := "PillarSaints", name := "of", desc := "(II)I" } : Jvm.MethodName)) ∈ xTs := xTs_of (xt_4 (xnth_mem 158 rfl)) rfl
theorem kw4_159 : (Jvm.Cond.code ({ cls := "PillarSaints", name := "of", desc := "(II)I" } : Jvm.MethodName) prog_1_method_12_code (4 : Nat) (Option.some Jvm.ClassFile.FieldType.int)) ∈ xTs := xTs_of (xt_4 (xnth_mem 159 rfl)) rfl
theorem kw4_160 : (Jvm.Cond.methodLink "PillarSaints" (141 : Nat) ({ cls := "PillarSaints$World", name := "isSaint", desc := "(I)Z" } : Jvm.MethodName)) ∈ xTs := xTs_of (xt_4 (xnth_mem 160 rfl)) rfl
theorem kw4_161 : (Jvm.Cond.methodLink "PillarSaints" (149 : Nat) ({ cls := "PillarSaints$Law", name := "tells", desc := "(ILPillarSaints$World;I)I" } : Jvm.MethodName)) ∈ xTs := xTs_of (xt_4 (xnth_mem 161 rfl)) rfl
theorem kw4_162 : (Jvm.Cond.methodLink "PillarSaints" (155 : Nat) ({ cls := "PillarSaints$World", name := "ofSaint", desc := "(II)I" } : Jvm.MethodName)) ∈ xTs := xTs_of (xt_4 (xnth_mem 162 rfl)) rfl
theorem kw4_163 : (Jvm.Cond.instanceMethod ({ cls := "PillarSaints$World", name := "ofSaint", desc := "(II)I" } : Jvm.MethodName)) ∈ xTs := xTs_of (xt_4 (xnth_mem 163 rfl)) rfl
theorem kw4_164 : (Jvm.Cond.selects "PillarSaints$World" ({ cls := "PillarSaints$World", name := "ofSaint", desc := "(II)I" } : Jvm.MethodName) ({ cls := "PillarSaints$World", name := "ofSaint", desc := "(II)I" } : Jvm.MethodName)) ∈ xTs := xTs_of (xt_4 (xnth_mem 164 rfl)) rfl
theorem kw4_165 : (Jvm.Cond.code ({ cls := "PillarSaints$World", name := "ofSaint", desc := "(II)I" } : Jvm.MethodName) prog_11_method_29_code (3 : Nat) (Option.some Jvm.ClassFile.FieldType.int)) ∈ xTs := xTs_of (xt_4 (xnth_mem 165 rfl)) rfl
theorem kw4_166 : (Jvm.Cond.methodLink "PillarSaintsLaw" (63 : Nat) ({ cls := "PillarSaints", name := "at", desc := "(II)I" } : Jvm.MethodName)) ∈ xTs := xTs_of (xt_4 (xnth_mem 166 rfl)) rfl
theorem kw4_167 : (Jvm.Cond.instanceMethod ({ cls := "PillarSaints", name := "at", desc := "(II)I" } : Jvm.MethodName)) ∈ xTs := xTs_of (xt_4 (xnth_mem 167 rfl)) rfl
theorem kw4_168 : (Jvm.Cond.selects "PillarSaints" ({ cls := "PillarSaints", name := "at", desc := "(II)I" } : Jvm.MethodName) ({ cls := "PillarSaints", name := "at", desc := "(II)I" } : Jvm.MethodName)) ∈ xTs := xTs_of (xt_4 (xnth_mem 168 rfl)) rfl
theorem kw4_169 : (Jvm.Cond.code ({ cls := "PillarSaints", name := "at", desc := "(II)I" } : Jvm.MethodName) prog_1_method_13_code (4 : Nat) (Option.some Jvm.ClassFile.FieldType.int)) ∈ xTs := xTs_of (xt_4 (xnth_mem 169 rfl)) rfl
theorem kw4_170 : (Jvm.Cond.methodLink "PillarSaints" (158 : Nat) ({ cls := "PillarSaints$World", name := "isPillar", desc := "(I)Z" } : Jvm.MethodName)) ∈ xTs := xTs_of (xt_4 (xnth_mem 170 rfl)) rfl
theorem kw4_171 : (Jvm.Cond.methodLink "PillarSaintsLaw" (67 : Nat) ({ cls := "PillarSaints", name := "sky", desc := "(I)I" } : Jvm.MethodName)) ∈ xTs := xTs_of (xt_4 (xnth_mem 171 rfl)) rfl
theorem kw4_172 : (Jvm.Cond.instanceMethod ({ cls := "PillarSaints", name := "sky", desc := "(I)I" } : Jvm.MethodName)) ∈ xTs := xTs_of (xt_4 (xnth_mem 172 rfl)) rfl
theorem kw4_173 : (Jvm.Cond.selects "PillarSaints" ({ cls := "PillarSaints", name := "sky", desc := "(I)I" } : Jvm.MethodName) ({ cls := "PillarSaints", name := "sky", desc := "(I)I" } : Jvm.MethodName)) ∈ xTs := xTs_of (xt_4 (xnth_mem 173 rfl)) rfl
theorem kw4_174 : (Jvm.Cond.code ({ cls := "PillarSaints", name := "sky", desc := "(I)I" } : Jvm.MethodName) prog_1_method_14_code (2 : Nat) (Option.some Jvm.ClassFile.FieldType.int)) ∈ xTs := xTs_of (xt_4 (xnth_mem 174 rfl)) rfl
theorem kw4_175 : (Jvm.Cond.methodLink "PillarSaints" (175 : Nat) ({ cls := "PillarSaints$Sky", name := "weatherOn", desc := "(I)I" } : Jvm.MethodName)) ∈ xTs := xTs_of (xt_4 (xnth_mem 175 rfl)) rfl
theorem kw4_176 : (Jvm.Cond.methodLink "PillarSaintsLaw" (71 : Nat) ({ cls := "PillarSaints", name := "book", desc := "(II)I" } : Jvm.MethodName)) ∈ xTs := xTs_of (xt_4 (xnth_mem 176 rfl)) rfl
theorem kw4_177 : (Jvm.Cond.instanceMethod ({ cls := "PillarSaints", name := "book", desc := "(II)I" } : Jvm.MethodName)) ∈ xTs := xTs_of (xt_4 (xnth_mem 177 rfl)) rfl
theorem kw4_178 : (Jvm.Cond.selects "PillarSaints" ({ cls := "PillarSaints", name := "book", desc := "(II)I" } : Jvm.MethodName) ({ cls := "PillarSaints", name := "book", desc := "(II)I" } : Jvm.MethodName)) ∈ xTs := xTs_of (xt_4 (xnth_mem 178 rfl)) rfl
theorem kw4_179 : (Jvm.Cond.code ({ cls := "PillarSaints", name := "book", desc := "(II)I" } : Jvm.MethodName) prog_1_method_15_code (3 : Nat) (Option.some Jvm.ClassFile.FieldType.int)) ∈ xTs := xTs_of (xt_4 (xnth_mem 179 rfl)) rfl
theorem kw4_180 : (Jvm.Cond.methodLink "PillarSaints" (183 : Nat) ({ cls := "PillarSaints$World", name := "cell", desc := "(II)I" } : Jvm.MethodName)) ∈ xTs := xTs_of (xt_4 (xnth_mem 180 rfl)) rfl
theorem kw4_181 : (Jvm.Cond.instanceMethod ({ cls := "PillarSaints$World", name := "cell", desc := "(II)I" } : Jvm.MethodName)) ∈ xTs := xTs_of (xt_4 (xnth_mem 181 rfl)) rfl
theorem kw4_182 : (Jvm.Cond.selects "PillarSaints$World" ({ cls := "PillarSaints$World", name := "cell", desc := "(II)I" } : Jvm.MethodName) ({ cls := "PillarSaints$World", name := "cell", desc := "(II)I" } : Jvm.MethodName)) ∈ xTs := xTs_of (xt_4 (xnth_mem 182 rfl)) rfl
theorem kw4_183 : (Jvm.Cond.code ({ cls := "PillarSaints$World", name := "cell", desc := "(II)I" } : Jvm.MethodName) prog_11_method_27_code (4 : Nat) (Option.some Jvm.ClassFile.FieldType.int)) ∈ xTs := xTs_of (xt_4 (xnth_mem 183 rfl)) rfl
theorem kw4_184 : (Jvm.Cond.methodLink "PillarSaintsLaw" (75 : Nat) ({ cls := "PillarSaints", name := "goes", desc := "(II)I" } : Jvm.MethodName)) ∈ xTs := xTs_of (xt_4 (xnth_mem 184 rfl)) rfl
theorem kw4_185 : (Jvm.Cond.instanceMethod ({ cls := "PillarSaints", name := "goes", desc := "(II)I" } : Jvm.MethodName)) ∈ xTs := xTs_of (xt_4 (xnth_mem 185 rfl)) rfl
theorem kw4_186 : (Jvm.Cond.selects "PillarSaints" ({ cls := "PillarSaints", name := "goes", desc := "(II)I" } : Jvm.MethodName) ({ cls := "PillarSaints", name := "goes", desc := "(II)I" } : Jvm.MethodName)) ∈ xTs := xTs_of (xt_4 (xnth_mem 186 rfl)) rfl
theorem kw4_187 : (Jvm.Cond.code ({ cls := "PillarSaints", name := "goes", desc := "(II)I" } : Jvm.MethodName) prog_1_method_16_code (4 : Nat) (Option.some Jvm.ClassFile.FieldType.int)) ∈ xTs := xTs_of (xt_4 (xnth_mem 187 rfl)) rfl
theorem kw4_188 : (Jvm.Cond.methodLink "PillarSaints" (186 : Nat) ({ cls := "PillarSaints$World", name := "copyFrom", desc := "(LPillarSaints$World;)V" } : Jvm.MethodName)) ∈ xTs := xTs_of (xt_4 (xnth_mem 188 rfl)) rfl
theorem kw4_189 : (Jvm.Cond.methodLink "PillarSaints" (192 : Nat) ({ cls := "java/lang/Integer", name := "bitCount", desc := "(I)I" } : Jvm.MethodName)) ∈ xTs := xTs_of (xt_4 (xnth_mem 189 rfl)) rfl
theorem kw4_190 : (Jvm.Cond.static ({ cls := "java/lang/Integer", name := "bitCount", desc := "(I)I" } : Jvm.MethodName)) ∈ xTs := xTs_of (xt_4 (xnth_mem 190 rfl)) rfl
theorem kw4_191 : (Jvm.Cond.code ({ cls := "java/lang/Integer", name := "bitCount", desc := "(I)I" } : Jvm.MethodName) prog_15_method_49_code (1 : Nat) (Option.some Jvm.ClassFile.FieldType.int)) ∈ xTs := xTs_of (xt_4 (xnth_mem 191 rfl)) rfl
theorem kw4_192 : (Jvm.Cond.constant "java/lang/Integer" (265 : Nat) (1431655765 : Int32)) ∈ xTs := xTs_of (xt_4 (xnth_mem 192 rfl)) rfl
theorem kw4_193 : (Jvm.Cond.constant "java/lang/Integer" (266 : Nat) (858993459 : Int32)) ∈ xTs := xTs_of (xt_4 (xnth_mem 193 rfl)) rfl
theorem kw4_194 : (Jvm.Cond.constant "java/lang/Integer" (267 : Nat) (252645135 : Int32)) ∈ xTs := xTs_of (xt_4 (xnth_mem 194 rfl)) rfl
theorem kw4_195 : (Jvm.Cond.methodLink "PillarSaints" (200 : Nat) ({ cls := "PillarSaints$World", name := "hungerOfLiving", desc := "()I" } : Jvm.MethodName)) ∈ xTs := xTs_of (xt_4 (xnth_mem 195 rfl)) rfl
theorem kw4_196 : (Jvm.Cond.instanceMethod ({ cls := "PillarSaints$World", name := "hungerOfLiving", desc := "()I" } : Jvm.MethodName)) ∈ xTs := xTs_of (xt_4 (xnth_mem 196 rfl)) rfl
theorem kw4_197 : (Jvm.Cond.selects "PillarSaints$World" ({ cls := "PillarSaints$World", name := "hungerOfLiving", desc := "()I" } : Jvm.MethodName) ({ cls := "PillarSaints$World", name := "hungerOfLiving", desc := "()I" } : Jvm.MethodName)) ∈ xTs := xTs_of (xt_4 (xnth_mem 197 rfl)) rfl
theorem kw4_198 : (Jvm.Cond.code ({ cls := "PillarSaints$World", name := "hungerOfLiving", desc := "()I" } : Jvm.MethodName) prog_11_method_31_code (3 : Nat) (Option.some Jvm.ClassFile.FieldType.int)) ∈ xTs := xTs_of (xt_4 (xnth_mem 198 rfl)) rfl
theorem kw4_199 : (Jvm.Cond.methodLink "PillarSaints" (204 : Nat) ({ cls := "PillarSaints$World", name := "lastAdvice", desc := "()I" } : Jvm.MethodName)) ∈ xTs := xTs_of (xt_4 (xnth_mem 199 rfl)) rfl
theorem kw4_200 : (Jvm.Cond.instanceMethod ({ cls := "PillarSaints$World", name := "lastAdvice", desc := "()I" } : Jvm.MethodName)) ∈ xTs := xTs_of (xt_4 (xnth_mem 200 rfl)) rfl
theorem kw4_201 : (Jvm.Cond.selects "PillarSaints$World" ({ cls := "PillarSaints$World", name := "lastAdvice", desc := "()I" } : Jvm.MethodName) ({ cls := "PillarSaints$World", name := "lastAdvice", desc := "()I" } : Jvm.MethodName)) ∈ xTs := xTs_of (xt_4 (xnth_mem 201 rfl)) rfl
theorem kw4_202 : (Jvm.Cond.code ({ cls := "PillarSaints$World", name := "lastAdvice", desc := "()I" } : Jvm.MethodName) prog_11_method_32_code (1 : Nat) (Option.some Jvm.ClassFile.FieldType.int)) ∈ xTs := xTs_of (xt_4 (xnth_mem 202 rfl)) rfl
theorem kw4_203 : (Jvm.Cond.methodLink "PillarSaintsLaw" (79 : Nat) ({ cls := "PillarSaints", name := "loaves", desc := "()I" } : Jvm.MethodName)) ∈ xTs := xTs_of (xt_4 (xnth_mem 203 rfl)) rfl
theorem kw4_204 : (Jvm.Cond.instanceMethod ({ cls := "PillarSaints", name := "loaves", desc := "()I" } : Jvm.MethodName)) ∈ xTs := xTs_of (xt_4 (xnth_mem 204 rfl)) rfl
theorem kw4_205 : (Jvm.Cond.selects "PillarSaints" ({ cls := "PillarSaints", name := "loaves", desc := "()I" } : Jvm.MethodName) ({ cls := "PillarSaints", name := "loaves", desc := "()I" } : Jvm.MethodName)) ∈ xTs := xTs_of (xt_4 (xnth_mem 205 rfl)) rfl
theorem kw4_206 : (Jvm.Cond.code ({ cls := "PillarSaints", name := "loaves", desc := "()I" } : Jvm.MethodName) prog_1_method_17_code (5 : Nat) (Option.some Jvm.ClassFile.FieldType.int)) ∈ xTs := xTs_of (xt_4 (xnth_mem 206 rfl)) rfl
theorem kw4_207 : (Jvm.Cond.methodLink "PillarSaints" (207 : Nat) ({ cls := "PillarSaints$World", name := "sitterOn", desc := "(I)I" } : Jvm.MethodName)) ∈ xTs := xTs_of (xt_4 (xnth_mem 207 rfl)) rfl
theorem kw4_208 : (Jvm.Cond.methodLink "PillarSaintsLaw" (84 : Nat) ({ cls := "PillarSaints", name := "heir", desc := "(I)I" } : Jvm.MethodName)) ∈ xTs := xTs_of (xt_4 (xnth_mem 208 rfl)) rfl
theorem kw4_209 : (Jvm.Cond.instanceMethod ({ cls := "PillarSaints", name := "heir", desc := "(I)I" } : Jvm.MethodName)) ∈ xTs := xTs_of (xt_4 (xnth_mem 209 rfl)) rfl
theorem kw4_210 : (Jvm.Cond.selects "PillarSaints" ({ cls := "PillarSaints", name := "heir", desc := "(I)I" } : Jvm.MethodName) ({ cls := "PillarSaints", name := "heir", desc := "(I)I" } : Jvm.MethodName)) ∈ xTs := xTs_of (xt_4 (xnth_mem 210 rfl)) rfl
theorem kw4_211 : (Jvm.Cond.code ({ cls := "PillarSaints", name := "heir", desc := "(I)I" } : Jvm.MethodName) prog_1_method_18_code (3 : Nat) (Option.some Jvm.ClassFile.FieldType.int)) ∈ xTs := xTs_of (xt_4 (xnth_mem 211 rfl)) rfl
theorem kw4_212 : (Jvm.Cond.methodLink "PillarSaints" (210 : Nat) ({ cls := "PillarSaints$World", name := "highest", desc := "()I" } : Jvm.MethodName)) ∈ xTs := xTs_of (xt_4 (xnth_mem 212 rfl)) rfl
theorem kw4_213 : (Jvm.Cond.methodLink "PillarSaints" (213 : Nat) ({ cls := "PillarSaints$World", name := "bury", desc := "(I)V" } : Jvm.MethodName)) ∈ xTs := xTs_of (xt_4 (xnth_mem 213 rfl)) rfl
theorem kw4_214 : (Jvm.Cond.methodLink "PillarSaints" (216 : Nat) ({ cls := "PillarSaints$World", name := "climb", desc := "()V" } : Jvm.MethodName)) ∈ xTs := xTs_of (xt_4 (xnth_mem 214 rfl)) rfl
theorem kw4_215 : (Jvm.Cond.methodLink "PillarSaintsLaw" (88 : Nat) ({ cls := "PillarSaints", name := "comes", desc := "(II)I" } : Jvm.MethodName)) ∈ xTs := xTs_of (xt_4 (xnth_mem 215 rfl)) rfl
theorem kw4_216 : (Jvm.Cond.instanceMethod ({ cls := "PillarSaints", name := "comes", desc := "(II)I" } : Jvm.MethodName)) ∈ xTs := xTs_of (xt_4 (xnth_mem 216 rfl)) rfl
theorem kw4_217 : (Jvm.Cond.selects "PillarSaints" ({ cls := "PillarSaints", name := "comes", desc := "(II)I" } : Jvm.MethodName) ({ cls := "PillarSaints", name := "comes", desc := "(II)I" } : Jvm.MethodName)) ∈ xTs := xTs_of (xt_4 (xnth_mem 217 rfl)) rfl
theorem kw4_218 : (Jvm.Cond.code ({ cls := "PillarSaints", name := "comes", desc := "(II)I" } : Jvm.MethodName) prog_1_method_19_code (7 : Nat) (Option.some Jvm.ClassFile.FieldType.int)) ∈ xTs := xTs_of (xt_4 (xnth_mem 218 rfl)) rfl
theorem kw4_219 : (Jvm.Cond.methodLink "PillarSaints" (219 : Nat) ({ cls := "PillarSaints$Desert", name := "adviceAt", desc := "(LPillarSaints$World;II)I" } : Jvm.MethodName)) ∈ xTs := xTs_of (xt_4 (xnth_mem 219 rfl)) rfl
theorem kw4_220 : (Jvm.Cond.methodLink "PillarSaintsLaw" (92 : Nat) ({ cls := "PillarSaints", name := "scandal", desc := "(I)I" } : Jvm.MethodName)) ∈ xTs := xTs_of (xt_4 (xnth_mem 220 rfl)) rfl
theorem kw4_221 : (Jvm.Cond.instanceMethod ({ cls := "PillarSaints", name := "scandal", desc := "(I)I" } : Jvm.MethodName)) ∈ xTs := xTs_of (xt_4 (xnth_mem 221 rfl)) rfl
theorem kw4_222 : (Jvm.Cond.selects "PillarSaints" ({ cls := "PillarSaints", name := "scandal", desc := "(I)I" } : Jvm.MethodName) ({ cls := "PillarSaints", name := "scandal", desc := "(I)I" } : Jvm.MethodName)) ∈ xTs := xTs_of (xt_4 (xnth_mem 222 rfl)) rfl
theorem kw4_223 : (Jvm.Cond.code ({ cls := "PillarSaints", name := "scandal", desc := "(I)I" } : Jvm.MethodName) prog_1_method_20_code (7 : Nat) (Option.some Jvm.ClassFile.FieldType.int)) ∈ xTs := xTs_of (xt_4 (xnth_mem 223 rfl)) rfl
theorem kw4_224 : (Jvm.Cond.methodLink "PillarSaints" (223 : Nat) ({ cls := "PillarSaints$World", name := "sitting", desc := "()I" } : Jvm.MethodName)) ∈ xTs := xTs_of (xt_4 (xnth_mem 224 rfl)) rfl
theorem kw4_225 : (Jvm.Cond.instanceMethod ({ cls := "PillarSaints$World", name := "sitting", desc := "()I" } : Jvm.MethodName)) ∈ xTs := xTs_of (xt_4 (xnth_mem 225 rfl)) rfl
theorem kw4_226 : (Jvm.Cond.selects "PillarSaints$World" ({ cls := "PillarSaints$World", name := "sitting", desc := "()I" } : Jvm.MethodName) ({ cls := "PillarSaints$World", name := "sitting", desc := "()I" } : Jvm.MethodName)) ∈ xTs := xTs_of (xt_4 (xnth_mem 226 rfl)) rfl
theorem kw4_227 : (Jvm.Cond.code ({ cls := "PillarSaints$World", name := "sitting", desc := "()I" } : Jvm.MethodName) prog_11_method_33_code (3 : Nat) (Option.some Jvm.ClassFile.FieldType.int)) ∈ xTs := xTs_of (xt_4 (xnth_mem 227 rfl)) rfl
theorem kw4_228 : (Jvm.Cond.methodLink "PillarSaints" (226 : Nat) ({ cls := "PillarSaints$World", name := "spread", desc := "(II)I" } : Jvm.MethodName)) ∈ xTs := xTs_of (xt_4 (xnth_mem 228 rfl)) rfl
theorem kw4_229 : (Jvm.Cond.instanceMethod ({ cls := "PillarSaints$World", name := "spread", desc := "(II)I" } : Jvm.MethodName)) ∈ xTs := xTs_of (xt_4 (xnth_mem 229 rfl)) rfl
theorem kw4_230 : (Jvm.Cond.selects "PillarSaints$World" ({ cls := "PillarSaints$World", name := "spread", desc := "(II)I" } : Jvm.MethodName) ({ cls := "PillarSaints$World", name := "spread", desc := "(II)I" } : Jvm.MethodName)) ∈ xTs := xTs_of (xt_4 (xnth_mem 230 rfl)) rfl
theorem kw4_231 : (Jvm.Cond.code ({ cls := "PillarSaints$World", name := "spread", desc := "(II)I" } : Jvm.MethodName) prog_11_method_34_code (8 : Nat) (Option.some Jvm.ClassFile.FieldType.int)) ∈ xTs := xTs_of (xt_4 (xnth_mem 231 rfl)) rfl
theorem kw4_232 : (Jvm.Cond.methodLink "PillarSaintsLaw" (96 : Nat) ({ cls := "PillarSaints", name := "middle", desc := "(I)I" } : Jvm.MethodName)) ∈ xTs := xTs_of (xt_4 (xnth_mem 232 rfl)) rfl
theorem kw4_233 : (Jvm.Cond.instanceMethod ({ cls := "PillarSaints", name := "middle", desc := "(I)I" } : Jvm.MethodName)) ∈ xTs := xTs_of (xt_4 (xnth_mem 233 rfl)) rfl
theorem kw4_234 : (Jvm.Cond.selects "PillarSaints" ({ cls := "PillarSaints", name := "middle", desc := "(I)I" } : Jvm.MethodName) ({ cls := "PillarSaints", name := "middle", desc := "(I)I" } : Jvm.MethodName)) ∈ xTs := xTs_of (xt_4 (xnth_mem 234 rfl)) rfl
theorem kw4_235 : (Jvm.Cond.code ({ cls := "PillarSaints", name := "middle", desc := "(I)I" } : Jvm.MethodName) prog_1_method_21_code (6 : Nat) (Option.some Jvm.ClassFile.FieldType.int)) ∈ xTs := xTs_of (xt_4 (xnth_mem 235 rfl)) rfl
theorem kw4_236 : (Jvm.Cond.methodLink "PillarSaints" (229 : Nat) ({ cls := "PillarSaints$World", name := "wayTo", desc := "(I)I" } : Jvm.MethodName)) ∈ xTs := xTs_of (xt_4 (xnth_mem 236 rfl)) rfl
theorem kw4_237 : (Jvm.Cond.instanceMethod ({ cls := "PillarSaints$World", name := "wayTo", desc := "(I)I" } : Jvm.MethodName)) ∈ xTs := xTs_of (xt_4 (xnth_mem 237 rfl)) rfl
theorem kw4_238 : (Jvm.Cond.selects "PillarSaints$World" ({ cls := "PillarSaints$World", name := "wayTo", desc := "(I)I" } : Jvm.MethodName) ({ cls := "PillarSaints$World", name := "wayTo", desc := "(I)I" } : Jvm.MethodName)) ∈ xTs := xTs_of (xt_4 (xnth_mem 238 rfl)) rfl
theorem kw4_239 : (Jvm.Cond.code ({ cls := "PillarSaints$World", name := "wayTo", desc := "(I)I" } : Jvm.MethodName) prog_11_method_35_code (4 : Nat) (Option.some Jvm.ClassFile.FieldType.int)) ∈ xTs := xTs_of (xt_4 (xnth_mem 239 rfl)) rfl
theorem kw5_0 : (Jvm.Cond.methodLink "PillarSaints$World" (135 : Nat) ({ cls := "java/lang/Math", name := "abs", desc := "(I)I" } : Jvm.MethodName)) ∈ xTs := xTs_of (xt_5 (xnth_mem 0 rfl)) rfl
theorem kw5_1 : (Jvm.Cond.static ({ cls := "java/lang/Math", name := "abs", desc := "(I)I" } : Jvm.MethodName)) ∈ xTs := xTs_of (xt_5 (xnth_mem 1 rfl)) rfl
theorem kw5_2 : (Jvm.Cond.code ({ cls := "java/lang/Math", name := "abs", desc := "(I)I" } : Jvm.MethodName) prog_16_method_59_code (1 : Nat) (Option.some Jvm.ClassFile.FieldType.int)) ∈ xTs := xTs_of (xt_5 (xnth_mem 2 rfl)) rfl
theorem kw5_3 : (Jvm.Cond.methodLink "PillarSaintsLaw" (100 : Nat) ({ cls := "PillarSaints", name := "follows", desc := "(I)I" } : Jvm.MethodName)) ∈ xTs := xTs_of (xt_5 (xnth_mem 3 rfl)) rfl
theorem kw5_4 : (Jvm.Cond.instanceMethod ({ cls := "PillarSaints", name := "follows", desc := "(I)I" } : Jvm.MethodName)) ∈ xTs := xTs_of (xt_5 (xnth_mem 4 rfl)) rfl
theorem kw5_5 : (Jvm.Cond.selects "PillarSaints" ({ cls := "PillarSaints", name := "follows", desc := "(I)I" } : Jvm.MethodName) ({ cls := "PillarSaints", name := "follows", desc := "(I)I" } : Jvm.MethodName)) ∈ xTs := xTs_of (xt_5 (xnth_mem 5 rfl)) rfl
theorem kw5_6 : (Jvm.Cond.code ({ cls := "PillarSaints", name := "follows", desc := "(I)I" } : Jvm.MethodName) prog_1_method_22_code (2 : Nat) (Option.some Jvm.ClassFile.FieldType.int)) ∈ xTs := xTs_of (xt_5 (xnth_mem 6 rfl)) rfl
theorem kw5_7 : (Jvm.Cond.constant "PillarSaints" (232 : Nat) (65536 : Int32)) ∈ xTs := xTs_of (xt_5 (xnth_mem 7 rfl)) rfl
theorem kw5_8 : (Jvm.Cond.methodLink "PillarSaints" (237 : Nat) ({ cls := "PillarSaints$Tenets", name := "closure", desc := "(II)I" } : Jvm.MethodName)) ∈ xTs := xTs_of (xt_5 (xnth_mem 8 rfl)) rfl
theorem kw5_9 : (Jvm.Cond.instanceMethod ({ cls := "PillarSaints$Tenets", name := "closure", desc := "(II)I" } : Jvm.MethodName)) ∈ xTs := xTs_of (xt_5 (xnth_mem 9 rfl)) rfl
theorem kw5_10 : (Jvm.Cond.selects "PillarSaints$Tenets" ({ cls := "PillarSaints$Tenets", name := "closure", desc := "(II)I" } : Jvm.MethodName) ({ cls := "PillarSaints$Tenets", name := "closure", desc := "(II)I" } : Jvm.MethodName)) ∈ xTs := xTs_of (xt_5 (xnth_mem 10 rfl)) rfl
theorem kw5_11 : (Jvm.Cond.code ({ cls := "PillarSaints$Tenets", name := "closure", desc := "(II)I" } : Jvm.MethodName) prog_9_method_4_code (8 : Nat) (Option.some Jvm.ClassFile.FieldType.int)) ∈ xTs := xTs_of (xt_5 (xnth_mem 11 rfl)) rfl
theorem kw5_12 : (Jvm.Cond.methodLink "PillarSaintsLaw" (104 : Nat) ({ cls := "PillarSaints", name := "gives", desc := "(II)I" } : Jvm.MethodName)) ∈ xTs := xTs_of (xt_5 (xnth_mem 12 rfl)) rfl
theorem kw5_13 : (Jvm.Cond.instanceMethod ({ cls := "PillarSaints", name := "gives", desc := "(II)I" } : Jvm.MethodName)) ∈ xTs := xTs_of (xt_5 (xnth_mem 13 rfl)) rfl
theorem kw5_14 : (Jvm.Cond.selects "PillarSaints" ({ cls := "PillarSaints", name := "gives", desc := "(II)I" } : Jvm.MethodName) ({ cls := "PillarSaints", name := "gives", desc := "(II)I" } : Jvm.MethodName)) ∈ xTs := xTs_of (xt_5 (xnth_mem 14 rfl)) rfl
theorem kw5_15 : (Jvm.Cond.code ({ cls := "PillarSaints", name := "gives", desc := "(II)I" } : Jvm.MethodName) prog_1_method_23_code (4 : Nat) (Option.some Jvm.ClassFile.FieldType.int)) ∈ xTs := xTs_of (xt_5 (xnth_mem 15 rfl)) rfl
theorem kw5_16 : (Jvm.Cond.methodLink "PillarSaints" (242 : Nat) ({ cls := "PillarSaints$Tenets", name := "idle", desc := "()I" } : Jvm.MethodName)) ∈ xTs := xTs_of (xt_5 (xnth_mem 16 rfl)) rfl
theorem kw5_17 : (Jvm.Cond.instanceMethod ({ cls := "PillarSaints$Tenets", name := "idle", desc := "()I" } : Jvm.MethodName)) ∈ xTs := xTs_of (xt_5 (xnth_mem 17 rfl)) rfl
theorem kw5_18 : (Jvm.Cond.selects "PillarSaints$Tenets" ({ cls := "PillarSaints$Tenets", name := "idle", desc := "()I" } : Jvm.MethodName) ({ cls := "PillarSaints$Tenets", name := "idle", desc := "()I" } : Jvm.MethodName)) ∈ xTs := xTs_of (xt_5 (xnth_mem 18 rfl)) rfl
theorem kw5_19 : (Jvm.Cond.code ({ cls := "PillarSaints$Tenets", name := "idle", desc := "()I" } : Jvm.MethodName) prog_9_method_5_code (3 : Nat) (Option.some Jvm.ClassFile.FieldType.int)) ∈ xTs := xTs_of (xt_5 (xnth_mem 19 rfl)) rfl
theorem kw5_20 : (Jvm.Cond.methodLink "PillarSaints$Tenets" (28 : Nat) ({ cls := "PillarSaints$Tenets", name := "closure", desc := "(II)I" } : Jvm.MethodName)) ∈ xTs := xTs_of (xt_5 (xnth_mem 20 rfl)) rfl
theorem kw5_21 : (Jvm.Cond.methodLink "PillarSaints" (245 : Nat) ({ cls := "PillarSaints$Tenets", name := "fewestFor", desc := "(I)I" } : Jvm.MethodName)) ∈ xTs := xTs_of (xt_5 (xnth_mem 21 rfl)) rfl
theorem kw5_22 : (Jvm.Cond.instanceMethod ({ cls := "PillarSaints$Tenets", name := "fewestFor", desc := "(I)I" } : Jvm.MethodName)) ∈ xTs := xTs_of (xt_5 (xnth_mem 22 rfl)) rfl
theorem kw5_23 : (Jvm.Cond.selects "PillarSaints$Tenets" ({ cls := "PillarSaints$Tenets", name := "fewestFor", desc := "(I)I" } : Jvm.MethodName) ({ cls := "PillarSaints$Tenets", name := "fewestFor", desc := "(I)I" } : Jvm.MethodName)) ∈ xTs := xTs_of (xt_5 (xnth_mem 23 rfl)) rfl
theorem kw5_24 : (Jvm.Cond.code ({ cls := "PillarSaints$Tenets", name := "fewestFor", desc := "(I)I" } : Jvm.MethodName) prog_9_method_6_code (11 : Nat) (Option.some Jvm.ClassFile.FieldType.int)) ∈ xTs := xTs_of (xt_5 (xnth_mem 24 rfl)) rfl
theorem kw5_25 : (Jvm.Cond.methodLink "PillarSaints$Tenets" (32 : Nat) ({ cls := "PillarSaints$Tenets", name := "leadingTo", desc := "(I)I" } : Jvm.MethodName)) ∈ xTs := xTs_of (xt_5 (xnth_mem 25 rfl)) rfl
theorem kw5_27 : (Jvm.Cond.instanceMethod ({ cls := "PillarSaints$Tenets", name := "leadingTo", desc := "(I)I" } : Jvm.MethodName)) ∈ xTs := xTs_of (xt_5 (xnth_mem 27 rfl)) rfl
theorem kw5_28 : (Jvm.Cond.code ({ cls := "PillarSaints$Tenets", name := "leadingTo", desc := "(I)I" } : Jvm.MethodName) prog_9_method_7_code (7 : Nat) (Option.some Jvm.ClassFile.FieldType.int)) ∈ xTs := xTs_of (xt_5 (xnth_mem 28 rfl)) rfl
theorem kw5_29 : (Jvm.Cond.methodLink "PillarSaints$Tenets" (36 : Nat) ({ cls := "PillarSaints$Tenets", name := "neededOf", desc := "(II)I" } : Jvm.MethodName)) ∈ xTs := xTs_of (xt_5 (xnth_mem 29 rfl)) rfl
theorem kw5_31 : (Jvm.Cond.instanceMethod ({ cls := "PillarSaints$Tenets", name := "neededOf", desc := "(II)I" } : Jvm.MethodName)) ∈ xTs := xTs_of (xt_5 (xnth_mem 31 rfl)) rfl
theorem kw5_32 : (Jvm.Cond.code ({ cls := "PillarSaints$Tenets", name := "neededOf", desc := "(II)I" } : Jvm.MethodName) prog_9_method_8_code (6 : Nat) (Option.some Jvm.ClassFile.FieldType.int)) ∈ xTs := xTs_of (xt_5 (xnth_mem 32 rfl)) rfl
theorem kw5_33 : (Jvm.Cond.constant "PillarSaints$Tenets" (39 : Nat) (65536 : Int32)) ∈ xTs := xTs_of (xt_5 (xnth_mem 33 rfl)) rfl
theorem kw5_34 : (Jvm.Cond.methodLink "PillarSaints$Tenets" (40 : Nat) ({ cls := "java/lang/Integer", name := "bitCount", desc := "(I)I" } : Jvm.MethodName)) ∈ xTs := xTs_of (xt_5 (xnth_mem 34 rfl)) rfl
theorem kw5_35 : (Jvm.Cond.methodLink "PillarSaintsLaw" (108 : Nat) ({ cls := "PillarSaints", name := "seen", desc := "(I)I" } : Jvm.MethodName)) ∈ xTs := xTs_of (xt_5 (xnth_mem 35 rfl)) rfl
theorem kw5_36 : (Jvm.Cond.instanceMethod ({ cls := "PillarSaints", name := "seen", desc := "(I)I" } : Jvm.MethodName)) ∈ xTs := xTs_of (xt_5 (xnth_mem 36 rfl)) rfl
theorem kw5_37 : (Jvm.Cond.selects "PillarSaints" ({ cls := "PillarSaints", name := "seen", desc := "(I)I" } : Jvm.MethodName) ({ cls := "PillarSaints", name := "seen", desc := "(I)I" } : Jvm.MethodName)) ∈ xTs := xTs_of (xt_5 (xnth_mem 37 rfl)) rfl
theorem kw5_38 : (Jvm.Cond.code ({ cls := "PillarSaints", name := "seen", desc := "(I)I" } : Jvm.MethodName) prog_1_method_24_code (2 : Nat) (Option.some Jvm.ClassFile.FieldType.int)) ∈ xTs := xTs_of (xt_5 (xnth_mem 38 rfl)) rfl
theorem kw5_39 : (Jvm.Cond.methodLink "PillarSaints" (248 : Nat) ({ cls := "PillarSaints$World", name := "seenFrom", desc := "(Z)I" } : Jvm.MethodName)) ∈ xTs := xTs_of (xt_5 (xnth_mem 39 rfl)) rfl
theorem kw5_40 : (Jvm.Cond.instanceMethod ({ cls := "PillarSaints$World", name := "seenFrom", desc := "(Z)I" } : Jvm.MethodName)) ∈ xTs := xTs_of (xt_5 (xnth_mem 40 rfl)) rfl
theorem kw5_41 : (Jvm.Cond.selects "PillarSaints$World" ({ cls := "PillarSaints$World", name := "seenFrom", desc := "(Z)I" } : Jvm.MethodName) ({ cls := "PillarSaints$World", name := "seenFrom", desc := "(Z)I" } : Jvm.MethodName)) ∈ xTs := xTs_of (xt_5 (xnth_mem 41 rfl)) rfl
theorem kw5_42 : (Jvm.Cond.code ({ cls := "PillarSaints$World", name := "seenFrom", desc := "(Z)I" } : Jvm.MethodName) prog_11_method_36_code (6 : Nat) (Option.some Jvm.ClassFile.FieldType.int)) ∈ xTs := xTs_of (xt_5 (xnth_mem 42 rfl)) rfl
theorem kw5_43 : (Jvm.Cond.methodLink "PillarSaints" (252 : Nat) ({ cls := "PillarSaints$World", name := "storks", desc := "()I" } : Jvm.MethodName)) ∈ xTs := xTs_of (xt_5 (xnth_mem 43 rfl)) rfl
theorem kw5_44 : (Jvm.Cond.instanceMethod ({ cls := "PillarSaints$World", name := "storks", desc := "()I" } : Jvm.MethodName)) ∈ xTs := xTs_of (xt_5 (xnth_mem 44 rfl)) rfl
theorem kw5_45 : (Jvm.Cond.selects "PillarSaints$World" ({ cls := "PillarSaints$World", name := "storks", desc := "()I" } : Jvm.MethodName) ({ cls := "PillarSaints$World", name := "storks", desc := "()I" } : Jvm.MethodName)) ∈ xTs := xTs_of (xt_5 (xnth_mem 45 rfl)) rfl
theorem kw5_46 : (Jvm.Cond.code ({ cls := "PillarSaints$World", name := "storks", desc := "()I" } : Jvm.MethodName) prog_11_method_37_code (5 : Nat) (Option.some Jvm.ClassFile.FieldType.int)) ∈ xTs := xTs_of (xt_5 (xnth_mem 46 rfl)) rfl
theorem kw5_47 : (Jvm.Cond.methodLink "PillarSaintsLaw" (112 : Nat) ({ cls := "PillarSaints", name := "hears", desc := "(II)I" } : Jvm.MethodName)) ∈ xTs := xTs_of (xt_5 (xnth_mem 47 rfl)) rfl
theorem kw5_48 : (Jvm.Cond.instanceMethod ({ cls := "PillarSaints", name := "hears", desc := "(II)I" } : Jvm.MethodName)) ∈ xTs := xTs_of (xt_5 (xnth_mem 48 rfl)) rfl
theorem kw5_49 : (Jvm.Cond.selects "PillarSaints" ({ cls := "PillarSaints", name := "hears", desc := "(II)I" } : Jvm.MethodName) ({ cls := "PillarSaints", name := "hears", desc := "(II)I" } : Jvm.MethodName)) ∈ xTs := xTs_of (xt_5 (xnth_mem 49 rfl)) rfl
theorem kw5_50 : (Jvm.Cond.code ({ cls := "PillarSaints", name := "hears", desc := "(II)I" } : Jvm.MethodName) prog_1_method_25_code (7 : Nat) (Option.some Jvm.ClassFile.FieldType.int)) ∈ xTs := xTs_of (xt_5 (xnth_mem 50 rfl)) rfl
theorem kw5_51 : (Jvm.Cond.methodLink "PillarSaints" (255 : Nat) ({ cls := "PillarSaints$World", name := "hearOneAnother", desc := "(II)Z" } : Jvm.MethodName)) ∈ xTs := xTs_of (xt_5 (xnth_mem 51 rfl)) rfl
theorem kw5_52 : (Jvm.Cond.instanceMethod ({ cls := "PillarSaints$World", name := "hearOneAnother", desc := "(II)Z" } : Jvm.MethodName)) ∈ xTs := xTs_of (xt_5 (xnth_mem 52 rfl)) rfl
theorem kw5_53 : (Jvm.Cond.selects "PillarSaints$World" ({ cls := "PillarSaints$World", name := "hearOneAnother", desc := "(II)Z" } : Jvm.MethodName) ({ cls := "PillarSaints$World", name := "hearOneAnother", desc := "(II)Z" } : Jvm.MethodName)) ∈ xTs := xTs_of (xt_5 (xnth_mem 53 rfl)) rfl
theorem kw5_54 : (Jvm.Cond.code ({ cls := "PillarSaints$World", name := "hearOneAnother", desc := "(II)Z" } : Jvm.MethodName) prog_11_method_38_code (6 : Nat) (Option.some Jvm.ClassFile.FieldType.boolean)) ∈ xTs := xTs_of (xt_5 (xnth_mem 54 rfl)) rfl
theorem kw5_55 : (Jvm.Cond.methodLink "PillarSaints" (259 : Nat) ({ cls := "java/lang/Math", name := "abs", desc := "(I)I" } : Jvm.MethodName)) ∈ xTs := xTs_of (xt_5 (xnth_mem 55 rfl)) rfl
theorem kw5_56 : (Jvm.Cond.methodLink "PillarSaintsLaw" (116 : Nat) ({ cls := "PillarSaints", name := "build", desc := "(II)I" } : Jvm.MethodName)) ∈ xTs := xTs_of (xt_5 (xnth_mem 56 rfl)) rfl
theorem kw5_57 : (Jvm.Cond.instanceMethod ({ cls := "PillarSaints", name := "build", desc := "(II)I" } : Jvm.MethodName)) ∈ xTs := xTs_of (xt_5 (xnth_mem 57 rfl)) rfl
theorem kw5_58 : (Jvm.Cond.selects "PillarSaints" ({ cls := "PillarSaints", name := "build", desc := "(II)I" } : Jvm.MethodName) ({ cls := "PillarSaints", name := "build", desc := "(II)I" } : Jvm.MethodName)) ∈ xTs := xTs_of (xt_5 (xnth_mem 58 rfl)) rfl
theorem kw5_59 : (Jvm.Cond.code ({ cls := "PillarSaints", name := "build", desc := "(II)I" } : Jvm.MethodName) prog_1_method_26_code (3 : Nat) (Option.some Jvm.ClassFile.FieldType.int)) ∈ xTs := xTs_of (xt_5 (xnth_mem 59 rfl)) rfl
theorem kw5_60 : (Jvm.Cond.methodLink "PillarSaints" (271 : Nat) ({ cls := "PillarSaints$Yard", name := "tell", desc := "(II)I" } : Jvm.MethodName)) ∈ xTs := xTs_of (xt_5 (xnth_mem 60 rfl)) rfl
theorem kw5_61 : (Jvm.Cond.instanceMethod ({ cls := "PillarSaints$Yard", name := "tell", desc := "(II)I" } : Jvm.MethodName)) ∈ xTs := xTs_of (xt_5 (xnth_mem 61 rfl)) rfl
theorem kw5_62 : (Jvm.Cond.selects "PillarSaints$Yard" ({ cls := "PillarSaints$Yard", name := "tell", desc := "(II)I" } : Jvm.MethodName) ({ cls := "PillarSaints$Yard", name := "tell", desc := "(II)I" } : Jvm.MethodName)) ∈ xTs := xTs_of (xt_5 (xnth_mem 62 rfl)) rfl
theorem kw5_63 : (Jvm.Cond.code ({ cls := "PillarSaints$Yard", name := "tell", desc := "(II)I" } : Jvm.MethodName) prog_12_method_3_code (3 : Nat) (Option.some Jvm.ClassFile.FieldType.int)) ∈ xTs := xTs_of (xt_5 (xnth_mem 63 rfl)) rfl
theorem kw5_64 : (Jvm.Cond.methodLink "PillarSaintsLaw" (120 : Nat) ({ cls := "PillarSaints", name := "builds", desc := "(I)I" } : Jvm.MethodName)) ∈ xTs := xTs_of (xt_5 (xnth_mem 64 rfl)) rfl
theorem kw5_65 : (Jvm.Cond.instanceMethod ({ cls := "PillarSaints", name := "builds", desc := "(I)I" } : Jvm.MethodName)) ∈ xTs := xTs_of (xt_5 (xnth_mem 65 rfl)) rfl
theorem kw5_66 : (Jvm.Cond.selects "PillarSaints" ({ cls := "PillarSaints", name := "builds", desc := "(I)I" } : Jvm.MethodName) ({ cls := "PillarSaints", name := "builds", desc := "(I)I" } : Jvm.MethodName)) ∈ xTs := xTs_of (xt_5 (xnth_mem 66 rfl)) rfl
theorem kw5_67 : (Jvm.Cond.code ({ cls := "PillarSaints", name := "builds", desc := "(I)I" } : Jvm.MethodName) prog_1_method_27_code (2 : Nat) (Option.some Jvm.ClassFile.FieldType.int)) ∈ xTs := xTs_of (xt_5 (xnth_mem 67 rfl)) rfl
theorem kw5_68 : (Jvm.Cond.methodLink "PillarSaints" (274 : Nat) ({ cls := "PillarSaints$Yard", name := "leastSum", desc := "()I" } : Jvm.MethodName)) ∈ xTs := xTs_of (xt_5 (xnth_mem 68 rfl)) rfl
theorem kw5_69 : (Jvm.Cond.instanceMethod ({ cls := "PillarSaints$Yard", name := "leastSum", desc := "()I" } : Jvm.MethodName)) ∈ xTs := xTs_of (xt_5 (xnth_mem 69 rfl)) rfl
theorem kw5_70 : (Jvm.Cond.selects "PillarSaints$Yard" ({ cls := "PillarSaints$Yard", name := "leastSum", desc := "()I" } : Jvm.MethodName) ({ cls := "PillarSaints$Yard", name := "leastSum", desc := "()I" } : Jvm.MethodName)) ∈ xTs := xTs_of (xt_5 (xnth_mem 70 rfl)) rfl
theorem kw5_71 : (Jvm.Cond.code ({ cls := "PillarSaints$Yard", name := "leastSum", desc := "()I" } : Jvm.MethodName) prog_12_method_6_code (5 : Nat) (Option.some Jvm.ClassFile.FieldType.int)) ∈ xTs := xTs_of (xt_5 (xnth_mem 71 rfl)) rfl
theorem kw5_72 : (Jvm.Cond.methodLink "PillarSaints$Yard" (35 : Nat) ({ cls := "PillarSaints$Yard", name := "arrange", desc := "()V" } : Jvm.MethodName)) ∈ xTs := xTs_of (xt_5 (xnth_mem 72 rfl)) rfl
theorem kw5_74 : (Jvm.Cond.instanceMethod ({ cls := "PillarSaints$Yard", name := "arrange", desc := "()V" } : Jvm.MethodName)) ∈ xTs := xTs_of (xt_5 (xnth_mem 74 rfl)) rfl
theorem kw5_75 : (Jvm.Cond.code ({ cls := "PillarSaints$Yard", name := "arrange", desc := "()V" } : Jvm.MethodName) prog_12_method_4_code (4 : Nat) (Option.none : Option Jvm.ClassFile.FieldType)) ∈ xTs := xTs_of (xt_5 (xnth_mem 75 rfl)) rfl
theorem kw5_76 : (Jvm.Cond.methodLink "PillarSaints$Yard" (31 : Nat) ({ cls := "PillarSaints$Yard", name := "isBefore", desc := "(II)Z" } : Jvm.MethodName)) ∈ xTs := xTs_of (xt_5 (xnth_mem 76 rfl)) rfl
theorem kw5_78 : (Jvm.Cond.instanceMethod ({ cls := "PillarSaints$Yard", name := "isBefore", desc := "(II)Z" } : Jvm.MethodName)) ∈ xTs := xTs_of (xt_5 (xnth_mem 78 rfl)) rfl
theorem kw5_79 : (Jvm.Cond.code ({ cls := "PillarSaints$Yard", name := "isBefore", desc := "(II)Z" } : Jvm.MethodName) prog_12_method_5_code (3 : Nat) (Option.some Jvm.ClassFile.FieldType.boolean)) ∈ xTs := xTs_of (xt_5 (xnth_mem 79 rfl)) rfl
theorem kw5_80 : (Jvm.Cond.methodLink "PillarSaints" (277 : Nat) ({ cls := "PillarSaints$Yard", name := "inOrder", desc := "(I)I" } : Jvm.MethodName)) ∈ xTs := xTs_of (xt_5 (xnth_mem 80 rfl)) rfl
theorem kw5_81 : (Jvm.Cond.instanceMethod ({ cls := "PillarSaints$Yard", name := "inOrder", desc := "(I)I" } : Jvm.MethodName)) ∈ xTs := xTs_of (xt_5 (xnth_mem 81 rfl)) rfl
theorem kw5_82 : (Jvm.Cond.selects "PillarSaints$Yard" ({ cls := "PillarSaints$Yard", name := "inOrder", desc := "(I)I" } : Jvm.MethodName) ({ cls := "PillarSaints$Yard", name := "inOrder", desc := "(I)I" } : Jvm.MethodName)) ∈ xTs := xTs_of (xt_5 (xnth_mem 82 rfl)) rfl
theorem kw5_83 : (Jvm.Cond.code ({ cls := "PillarSaints$Yard", name := "inOrder", desc := "(I)I" } : Jvm.MethodName) prog_12_method_7_code (2 : Nat) (Option.some Jvm.ClassFile.FieldType.int)) ∈ xTs := xTs_of (xt_5 (xnth_mem 83 rfl)) rfl
theorem kw5_84 : (Jvm.Cond.methodLink "PillarSaintsLaw" (124 : Nat) ({ cls := "PillarSaints", name := "gone", desc := "(III)I" } : Jvm.MethodName)) ∈ xTs := xTs_of (xt_5 (xnth_mem 84 rfl)) rfl
theorem kw5_85 : (Jvm.Cond.instanceMethod ({ cls := "PillarSaints", name := "gone", desc := "(III)I" } : Jvm.MethodName)) ∈ xTs := xTs_of (xt_5 (xnth_mem 85 rfl)) rfl
theorem kw5_86 : (Jvm.Cond.selects "PillarSaints" ({ cls := "PillarSaints", name := "gone", desc := "(III)I" } : Jvm.MethodName) ({ cls := "PillarSaints", name := "gone", desc := "(III)I" } : Jvm.MethodName)) ∈ xTs := xTs_of (xt_5 (xnth_mem 86 rfl)) rfl
theorem kw5_87 : (Jvm.Cond.code ({ cls := "PillarSaints", name := "gone", desc := "(III)I" } : Jvm.MethodName) prog_1_method_28_code (7 : Nat) (Option.some Jvm.ClassFile.FieldType.int)) ∈ xTs := xTs_of (xt_5 (xnth_mem 87 rfl)) rfl
theorem kw5_88 : (Jvm.Cond.constantLong "PillarSaints" (280 : Nat) (1000 : Int64)) ∈ xTs := xTs_of (xt_5 (xnth_mem 88 rfl)) rfl
theorem kw5_89 : (Jvm.Cond.methodLink "PillarSaints" (282 : Nat) ({ cls := "PillarSaints", name := "weighed", desc := "(JII)J" } : Jvm.MethodName)) ∈ xTs := xTs_of (xt_5 (xnth_mem 89 rfl)) rfl
theorem kw5_90 : (Jvm.Cond.static ({ cls := "PillarSaints", name := "weighed", desc := "(JII)J" } : Jvm.MethodName)) ∈ xTs := xTs_of (xt_5 (xnth_mem 90 rfl)) rfl
theorem kw5_91 : (Jvm.Cond.code ({ cls := "PillarSaints", name := "weighed", desc := "(JII)J" } : Jvm.MethodName) prog_1_method_35_code (8 : Nat) (Option.some Jvm.ClassFile.FieldType.long)) ∈ xTs := xTs_of (xt_5 (xnth_mem 91 rfl)) rfl
theorem kw5_92 : (Jvm.Cond.constantLong "PillarSaints" (327 : Nat) (1000000 : Int64)) ∈ xTs := xTs_of (xt_5 (xnth_mem 92 rfl)) rfl
theorem kw5_93 : (Jvm.Cond.methodLink "PillarSaintsLaw" (128 : Nat) ({ cls := "PillarSaints", name := "lap", desc := "(IIII)I" } : Jvm.MethodName)) ∈ xTs := xTs_of (xt_5 (xnth_mem 93 rfl)) rfl
theorem kw5_94 : (Jvm.Cond.instanceMethod ({ cls := "PillarSaints", name := "lap", desc := "(IIII)I" } : Jvm.MethodName)) ∈ xTs := xTs_of (xt_5 (xnth_mem 94 rfl)) rfl
theorem kw5_95 : (Jvm.Cond.selects "PillarSaints" ({ cls := "PillarSaints", name := "lap", desc := "(IIII)I" } : Jvm.MethodName) ({ cls := "PillarSaints", name := "lap", desc := "(IIII)I" } : Jvm.MethodName)) ∈ xTs := xTs_of (xt_5 (xnth_mem 95 rfl)) rfl
theorem kw5_96 : (Jvm.Cond.code ({ cls := "PillarSaints", name := "lap", desc := "(IIII)I" } : Jvm.MethodName) prog_1_method_29_code (6 : Nat) (Option.some Jvm.ClassFile.FieldType.int)) ∈ xTs := xTs_of (xt_5 (xnth_mem 96 rfl)) rfl
theorem kw5_97 : (Jvm.Cond.methodLink "PillarSaints" (286 : Nat) ({ cls := "PillarSaints$Lap", name := "walk", desc := "(LPillarSaints$World;II)V" } : Jvm.MethodName)) ∈ xTs := xTs_of (xt_5 (xnth_mem 97 rfl)) rfl
theorem kw5_98 : (Jvm.Cond.instanceMethod ({ cls := "PillarSaints$Lap", name := "walk", desc := "(LPillarSaints$World;II)V" } : Jvm.MethodName)) ∈ xTs := xTs_of (xt_5 (xnth_mem 98 rfl)) rfl
theorem kw5_99 : (Jvm.Cond.selects "PillarSaints$Lap" ({ cls := "PillarSaints$Lap", name := "walk", desc := "(LPillarSaints$World;II)V" } : Jvm.MethodName) ({ cls := "PillarSaints$Lap", name := "walk", desc := "(LPillarSaints$World;II)V" } : Jvm.MethodName)) ∈ xTs := xTs_of (xt_5 (xnth_mem 99 rfl)) rfl
theorem kw5_100 : (Jvm.Cond.code ({ cls := "PillarSaints$Lap", name := "walk", desc := "(LPillarSaints$World;II)V" } : Jvm.MethodName) prog_3_method_2_code (6 : Nat) (Option.none : Option Jvm.ClassFile.FieldType)) ∈ xTs := xTs_of (xt_5 (xnth_mem 100 rfl)) rfl
theorem kw5_101 : (Jvm.Cond.methodLink "PillarSaints$Lap" (18 : Nat) ({ cls := "java/util/Arrays", name := "fill", desc := "([II)V" } : Jvm.MethodName)) ∈ xTs := xTs_of (xt_5 (xnth_mem 101 rfl)) rfl
theorem kw5_102 : (Jvm.Cond.methodLink "PillarSaints$Lap" (24 : Nat) ({ cls := "PillarSaints$World", name := "isPillar", desc := "(I)Z" } : Jvm.MethodName)) ∈ xTs := xTs_of (xt_5 (xnth_mem 102 rfl)) rfl
theorem kw5_103 : (Jvm.Cond.methodLink "PillarSaints$Lap" (34 : Nat) ({ cls := "PillarSaints$Lap", name := "spread", desc := "(LPillarSaints$World;II)V" } : Jvm.MethodName)) ∈ xTs := xTs_of (xt_5 (xnth_mem 103 rfl)) rfl
theorem kw5_105 : (Jvm.Cond.instanceMethod ({ cls := "PillarSaints$Lap", name := "spread", desc := "(LPillarSaints$World;II)V" } : Jvm.MethodName)) ∈ xTs := xTs_of (xt_5 (xnth_mem 105 rfl)) rfl
theorem kw5_106 : (Jvm.Cond.code ({ cls := "PillarSaints$Lap", name := "spread", desc := "(LPillarSaints$World;II)V" } : Jvm.MethodName) prog_3_method_3_code (5 : Nat) (Option.none : Option Jvm.ClassFile.FieldType)) ∈ xTs := xTs_of (xt_5 (xnth_mem 106 rfl)) rfl
theorem kw5_107 : (Jvm.Cond.methodLink "PillarSaints$Lap" (41 : Nat) ({ cls := "java/lang/Math", name := "abs", desc := "(I)I" } : Jvm.MethodName)) ∈ xTs := xTs_of (xt_5 (xnth_mem 107 rfl)) rfl
theorem kw5_108 : (Jvm.Cond.constantLong "PillarSaints$Lap" (47 : Nat) (1000000007 : Int64)) ∈ xTs := xTs_of (xt_5 (xnth_mem 108 rfl)) rfl
theorem kw5_109 : (Jvm.Cond.methodLink "PillarSaintsLaw" (133 : Nat) ({ cls := "PillarSaints", name := "game", desc := "(I)I" } : Jvm.MethodName)) ∈ xTs := xTs_of (xt_5 (xnth_mem 109 rfl)) rfl
theorem kw5_110 : (Jvm.Cond.instanceMethod ({ cls := "PillarSaints", name := "game", desc := "(I)I" } : Jvm.MethodName)) ∈ xTs := xTs_of (xt_5 (xnth_mem 110 rfl)) rfl
theorem kw5_111 : (Jvm.Cond.selects "PillarSaints" ({ cls := "PillarSaints", name := "game", desc := "(I)I" } : Jvm.MethodName) ({ cls := "PillarSaints", name := "game", desc := "(I)I" } : Jvm.MethodName)) ∈ xTs := xTs_of (xt_5 (xnth_mem 111 rfl)) rfl
theorem kw5_112 : (Jvm.Cond.code ({ cls := "PillarSaints", name := "game", desc := "(I)I" } : Jvm.MethodName) prog_1_method_30_code (7 : Nat) (Option.some Jvm.ClassFile.FieldType.int)) ∈ xTs := xTs_of (xt_5 (xnth_mem 112 rfl)) rfl
theorem kw5_113 : (Jvm.Cond.methodLink "PillarSaints" (296 : Nat) ({ cls := "PillarSaints$World", name := "nimber", desc := "(II)I" } : Jvm.MethodName)) ∈ xTs := xTs_of (xt_5 (xnth_mem 113 rfl)) rfl
theorem kw5_114 : (Jvm.Cond.instanceMethod ({ cls := "PillarSaints$World", name := "nimber", desc := "(II)I" } : Jvm.MethodName)) ∈ xTs := xTs_of (xt_5 (xnth_mem 114 rfl)) rfl
theorem kw5_115 : (Jvm.Cond.selects "PillarSaints$World" ({ cls := "PillarSaints$World", name := "nimber", desc := "(II)I" } : Jvm.MethodName) ({ cls := "PillarSaints$World", name := "nimber", desc := "(II)I" } : Jvm.MethodName)) ∈ xTs := xTs_of (xt_5 (xnth_mem 115 rfl)) rfl
theorem kw5_116 : (Jvm.Cond.code ({ cls := "PillarSaints$World", name := "nimber", desc := "(II)I" } : Jvm.MethodName) prog_11_method_40_code (3 : Nat) (Option.some Jvm.ClassFile.FieldType.int)) ∈ xTs := xTs_of (xt_5 (xnth_mem 116 rfl)) rfl
theorem kw5_117 : (Jvm.Cond.methodLink "PillarSaints$World" (141 : Nat) ({ cls := "PillarSaints$World", name := "heap", desc := "(I)I" } : Jvm.MethodName)) ∈ xTs := xTs_of (xt_5 (xnth_mem 117 rfl)) rfl
theorem kw5_118 : (Jvm.Cond.instanceMethod ({ cls := "PillarSaints$World", name := "heap", desc := "(I)I" } : Jvm.MethodName)) ∈ xTs := xTs_of (xt_5 (xnth_mem 118 rfl)) rfl
theorem kw5_119 : (Jvm.Cond.selects "PillarSaints$World" ({ cls := "PillarSaints$World", name := "heap", desc := "(I)I" } : Jvm.MethodName) ({ cls := "PillarSaints$World", name := "heap", desc := "(I)I" } : Jvm.MethodName)) ∈ xTs := xTs_of (xt_5 (xnth_mem 119 rfl)) rfl
theorem kw5_120 : (Jvm.Cond.code ({ cls := "PillarSaints$World", name := "heap", desc := "(I)I" } : Jvm.MethodName) prog_11_method_39_code (3 : Nat) (Option.some Jvm.ClassFile.FieldType.int)) ∈ xTs := xTs_of (xt_5 (xnth_mem 120 rfl)) rfl
theorem kw5_121 : (Jvm.Cond.methodLink "PillarSaints$World" (138 : Nat) ({ cls := "PillarSaints$World", name := "sitterOn", desc := "(I)I" } : Jvm.MethodName)) ∈ xTs := xTs_of (xt_5 (xnth_mem 121 rfl)) rfl
theorem kw5_122 : (Jvm.Cond.methodLink "PillarSaints" (299 : Nat) ({ cls := "PillarSaints$World", name := "heap", desc := "(I)I" } : Jvm.MethodName)) ∈ xTs := xTs_of (xt_5 (xnth_mem 122 rfl)) rfl
theorem kw5_123 : (Jvm.Cond.methodLink "PillarSaintsLaw" (137 : Nat) ({ cls := "PillarSaints", name := "undo", desc := "()Z" } : Jvm.MethodName)) ∈ xTs := xTs_of (xt_5 (xnth_mem 123 rfl)) rfl
theorem kw5_124 : (Jvm.Cond.instanceMethod ({ cls := "PillarSaints", name := "undo", desc := "()Z" } : Jvm.MethodName)) ∈ xTs := xTs_of (xt_5 (xnth_mem 124 rfl)) rfl
theorem kw5_125 : (Jvm.Cond.selects "PillarSaints" ({ cls := "PillarSaints", name := "undo", desc := "()Z" } : Jvm.MethodName) ({ cls := "PillarSaints", name := "undo", desc := "()Z" } : Jvm.MethodName)) ∈ xTs := xTs_of (xt_5 (xnth_mem 125 rfl)) rfl
theorem kw5_126 : (Jvm.Cond.code ({ cls := "PillarSaints", name := "undo", desc := "()Z" } : Jvm.MethodName) prog_1_method_31_code (1 : Nat) (Option.some Jvm.ClassFile.FieldType.boolean)) ∈ xTs := xTs_of (xt_5 (xnth_mem 126 rfl)) rfl
theorem kw5_127 : (Jvm.Cond.methodLink "PillarSaints" (302 : Nat) ({ cls := "PillarSaints$Past", name := "goBack", desc := "(LPillarSaints$World;)Z" } : Jvm.MethodName)) ∈ xTs := xTs_of (xt_5 (xnth_mem 127 rfl)) rfl
theorem kw5_128 : (Jvm.Cond.instanceMethod ({ cls := "PillarSaints$Past", name := "goBack", desc := "(LPillarSaints$World;)Z" } : Jvm.MethodName)) ∈ xTs := xTs_of (xt_5 (xnth_mem 128 rfl)) rfl
theorem kw5_129 : (Jvm.Cond.selects "PillarSaints$Past" ({ cls := "PillarSaints$Past", name := "goBack", desc := "(LPillarSaints$World;)Z" } : Jvm.MethodName) ({ cls := "PillarSaints$Past", name := "goBack", desc := "(LPillarSaints$World;)Z" } : Jvm.MethodName)) ∈ xTs := xTs_of (xt_5 (xnth_mem 129 rfl)) rfl
theorem kw5_130 : (Jvm.Cond.code ({ cls := "PillarSaints$Past", name := "goBack", desc := "(LPillarSaints$World;)Z" } : Jvm.MethodName) prog_5_method_5_code (3 : Nat) (Option.some Jvm.ClassFile.FieldType.boolean)) ∈ xTs := xTs_of (xt_5 (xnth_mem 130 rfl)) rfl
theorem kw5_131 : (Jvm.Cond.methodLink "PillarSaintsLaw" (142 : Nat) ({ cls := "PillarSaints", name := "image", desc := "(Z)Z" } : Jvm.MethodName)) ∈ xTs := xTs_of (xt_5 (xnth_mem 131 rfl)) rfl
theorem kw5_132 : (Jvm.Cond.instanceMethod ({ cls := "PillarSaints", name := "image", desc := "(Z)Z" } : Jvm.MethodName)) ∈ xTs := xTs_of (xt_5 (xnth_mem 132 rfl)) rfl
theorem kw5_133 : (Jvm.Cond.selects "PillarSaints" ({ cls := "PillarSaints", name := "image", desc := "(Z)Z" } : Jvm.MethodName) ({ cls := "PillarSaints", name := "image", desc := "(Z)Z" } : Jvm.MethodName)) ∈ xTs := xTs_of (xt_5 (xnth_mem 133 rfl)) rfl
theorem kw5_134 : (Jvm.Cond.code ({ cls := "PillarSaints", name := "image", desc := "(Z)Z" } : Jvm.MethodName) prog_1_method_32_code (2 : Nat) (Option.some Jvm.ClassFile.FieldType.boolean)) ∈ xTs := xTs_of (xt_5 (xnth_mem 134 rfl)) rfl
theorem kw5_135 : (Jvm.Cond.methodLink "PillarSaints" (306 : Nat) ({ cls := "PillarSaints$Desert", name := "copyFrom", desc := "(LPillarSaints$Desert;)V" } : Jvm.MethodName)) ∈ xTs := xTs_of (xt_5 (xnth_mem 135 rfl)) rfl
theorem kw5_136 : (Jvm.Cond.instanceMethod ({ cls := "PillarSaints$Desert", name := "copyFrom", desc := "(LPillarSaints$Desert;)V" } : Jvm.MethodName)) ∈ xTs := xTs_of (xt_5 (xnth_mem 136 rfl)) rfl
theorem kw5_137 : (Jvm.Cond.selects "PillarSaints$Desert" ({ cls := "PillarSaints$Desert", name := "copyFrom", desc := "(LPillarSaints$Desert;)V" } : Jvm.MethodName) ({ cls := "PillarSaints$Desert", name := "copyFrom", desc := "(LPillarSaints$Desert;)V" } : Jvm.MethodName)) ∈ xTs := xTs_of (xt_5 (xnth_mem 137 rfl)) rfl
theorem kw5_138 : (Jvm.Cond.code ({ cls := "PillarSaints$Desert", name := "copyFrom", desc := "(LPillarSaints$Desert;)V" } : Jvm.MethodName) prog_2_method_2_code (2 : Nat) (Option.none : Option Jvm.ClassFile.FieldType)) ∈ xTs := xTs_of (xt_5 (xnth_mem 138 rfl)) rfl
theorem kw5_139 : (Jvm.Cond.methodLink "PillarSaints$Desert" (55 : Nat) ({ cls := "PillarSaints$World", name := "copyFrom", desc := "(LPillarSaints$World;)V" } : Jvm.MethodName)) ∈ xTs := xTs_of (xt_5 (xnth_mem 139 rfl)) rfl
theorem kw5_140 : (Jvm.Cond.methodLink "PillarSaints$Desert" (71 : Nat) ({ cls := "PillarSaints$Yard", name := "copyFrom", desc := "(LPillarSaints$Yard;)V" } : Jvm.MethodName)) ∈ xTs := xTs_of (xt_5 (xnth_mem 140 rfl)) rfl
theorem kw5_141 : (Jvm.Cond.instanceMethod ({ cls := "PillarSaints$Yard", name := "copyFrom", desc := "(LPillarSaints$Yard;)V" } : Jvm.MethodName)) ∈ xTs := xTs_of (xt_5 (xnth_mem 141 rfl)) rfl
theorem kw5_142 : (Jvm.Cond.selects "PillarSaints$Yard" ({ cls := "PillarSaints$Yard", name := "copyFrom", desc := "(LPillarSaints$Yard;)V" } : Jvm.MethodName) ({ cls := "PillarSaints$Yard", name := "copyFrom", desc := "(LPillarSaints$Yard;)V" } : Jvm.MethodName)) ∈ xTs := xTs_of (xt_5 (xnth_mem 142 rfl)) rfl
theorem kw5_143 : (Jvm.Cond.code ({ cls := "PillarSaints$Yard", name := "copyFrom", desc := "(LPillarSaints$Yard;)V" } : Jvm.MethodName) prog_12_method_2_code (2 : Nat) (Option.none : Option Jvm.ClassFile.FieldType)) ∈ xTs := xTs_of (xt_5 (xnth_mem 143 rfl)) rfl
theorem kw5_144 : (Jvm.Cond.methodLink "PillarSaints$Yard" (21 : Nat) ({ cls := "java/lang/System", name := "arraycopy", desc := "(Ljava/lang/Object;ILjava/lang/Object;II)V" } : Jvm.MethodName)) ∈ xTs := xTs_of (xt_5 (xnth_mem 144 rfl)) rfl
theorem kw5_145 : (Jvm.Cond.methodLink "PillarSaintsLaw" (147 : Nat) ({ cls := "PillarSaints", name := "look", desc := "(I)I" } : Jvm.MethodName)) ∈ xTs := xTs_of (xt_5 (xnth_mem 145 rfl)) rfl
theorem kw5_146 : (Jvm.Cond.instanceMethod ({ cls := "PillarSaints", name := "look", desc := "(I)I" } : Jvm.MethodName)) ∈ xTs := xTs_of (xt_5 (xnth_mem 146 rfl)) rfl
theorem kw5_147 : (Jvm.Cond.selects "PillarSaints" ({ cls := "PillarSaints", name := "look", desc := "(I)I" } : Jvm.MethodName) ({ cls := "PillarSaints", name := "look", desc := "(I)I" } : Jvm.MethodName)) ∈ xTs := xTs_of (xt_5 (xnth_mem 147 rfl)) rfl
theorem kw5_148 : (Jvm.Cond.code ({ cls := "PillarSaints", name := "look", desc := "(I)I" } : Jvm.MethodName) prog_1_method_33_code (2 : Nat) (Option.some Jvm.ClassFile.FieldType.int)) ∈ xTs := xTs_of (xt_5 (xnth_mem 148 rfl)) rfl
theorem kw5_149 : (Jvm.Cond.methodLink "PillarSaints" (324 : Nat) ({ cls := "PillarSaints$World", name := "shown", desc := "(I)I" } : Jvm.MethodName)) ∈ xTs := xTs_of (xt_5 (xnth_mem 149 rfl)) rfl
theorem kw5_150 : (Jvm.Cond.instanceMethod ({ cls := "PillarSaints$World", name := "shown", desc := "(I)I" } : Jvm.MethodName)) ∈ xTs := xTs_of (xt_5 (xnth_mem 150 rfl)) rfl
theorem kw5_151 : (Jvm.Cond.selects "PillarSaints$World" ({ cls := "PillarSaints$World", name := "shown", desc := "(I)I" } : Jvm.MethodName) ({ cls := "PillarSaints$World", name := "shown", desc := "(I)I" } : Jvm.MethodName)) ∈ xTs := xTs_of (xt_5 (xnth_mem 151 rfl)) rfl
theorem kw5_152 : (Jvm.Cond.code ({ cls := "PillarSaints$World", name := "shown", desc := "(I)I" } : Jvm.MethodName) prog_11_method_30_code (2 : Nat) (Option.some Jvm.ClassFile.FieldType.int)) ∈ xTs := xTs_of (xt_5 (xnth_mem 152 rfl)) rfl
theorem kw5_153 : (Jvm.Cond.classLink "PillarSaintsLaw" (10 : Nat) "PillarSaintsModel") ∈ xTs := xTs_of (xt_5 (xnth_mem 153 rfl)) rfl
theorem kw5_154 : (Jvm.Cond.instantiable "PillarSaintsModel" (50 : Nat)) ∈ xTs := xTs_of (xt_5 (xnth_mem 154 rfl)) rfl
theorem kw5_155 : (Jvm.Cond.methodLink "PillarSaintsLaw" (12 : Nat) ({ cls := "PillarSaintsModel", name := "<init>", desc := "()V" } : Jvm.MethodName)) ∈ xTs := xTs_of (xt_5 (xnth_mem 155 rfl)) rfl
theorem kw5_156 : (Jvm.Cond.instanceMethod ({ cls := "PillarSaintsModel", name := "<init>", desc := "()V" } : Jvm.MethodName)) ∈ xTs := xTs_of (xt_5 (xnth_mem 156 rfl)) rfl
theorem kw5_157 : (Jvm.Cond.code ({ cls := "PillarSaintsModel", name := "<init>", desc := "()V" } : Jvm.MethodName) prog_14_method_1_code (1 : Nat) (Option.none : Option Jvm.ClassFile.FieldType)) ∈ xTs := xTs_of (xt_5 (xnth_mem 157 rfl)) rfl
theorem kw5_158 : (Jvm.Cond.methodLink "PillarSaintsModel" (1 : Nat) ({ cls := "java/lang/Object", name := "<init>", desc := "()V" } : Jvm.MethodName)) ∈ xTs := xTs_of (xt_5 (xnth_mem 158 rfl)) rfl
theorem kw5_159 : (Jvm.Cond.fieldLink "PillarSaintsModel" (89 : Nat) "PillarSaintsModel" "told" "I") ∈ xTs := xTs_of (xt_5 (xnth_mem 159 rfl)) rfl
theorem kw5_160 : (Jvm.Cond.fieldLink "PillarSaintsModel" (7 : Nat) "PillarSaintsModel" "now" "[I") ∈ xTs := xTs_of (xt_5 (xnth_mem 160 rfl)) rfl
theorem kw5_161 : (Jvm.Cond.fieldLink "PillarSaintsModel" (13 : Nat) "PillarSaintsModel" "rows" "[I") ∈ xTs := xTs_of (xt_5 (xnth_mem 161 rfl)) rfl
theorem kw5_162 : (Jvm.Cond.fieldLink "PillarSaintsModel" (92 : Nat) "PillarSaintsModel" "undoable" "I") ∈ xTs := xTs_of (xt_5 (xnth_mem 162 rfl)) rfl
theorem kw5_163 : (Jvm.Cond.fieldLink "PillarSaintsModel" (16 : Nat) "PillarSaintsModel" "waiting" "[I") ∈ xTs := xTs_of (xt_5 (xnth_mem 163 rfl)) rfl
theorem kw5_164 : (Jvm.Cond.fieldLink "PillarSaintsModel" (95 : Nat) "PillarSaintsModel" "isThought" "Z") ∈ xTs := xTs_of (xt_5 (xnth_mem 164 rfl)) rfl
theorem kw5_165 : (Jvm.Cond.fieldLink "PillarSaintsModel" (101 : Nat) "PillarSaintsModel" "pillars" "I") ∈ xTs := xTs_of (xt_5 (xnth_mem 165 rfl)) rfl
theorem kw5_166 : (Jvm.Cond.fieldLink "PillarSaintsModel" (104 : Nat) "PillarSaintsModel" "saints" "I") ∈ xTs := xTs_of (xt_5 (xnth_mem 166 rfl)) rfl
theorem kw5_167 : (Jvm.Cond.fieldLink "PillarSaintsModel" (19 : Nat) "PillarSaintsModel" "faith" "[I") ∈ xTs := xTs_of (xt_5 (xnth_mem 167 rfl)) rfl
theorem kw5_168 : (Jvm.Cond.fieldLink "PillarSaintsModel" (22 : Nat) "PillarSaintsModel" "book" "[I") ∈ xTs := xTs_of (xt_5 (xnth_mem 168 rfl)) rfl
theorem kw5_169 : (Jvm.Cond.fieldLink "PillarSaintsModel" (25 : Nat) "PillarSaintsModel" "tape" "[I") ∈ xTs := xTs_of (xt_5 (xnth_mem 169 rfl)) rfl
theorem kw5_170 : (Jvm.Cond.fieldLink "PillarSaintsModel" (139 : Nat) "PillarSaintsModel" "taped" "I") ∈ xTs := xTs_of (xt_5 (xnth_mem 170 rfl)) rfl
theorem kw5_171 : (Jvm.Cond.fieldLink "PillarSaintsModel" (145 : Nat) "PillarSaintsModel" "spot" "I") ∈ xTs := xTs_of (xt_5 (xnth_mem 171 rfl)) rfl
theorem kw5_172 : (Jvm.Cond.fieldLink "PillarSaintsModel" (151 : Nat) "PillarSaintsModel" "from" "I") ∈ xTs := xTs_of (xt_5 (xnth_mem 172 rfl)) rfl
theorem kw5_173 : (Jvm.Cond.fieldLink "PillarSaintsModel" (154 : Nat) "PillarSaintsModel" "token" "I") ∈ xTs := xTs_of (xt_5 (xnth_mem 173 rfl)) rfl
theorem kw5_174 : (Jvm.Cond.fieldLink "PillarSaintsModel" (157 : Nat) "PillarSaintsModel" "value" "I") ∈ xTs := xTs_of (xt_5 (xnth_mem 174 rfl)) rfl
theorem kw5_175 : (Jvm.Cond.fieldLink "PillarSaintsModel" (28 : Nat) "PillarSaintsModel" "words" "[I") ∈ xTs := xTs_of (xt_5 (xnth_mem 175 rfl)) rfl
theorem kw5_176 : (Jvm.Cond.fieldLink "PillarSaintsModel" (31 : Nat) "PillarSaintsModel" "lineMany" "[I") ∈ xTs := xTs_of (xt_5 (xnth_mem 176 rfl)) rfl
theorem kw5_177 : (Jvm.Cond.fieldLink "PillarSaintsModel" (34 : Nat) "PillarSaintsModel" "lineWord" "[I") ∈ xTs := xTs_of (xt_5 (xnth_mem 177 rfl)) rfl
theorem kw5_178 : (Jvm.Cond.fieldLink "PillarSaintsModel" (37 : Nat) "PillarSaintsModel" "lineFrom" "[I") ∈ xTs := xTs_of (xt_5 (xnth_mem 178 rfl)) rfl
theorem kw5_179 : (Jvm.Cond.fieldLink "PillarSaintsModel" (40 : Nat) "PillarSaintsModel" "lineWhen" "[I") ∈ xTs := xTs_of (xt_5 (xnth_mem 179 rfl)) rfl
theorem kw5_180 : (Jvm.Cond.fieldLink "PillarSaintsModel" (43 : Nat) "PillarSaintsModel" "lineTo" "[I") ∈ xTs := xTs_of (xt_5 (xnth_mem 180 rfl)) rfl
theorem kw5_181 : (Jvm.Cond.fieldLink "PillarSaintsModel" (46 : Nat) "PillarSaintsModel" "op" "[I") ∈ xTs := xTs_of (xt_5 (xnth_mem 181 rfl)) rfl
theorem kw5_182 : (Jvm.Cond.fieldLink "PillarSaintsModel" (49 : Nat) "PillarSaintsModel" "arg" "[I") ∈ xTs := xTs_of (xt_5 (xnth_mem 182 rfl)) rfl
theorem kw5_183 : (Jvm.Cond.fieldLink "PillarSaintsModel" (233 : Nat) "PillarSaintsModel" "which" "I") ∈ xTs := xTs_of (xt_5 (xnth_mem 183 rfl)) rfl
theorem kw5_184 : (Jvm.Cond.fieldLink "PillarSaintsModel" (179 : Nat) "PillarSaintsModel" "codes" "I") ∈ xTs := xTs_of (xt_5 (xnth_mem 184 rfl)) rfl
theorem kw5_185 : (Jvm.Cond.fieldLink "PillarSaintsModel" (211 : Nat) "PillarSaintsModel" "open" "I") ∈ xTs := xTs_of (xt_5 (xnth_mem 185 rfl)) rfl
theorem kw5_186 : (Jvm.Cond.fieldLink "PillarSaintsModel" (52 : Nat) "PillarSaintsModel" "pending" "[I") ∈ xTs := xTs_of (xt_5 (xnth_mem 186 rfl)) rfl
theorem kw5_187 : (Jvm.Cond.fieldLink "PillarSaintsModel" (208 : Nat) "PillarSaintsModel" "pendings" "I") ∈ xTs := xTs_of (xt_5 (xnth_mem 187 rfl)) rfl
theorem kw5_188 : (Jvm.Cond.fieldLink "PillarSaintsModel" (173 : Nat) "PillarSaintsModel" "readFault" "I") ∈ xTs := xTs_of (xt_5 (xnth_mem 188 rfl)) rfl
theorem kw5_189 : (Jvm.Cond.fieldLink "PillarSaintsModel" (176 : Nat) "PillarSaintsModel" "readPlace" "I") ∈ xTs := xTs_of (xt_5 (xnth_mem 189 rfl)) rfl
theorem kw5_190 : (Jvm.Cond.fieldLink "PillarSaintsModel" (276 : Nat) "PillarSaintsModel" "faultKind" "I") ∈ xTs := xTs_of (xt_5 (xnth_mem 190 rfl)) rfl
theorem kw5_191 : (Jvm.Cond.fieldLink "PillarSaintsModel" (55 : Nat) "PillarSaintsModel" "faultPlace" "I") ∈ xTs := xTs_of (xt_5 (xnth_mem 191 rfl)) rfl
theorem kw5_192 : (Jvm.Cond.fieldLink "PillarSaintsModel" (267 : Nat) "PillarSaintsModel" "skyMany" "I") ∈ xTs := xTs_of (xt_5 (xnth_mem 192 rfl)) rfl
theorem kw5_193 : (Jvm.Cond.fieldLink "PillarSaintsModel" (59 : Nat) "PillarSaintsModel" "skies" "[I") ∈ xTs := xTs_of (xt_5 (xnth_mem 193 rfl)) rfl
theorem kw5_194 : (Jvm.Cond.fieldLink "PillarSaintsModel" (270 : Nat) "PillarSaintsModel" "deedMany" "I") ∈ xTs := xTs_of (xt_5 (xnth_mem 194 rfl)) rfl
theorem kw5_195 : (Jvm.Cond.fieldLink "PillarSaintsModel" (62 : Nat) "PillarSaintsModel" "deeds" "[I") ∈ xTs := xTs_of (xt_5 (xnth_mem 195 rfl)) rfl
theorem kw5_196 : (Jvm.Cond.fieldLink "PillarSaintsModel" (273 : Nat) "PillarSaintsModel" "tenetMany" "I") ∈ xTs := xTs_of (xt_5 (xnth_mem 196 rfl)) rfl
theorem kw5_197 : (Jvm.Cond.fieldLink "PillarSaintsModel" (65 : Nat) "PillarSaintsModel" "tenets" "[I") ∈ xTs := xTs_of (xt_5 (xnth_mem 197 rfl)) rfl
theorem kw5_198 : (Jvm.Cond.fieldLink "PillarSaintsModel" (68 : Nat) "PillarSaintsModel" "asked" "[I") ∈ xTs := xTs_of (xt_5 (xnth_mem 198 rfl)) rfl
theorem kw5_199 : (Jvm.Cond.fieldLink "PillarSaintsModel" (71 : Nat) "PillarSaintsModel" "stack" "[I") ∈ xTs := xTs_of (xt_5 (xnth_mem 199 rfl)) rfl
theorem kw5_200 : (Jvm.Cond.fieldLink "PillarSaintsModel" (433 : Nat) "PillarSaintsModel" "buildMany" "I") ∈ xTs := xTs_of (xt_5 (xnth_mem 200 rfl)) rfl
theorem kw5_201 : (Jvm.Cond.fieldLink "PillarSaintsModel" (74 : Nat) "PillarSaintsModel" "buildDays" "[I") ∈ xTs := xTs_of (xt_5 (xnth_mem 201 rfl)) rfl
theorem kw5_202 : (Jvm.Cond.fieldLink "PillarSaintsModel" (77 : Nat) "PillarSaintsModel" "buildWorth" "[I") ∈ xTs := xTs_of (xt_5 (xnth_mem 202 rfl)) rfl
theorem kw5_203 : (Jvm.Cond.fieldLink "PillarSaintsModel" (80 : Nat) "PillarSaintsModel" "waysAt" "[I") ∈ xTs := xTs_of (xt_5 (xnth_mem 203 rfl)) rfl
theorem kw5_204 : (Jvm.Cond.fieldLink "PillarSaintsModel" (83 : Nat) "PillarSaintsModel" "waysThen" "[I") ∈ xTs := xTs_of (xt_5 (xnth_mem 204 rfl)) rfl
theorem kw5_205 : (Jvm.Cond.fieldLink "PillarSaintsModel" (459 : Nat) "PillarSaintsModel" "isTaking" "Z") ∈ xTs := xTs_of (xt_5 (xnth_mem 205 rfl)) rfl
theorem kw5_206 : (Jvm.Cond.fieldLink "PillarSaintsModel" (465 : Nat) "PillarSaintsModel" "hasImage" "Z") ∈ xTs := xTs_of (xt_5 (xnth_mem 206 rfl)) rfl
theorem kw5_207 : (Jvm.Cond.fieldLink "PillarSaintsModel" (456 : Nat) "PillarSaintsModel" "keptAt" "I") ∈ xTs := xTs_of (xt_5 (xnth_mem 207 rfl)) rfl
theorem kw5_208 : (Jvm.Cond.fieldLink "PillarSaintsModel" (86 : Nat) "PillarSaintsModel" "images" "[I") ∈ xTs := xTs_of (xt_5 (xnth_mem 208 rfl)) rfl
theorem kw5_209 : (Jvm.Cond.lays "PillarSaintsModel" "PillarSaintsModel" "told" "I") ∈ xTs := xTs_of (xt_5 (xnth_mem 209 rfl)) rfl
theorem kw5_211 : (Jvm.Cond.laysFinal "PillarSaintsModel" "PillarSaintsModel" "now" "[I") ∈ xTs := xTs_of (xt_5 (xnth_mem 211 rfl)) rfl
theorem kw5_213 : (Jvm.Cond.laysFinal "PillarSaintsModel" "PillarSaintsModel" "rows" "[I") ∈ xTs := xTs_of (xt_5 (xnth_mem 213 rfl)) rfl
theorem kw5_215 : (Jvm.Cond.lays "PillarSaintsModel" "PillarSaintsModel" "undoable" "I") ∈ xTs := xTs_of (xt_5 (xnth_mem 215 rfl)) rfl
theorem kw5_217 : (Jvm.Cond.laysFinal "PillarSaintsModel" "PillarSaintsModel" "waiting" "[I") ∈ xTs := xTs_of (xt_5 (xnth_mem 217 rfl)) rfl
theorem kw5_219 : (Jvm.Cond.lays "PillarSaintsModel" "PillarSaintsModel" "isThought" "Z") ∈ xTs := xTs_of (xt_5 (xnth_mem 219 rfl)) rfl
theorem kw5_221 : (Jvm.Cond.lays "PillarSaintsModel" "PillarSaintsModel" "pillars" "I") ∈ xTs := xTs_of (xt_5 (xnth_mem 221 rfl)) rfl
theorem kw5_223 : (Jvm.Cond.lays "PillarSaintsModel" "PillarSaintsModel" "saints" "I") ∈ xTs := xTs_of (xt_5 (xnth_mem 223 rfl)) rfl
theorem kw5_225 : (Jvm.Cond.laysFinal "PillarSaintsModel" "PillarSaintsModel" "faith" "[I") ∈ xTs := xTs_of (xt_5 (xnth_mem 225 rfl)) rfl
theorem kw5_227 : (Jvm.Cond.laysFinal "PillarSaintsModel" "PillarSaintsModel" "book" "[I") ∈ xTs := xTs_of (xt_5 (xnth_mem 227 rfl)) rfl
theorem kw5_229 : (Jvm.Cond.laysFinal "PillarSaintsModel" "PillarSaintsModel" "tape" "[I") ∈ xTs := xTs_of (xt_5 (xnth_mem 229 rfl)) rfl
theorem kw5_231 : (Jvm.Cond.lays "PillarSaintsModel" "PillarSaintsModel" "taped" "I") ∈ xTs := xTs_of (xt_5 (xnth_mem 231 rfl)) rfl
theorem kw5_233 : (Jvm.Cond.lays "PillarSaintsModel" "PillarSaintsModel" "spot" "I") ∈ xTs := xTs_of (xt_5 (xnth_mem 233 rfl)) rfl
theorem kw5_235 : (Jvm.Cond.lays "PillarSaintsModel" "PillarSaintsModel" "from" "I") ∈ xTs := xTs_of (xt_5 (xnth_mem 235 rfl)) rfl
theorem kw5_237 : (Jvm.Cond.lays "PillarSaintsModel" "PillarSaintsModel" "token" "I") ∈ xTs := xTs_of (xt_5 (xnth_mem 237 rfl)) rfl
theorem kw5_239 : (Jvm.Cond.lays "PillarSaintsModel" "PillarSaintsModel" "value" "I") ∈ xTs := xTs_of (xt_5 (xnth_mem 239 rfl)) rfl
theorem kw6_1 : (Jvm.Cond.laysFinal "PillarSaintsModel" "PillarSaintsModel" "words" "[I") ∈ xTs := xTs_of (xt_6 (xnth_mem 1 rfl)) rfl
theorem kw6_3 : (Jvm.Cond.laysFinal "PillarSaintsModel" "PillarSaintsModel" "lineMany" "[I") ∈ xTs := xTs_of (xt_6 (xnth_mem 3 rfl)) rfl
theorem kw6_5 : (Jvm.Cond.laysFinal "PillarSaintsModel" "PillarSaintsModel" "lineWord" "[I") ∈ xTs := xTs_of (xt_6 (xnth_mem 5 rfl)) rfl
theorem kw6_7 : (Jvm.Cond.laysFinal "PillarSaintsModel" "PillarSaintsModel" "lineFrom" "[I") ∈ xTs := xTs_of (xt_6 (xnth_mem 7 rfl)) rfl
theorem kw6_9 : (Jvm.Cond.laysFinal "PillarSaintsModel" "PillarSaintsModel" "lineWhen" "[I") ∈ xTs := xTs_of (xt_6 (xnth_mem 9 rfl)) rfl
theorem kw6_11 : (Jvm.Cond.laysFinal "PillarSaintsModel" "PillarSaintsModel" "lineTo" "[I") ∈ xTs := xTs_of (xt_6 (xnth_mem 11 rfl)) rfl
theorem kw6_13 : (Jvm.Cond.laysFinal "PillarSaintsModel" "PillarSaintsModel" "op" "[I") ∈ xTs := xTs_of (xt_6 (xnth_mem 13 rfl)) rfl
theorem kw6_15 : (Jvm.Cond.laysFinal "PillarSaintsModel" "PillarSaintsModel" "arg" "[I") ∈ xTs := xTs_of (xt_6 (xnth_mem 15 rfl)) rfl
theorem kw6_17 : (Jvm.Cond.lays "PillarSaintsModel" "PillarSaintsModel" "which" "I") ∈ xTs := xTs_of (xt_6 (xnth_mem 17 rfl)) rfl
theorem kw6_19 : (Jvm.Cond.lays "PillarSaintsModel" "PillarSaintsModel" "codes" "I") ∈ xTs := xTs_of (xt_6 (xnth_mem 19 rfl)) rfl
theorem kw6_21 : (Jvm.Cond.lays "PillarSaintsModel" "PillarSaintsModel" "open" "I") ∈ xTs := xTs_of (xt_6 (xnth_mem 21 rfl)) rfl
theorem kw6_23 : (Jvm.Cond.laysFinal "PillarSaintsModel" "PillarSaintsModel" "pending" "[I") ∈ xTs := xTs_of (xt_6 (xnth_mem 23 rfl)) rfl
theorem kw6_25 : (Jvm.Cond.lays "PillarSaintsModel" "PillarSaintsModel" "pendings" "I") ∈ xTs := xTs_of (xt_6 (xnth_mem 25 rfl)) rfl
theorem kw6_27 : (Jvm.Cond.lays "PillarSaintsModel" "PillarSaintsModel" "readFault" "I") ∈ xTs := xTs_of (xt_6 (xnth_mem 27 rfl)) rfl
theorem kw6_29 : (Jvm.Cond.lays "PillarSaintsModel" "PillarSaintsModel" "readPlace" "I") ∈ xTs := xTs_of (xt_6 (xnth_mem 29 rfl)) rfl
theorem kw6_31 : (Jvm.Cond.lays "PillarSaintsModel" "PillarSaintsModel" "faultKind" "I") ∈ xTs := xTs_of (xt_6 (xnth_mem 31 rfl)) rfl
theorem kw6_33 : (Jvm.Cond.lays "PillarSaintsModel" "PillarSaintsModel" "faultPlace" "I") ∈ xTs := xTs_of (xt_6 (xnth_mem 33 rfl)) rfl
theorem kw6_35 : (Jvm.Cond.lays "PillarSaintsModel" "PillarSaintsModel" "skyMany" "I") ∈ xTs := xTs_of (xt_6 (xnth_mem 35 rfl)) rfl
theorem kw6_37 : (Jvm.Cond.laysFinal "PillarSaintsModel" "PillarSaintsModel" "skies" "[I") ∈ xTs := xTs_of (xt_6 (xnth_mem 37 rfl)) rfl
theorem kw6_39 : (Jvm.Cond.lays "PillarSaintsModel" "PillarSaintsModel" "deedMany" "I") ∈ xTs := xTs_of (xt_6 (xnth_mem 39 rfl)) rfl
theorem kw6_41 : (Jvm.Cond.laysFinal "PillarSaintsModel" "PillarSaintsModel" "deeds" "[I") ∈ xTs := xTs_of (xt_6 (xnth_mem 41 rfl)) rfl
theorem kw6_43 : (Jvm.Cond.lays "PillarSaintsModel" "PillarSaintsModel" "tenetMany" "I") ∈ xTs := xTs_of (xt_6 (xnth_mem 43 rfl)) rfl
theorem kw6_45 : (Jvm.Cond.laysFinal "PillarSaintsModel" "PillarSaintsModel" "tenets" "[I") ∈ xTs := xTs_of (xt_6 (xnth_mem 45 rfl)) rfl
theorem kw6_47 : (Jvm.Cond.laysFinal "PillarSaintsModel" "PillarSaintsModel" "asked" "[I") ∈ xTs := xTs_of (xt_6 (xnth_mem 47 rfl)) rfl
theorem kw6_49 : (Jvm.Cond.laysFinal "PillarSaintsModel" "PillarSaintsModel" "stack" "[I") ∈ xTs := xTs_of (xt_6 (xnth_mem 49 rfl)) rfl
theorem kw6_51 : (Jvm.Cond.lays "PillarSaintsModel" "PillarSaintsModel" "buildMany" "I") ∈ xTs := xTs_of (xt_6 (xnth_mem 51 rfl)) rfl
theorem kw6_53 : (Jvm.Cond.laysFinal "PillarSaintsModel" "PillarSaintsModel" "buildDays" "[I") ∈ xTs := xTs_of (xt_6 (xnth_mem 53 rfl)) rfl
theorem kw6_55 : (Jvm.Cond.laysFinal "PillarSaintsModel" "PillarSaintsModel" "buildWorth" "[I") ∈ xTs := xTs_of (xt_6 (xnth_mem 55 rfl)) rfl
theorem kw6_57 : (Jvm.Cond.laysFinal "PillarSaintsModel" "PillarSaintsModel" "waysAt" "[I") ∈ xTs := xTs_of (xt_6 (xnth_mem 57 rfl)) rfl
theorem kw6_59 : (Jvm.Cond.laysFinal "PillarSaintsModel" "PillarSaintsModel" "waysThen" "[I") ∈ xTs := xTs_of (xt_6 (xnth_mem 59 rfl)) rfl
theorem kw6_61 : (Jvm.Cond.lays "PillarSaintsModel" "PillarSaintsModel" "isTaking" "Z") ∈ xTs := xTs_of (xt_6 (xnth_mem 61 rfl)) rfl
theorem kw6_63 : (Jvm.Cond.lays "PillarSaintsModel" "PillarSaintsModel" "hasImage" "Z") ∈ xTs := xTs_of (xt_6 (xnth_mem 63 rfl)) rfl
theorem kw6_65 : (Jvm.Cond.lays "PillarSaintsModel" "PillarSaintsModel" "keptAt" "I") ∈ xTs := xTs_of (xt_6 (xnth_mem 65 rfl)) rfl
theorem kw6_67 : (Jvm.Cond.laysFinal "PillarSaintsModel" "PillarSaintsModel" "images" "[I") ∈ xTs := xTs_of (xt_6 (xnth_mem 67 rfl)) rfl
theorem kw6_70 : (Jvm.Cond.methodLink "PillarSaintsLaw" (141 : Nat) ({ cls := "PillarSaintsModel", name := "undo", desc := "()Z" } : Jvm.MethodName)) ∈ xTs := xTs_of (xt_6 (xnth_mem 70 rfl)) rfl
theorem kw6_71 : (Jvm.Cond.instanceMethod ({ cls := "PillarSaintsModel", name := "undo", desc := "()Z" } : Jvm.MethodName)) ∈ xTs := xTs_of (xt_6 (xnth_mem 71 rfl)) rfl
theorem kw6_72 : (Jvm.Cond.selects "PillarSaintsModel" ({ cls := "PillarSaintsModel", name := "undo", desc := "()Z" } : Jvm.MethodName) ({ cls := "PillarSaintsModel", name := "undo", desc := "()Z" } : Jvm.MethodName)) ∈ xTs := xTs_of (xt_6 (xnth_mem 72 rfl)) rfl
theorem kw6_73 : (Jvm.Cond.code ({ cls := "PillarSaintsModel", name := "undo", desc := "()Z" } : Jvm.MethodName) prog_14_method_12_code (2 : Nat) (Option.some Jvm.ClassFile.FieldType.boolean)) ∈ xTs := xTs_of (xt_6 (xnth_mem 73 rfl)) rfl
theorem kw6_74 : (Jvm.Cond.methodLink "PillarSaintsLaw" (17 : Nat) ({ cls := "PillarSaintsModel", name := "state", desc := "(I)I" } : Jvm.MethodName)) ∈ xTs := xTs_of (xt_6 (xnth_mem 74 rfl)) rfl
theorem kw6_75 : (Jvm.Cond.instanceMethod ({ cls := "PillarSaintsModel", name := "state", desc := "(I)I" } : Jvm.MethodName)) ∈ xTs := xTs_of (xt_6 (xnth_mem 75 rfl)) rfl
theorem kw6_76 : (Jvm.Cond.selects "PillarSaintsModel" ({ cls := "PillarSaintsModel", name := "state", desc := "(I)I" } : Jvm.MethodName) ({ cls := "PillarSaintsModel", name := "state", desc := "(I)I" } : Jvm.MethodName)) ∈ xTs := xTs_of (xt_6 (xnth_mem 76 rfl)) rfl
theorem kw6_77 : (Jvm.Cond.code ({ cls := "PillarSaintsModel", name := "state", desc := "(I)I" } : Jvm.MethodName) prog_14_method_15_code (3 : Nat) (Option.some Jvm.ClassFile.FieldType.int)) ∈ xTs := xTs_of (xt_6 (xnth_mem 77 rfl)) rfl
theorem kw6_78 : (Jvm.Cond.methodLink "PillarSaintsLaw" (21 : Nat) ({ cls := "PillarSaintsModel", name := "pillar", desc := "(I)I" } : Jvm.MethodName)) ∈ xTs := xTs_of (xt_6 (xnth_mem 78 rfl)) rfl
theorem kw6_79 : (Jvm.Cond.instanceMethod ({ cls := "PillarSaintsModel", name := "pillar", desc := "(I)I" } : Jvm.MethodName)) ∈ xTs := xTs_of (xt_6 (xnth_mem 79 rfl)) rfl
theorem kw6_80 : (Jvm.Cond.selects "PillarSaintsModel" ({ cls := "PillarSaintsModel", name := "pillar", desc := "(I)I" } : Jvm.MethodName) ({ cls := "PillarSaintsModel", name := "pillar", desc := "(I)I" } : Jvm.MethodName)) ∈ xTs := xTs_of (xt_6 (xnth_mem 80 rfl)) rfl
theorem kw6_81 : (Jvm.Cond.code ({ cls := "PillarSaintsModel", name := "pillar", desc := "(I)I" } : Jvm.MethodName) prog_14_method_29_code (2 : Nat) (Option.some Jvm.ClassFile.FieldType.int)) ∈ xTs := xTs_of (xt_6 (xnth_mem 81 rfl)) rfl
theorem kw6_82 : (Jvm.Cond.methodLink "PillarSaintsModel" (122 : Nat) ({ cls := "PillarSaintsModel", name := "isIn", desc := "(III)Z" } : Jvm.MethodName)) ∈ xTs := xTs_of (xt_6 (xnth_mem 82 rfl)) rfl
theorem kw6_84 : (Jvm.Cond.instanceMethod ({ cls := "PillarSaintsModel", name := "isIn", desc := "(III)Z" } : Jvm.MethodName)) ∈ xTs := xTs_of (xt_6 (xnth_mem 84 rfl)) rfl
theorem kw6_85 : (Jvm.Cond.code ({ cls := "PillarSaintsModel", name := "isIn", desc := "(III)Z" } : Jvm.MethodName) prog_14_method_3_code (4 : Nat) (Option.some Jvm.ClassFile.FieldType.boolean)) ∈ xTs := xTs_of (xt_6 (xnth_mem 85 rfl)) rfl
theorem kw6_86 : (Jvm.Cond.methodLink "PillarSaintsModel" (126 : Nat) ({ cls := "PillarSaintsModel", name := "allClimb", desc := "()V" } : Jvm.MethodName)) ∈ xTs := xTs_of (xt_6 (xnth_mem 86 rfl)) rfl
theorem kw6_88 : (Jvm.Cond.instanceMethod ({ cls := "PillarSaintsModel", name := "allClimb", desc := "()V" } : Jvm.MethodName)) ∈ xTs := xTs_of (xt_6 (xnth_mem 88 rfl)) rfl
theorem kw6_89 : (Jvm.Cond.code ({ cls := "PillarSaintsModel", name := "allClimb", desc := "()V" } : Jvm.MethodName) prog_14_method_28_code (4 : Nat) (Option.none : Option Jvm.ClassFile.FieldType)) ∈ xTs := xTs_of (xt_6 (xnth_mem 89 rfl)) rfl
theorem kw6_90 : (Jvm.Cond.methodLink "PillarSaintsModel" (107 : Nat) ({ cls := "PillarSaintsModel", name := "sitterOf", desc := "(I)I" } : Jvm.MethodName)) ∈ xTs := xTs_of (xt_6 (xnth_mem 90 rfl)) rfl
theorem kw6_92 : (Jvm.Cond.instanceMethod ({ cls := "PillarSaintsModel", name := "sitterOf", desc := "(I)I" } : Jvm.MethodName)) ∈ xTs := xTs_of (xt_6 (xnth_mem 92 rfl)) rfl
theorem kw6_93 : (Jvm.Cond.code ({ cls := "PillarSaintsModel", name := "sitterOf", desc := "(I)I" } : Jvm.MethodName) prog_14_method_19_code (2 : Nat) (Option.some Jvm.ClassFile.FieldType.int)) ∈ xTs := xTs_of (xt_6 (xnth_mem 93 rfl)) rfl
theorem kw6_94 : (Jvm.Cond.methodLink "PillarSaintsModel" (111 : Nat) ({ cls := "PillarSaintsModel", name := "nextBelow", desc := "(I)I" } : Jvm.MethodName)) ∈ xTs := xTs_of (xt_6 (xnth_mem 94 rfl)) rfl
theorem kw6_96 : (Jvm.Cond.instanceMethod ({ cls := "PillarSaintsModel", name := "nextBelow", desc := "(I)I" } : Jvm.MethodName)) ∈ xTs := xTs_of (xt_6 (xnth_mem 96 rfl)) rfl
theorem kw6_97 : (Jvm.Cond.code ({ cls := "PillarSaintsModel", name := "nextBelow", desc := "(I)I" } : Jvm.MethodName) prog_14_method_23_code (3 : Nat) (Option.some Jvm.ClassFile.FieldType.int)) ∈ xTs := xTs_of (xt_6 (xnth_mem 97 rfl)) rfl
theorem kw6_98 : (Jvm.Cond.methodLink "PillarSaintsModel" (114 : Nat) ({ cls := "PillarSaintsModel", name := "leavesGround", desc := "(I)V" } : Jvm.MethodName)) ∈ xTs := xTs_of (xt_6 (xnth_mem 98 rfl)) rfl
theorem kw6_100 : (Jvm.Cond.instanceMethod ({ cls := "PillarSaintsModel", name := "leavesGround", desc := "(I)V" } : Jvm.MethodName)) ∈ xTs := xTs_of (xt_6 (xnth_mem 100 rfl)) rfl
theorem kw6_101 : (Jvm.Cond.code ({ cls := "PillarSaintsModel", name := "leavesGround", desc := "(I)V" } : Jvm.MethodName) prog_14_method_26_code (3 : Nat) (Option.none : Option Jvm.ClassFile.FieldType)) ∈ xTs := xTs_of (xt_6 (xnth_mem 101 rfl)) rfl
theorem kw6_102 : (Jvm.Cond.methodLink "PillarSaintsModel" (118 : Nat) ({ cls := "PillarSaintsModel", name := "notes", desc := "(III)V" } : Jvm.MethodName)) ∈ xTs := xTs_of (xt_6 (xnth_mem 102 rfl)) rfl
theorem kw6_104 : (Jvm.Cond.instanceMethod ({ cls := "PillarSaintsModel", name := "notes", desc := "(III)V" } : Jvm.MethodName)) ∈ xTs := xTs_of (xt_6 (xnth_mem 104 rfl)) rfl
theorem kw6_105 : (Jvm.Cond.code ({ cls := "PillarSaintsModel", name := "notes", desc := "(III)V" } : Jvm.MethodName) prog_14_method_25_code (5 : Nat) (Option.none : Option Jvm.ClassFile.FieldType)) ∈ xTs := xTs_of (xt_6 (xnth_mem 105 rfl)) rfl
theorem kw6_106 : (Jvm.Cond.methodLink "PillarSaintsLaw" (26 : Nat) ({ cls := "PillarSaintsModel", name := "saint", desc := "(III)I" } : Jvm.MethodName)) ∈ xTs := xTs_of (xt_6 (xnth_mem 106 rfl)) rfl
theorem kw6_107 : (Jvm.Cond.instanceMethod ({ cls := "PillarSaintsModel", name := "saint", desc := "(III)I" } : Jvm.MethodName)) ∈ xTs := xTs_of (xt_6 (xnth_mem 107 rfl)) rfl
theorem kw6_108 : (Jvm.Cond.selects "PillarSaintsModel" ({ cls := "PillarSaintsModel", name := "saint", desc := "(III)I" } : Jvm.MethodName) ({ cls := "PillarSaintsModel", name := "saint", desc := "(III)I" } : Jvm.MethodName)) ∈ xTs := xTs_of (xt_6 (xnth_mem 108 rfl)) rfl
theorem kw6_109 : (Jvm.Cond.code ({ cls := "PillarSaintsModel", name := "saint", desc := "(III)I" } : Jvm.MethodName) prog_14_method_30_code (4 : Nat) (Option.some Jvm.ClassFile.FieldType.int)) ∈ xTs := xTs_of (xt_6 (xnth_mem 109 rfl)) rfl
theorem kw6_110 : (Jvm.Cond.methodLink "PillarSaintsModel" (129 : Nat) ({ cls := "PillarSaintsModel", name := "comesBehind", desc := "(I)V" } : Jvm.MethodName)) ∈ xTs := xTs_of (xt_6 (xnth_mem 110 rfl)) rfl
theorem kw6_112 : (Jvm.Cond.instanceMethod ({ cls := "PillarSaintsModel", name := "comesBehind", desc := "(I)V" } : Jvm.MethodName)) ∈ xTs := xTs_of (xt_6 (xnth_mem 112 rfl)) rfl
theorem kw6_113 : (Jvm.Cond.code ({ cls := "PillarSaintsModel", name := "comesBehind", desc := "(I)V" } : Jvm.MethodName) prog_14_method_27_code (2 : Nat) (Option.none : Option Jvm.ClassFile.FieldType)) ∈ xTs := xTs_of (xt_6 (xnth_mem 113 rfl)) rfl
theorem kw6_114 : (Jvm.Cond.methodLink "PillarSaintsLaw" (31 : Nat) ({ cls := "PillarSaintsModel", name := "set", desc := "(III)Z" } : Jvm.MethodName)) ∈ xTs := xTs_of (xt_6 (xnth_mem 114 rfl)) rfl
theorem kw6_115 : (Jvm.Cond.instanceMethod ({ cls := "PillarSaintsModel", name := "set", desc := "(III)Z" } : Jvm.MethodName)) ∈ xTs := xTs_of (xt_6 (xnth_mem 115 rfl)) rfl
theorem kw6_116 : (Jvm.Cond.selects "PillarSaintsModel" ({ cls := "PillarSaintsModel", name := "set", desc := "(III)Z" } : Jvm.MethodName) ({ cls := "PillarSaintsModel", name := "set", desc := "(III)Z" } : Jvm.MethodName)) ∈ xTs := xTs_of (xt_6 (xnth_mem 116 rfl)) rfl
theorem kw6_117 : (Jvm.Cond.code ({ cls := "PillarSaintsModel", name := "set", desc := "(III)Z" } : Jvm.MethodName) prog_14_method_32_code (4 : Nat) (Option.some Jvm.ClassFile.FieldType.boolean)) ∈ xTs := xTs_of (xt_6 (xnth_mem 117 rfl)) rfl
theorem kw6_118 : (Jvm.Cond.methodLink "PillarSaintsModel" (136 : Nat) ({ cls := "PillarSaintsModel", name := "canSet", desc := "(III)Z" } : Jvm.MethodName)) ∈ xTs := xTs_of (xt_6 (xnth_mem 118 rfl)) rfl
theorem kw6_120 : (Jvm.Cond.instanceMethod ({ cls := "PillarSaintsModel", name := "canSet", desc := "(III)Z" } : Jvm.MethodName)) ∈ xTs := xTs_of (xt_6 (xnth_mem 120 rfl)) rfl
theorem kw6_121 : (Jvm.Cond.code ({ cls := "PillarSaintsModel", name := "canSet", desc := "(III)Z" } : Jvm.MethodName) prog_14_method_31_code (4 : Nat) (Option.some Jvm.ClassFile.FieldType.boolean)) ∈ xTs := xTs_of (xt_6 (xnth_mem 121 rfl)) rfl
theorem kw6_122 : (Jvm.Cond.methodLink "PillarSaintsModel" (132 : Nat) ({ cls := "PillarSaintsModel", name := "isSaint", desc := "(I)Z" } : Jvm.MethodName)) ∈ xTs := xTs_of (xt_6 (xnth_mem 122 rfl)) rfl
theorem kw6_124 : (Jvm.Cond.instanceMethod ({ cls := "PillarSaintsModel", name := "isSaint", desc := "(I)Z" } : Jvm.MethodName)) ∈ xTs := xTs_of (xt_6 (xnth_mem 124 rfl)) rfl
theorem kw6_125 : (Jvm.Cond.code ({ cls := "PillarSaintsModel", name := "isSaint", desc := "(I)Z" } : Jvm.MethodName) prog_14_method_18_code (2 : Nat) (Option.some Jvm.ClassFile.FieldType.boolean)) ∈ xTs := xTs_of (xt_6 (xnth_mem 125 rfl)) rfl
theorem kw6_126 : (Jvm.Cond.methodLink "PillarSaintsLaw" (44 : Nat) ({ cls := "PillarSaintsModel", name := "feed", desc := "(IIIII)I" } : Jvm.MethodName)) ∈ xTs := xTs_of (xt_6 (xnth_mem 126 rfl)) rfl
theorem kw6_127 : (Jvm.Cond.instanceMethod ({ cls := "PillarSaintsModel", name := "feed", desc := "(IIIII)I" } : Jvm.MethodName)) ∈ xTs := xTs_of (xt_6 (xnth_mem 127 rfl)) rfl
theorem kw6_128 : (Jvm.Cond.selects "PillarSaintsModel" ({ cls := "PillarSaintsModel", name := "feed", desc := "(IIIII)I" } : Jvm.MethodName) ({ cls := "PillarSaintsModel", name := "feed", desc := "(IIIII)I" } : Jvm.MethodName)) ∈ xTs := xTs_of (xt_6 (xnth_mem 128 rfl)) rfl
theorem kw6_129 : (Jvm.Cond.code ({ cls := "PillarSaintsModel", name := "feed", desc := "(IIIII)I" } : Jvm.MethodName) prog_14_method_34_code (6 : Nat) (Option.some Jvm.ClassFile.FieldType.int)) ∈ xTs := xTs_of (xt_6 (xnth_mem 129 rfl)) rfl
theorem kw6_130 : (Jvm.Cond.methodLink "PillarSaintsModel" (142 : Nat) ({ cls := "PillarSaintsModel", name := "types", desc := "(I)V" } : Jvm.MethodName)) ∈ xTs := xTs_of (xt_6 (xnth_mem 130 rfl)) rfl
theorem kw6_132 : (Jvm.Cond.instanceMethod ({ cls := "PillarSaintsModel", name := "types", desc := "(I)V" } : Jvm.MethodName)) ∈ xTs := xTs_of (xt_6 (xnth_mem 132 rfl)) rfl
theorem kw6_133 : (Jvm.Cond.code ({ cls := "PillarSaintsModel", name := "types", desc := "(I)V" } : Jvm.MethodName) prog_14_method_33_code (3 : Nat) (Option.none : Option Jvm.ClassFile.FieldType)) ∈ xTs := xTs_of (xt_6 (xnth_mem 133 rfl)) rfl
theorem kw6_134 : (Jvm.Cond.methodLink "PillarSaintsLaw" (49 : Nat) ({ cls := "PillarSaintsModel", name := "end", desc := "(I)Z" } : Jvm.MethodName)) ∈ xTs := xTs_of (xt_6 (xnth_mem 134 rfl)) rfl
theorem kw6_135 : (Jvm.Cond.instanceMethod ({ cls := "PillarSaintsModel", name := "end", desc := "(I)Z" } : Jvm.MethodName)) ∈ xTs := xTs_of (xt_6 (xnth_mem 135 rfl)) rfl
theorem kw6_136 : (Jvm.Cond.selects "PillarSaintsModel" ({ cls := "PillarSaintsModel", name := "end", desc := "(I)Z" } : Jvm.MethodName) ({ cls := "PillarSaintsModel", name := "end", desc := "(I)Z" } : Jvm.MethodName)) ∈ xTs := xTs_of (xt_6 (xnth_mem 136 rfl)) rfl
theorem kw6_137 : (Jvm.Cond.code ({ cls := "PillarSaintsModel", name := "end", desc := "(I)Z" } : Jvm.MethodName) prog_14_method_35_code (2 : Nat) (Option.some Jvm.ClassFile.FieldType.boolean)) ∈ xTs := xTs_of (xt_6 (xnth_mem 137 rfl)) rfl
theorem kw6_138 : (Jvm.Cond.methodLink "PillarSaintsLaw" (53 : Nat) ({ cls := "PillarSaintsModel", name := "text", desc := "(I)I" } : Jvm.MethodName)) ∈ xTs := xTs_of (xt_6 (xnth_mem 138 rfl)) rfl
theorem kw6_139 : (Jvm.Cond.instanceMethod ({ cls := "PillarSaintsModel", name := "text", desc := "(I)I" } : Jvm.MethodName)) ∈ xTs := xTs_of (xt_6 (xnth_mem 139 rfl)) rfl
theorem kw6_140 : (Jvm.Cond.selects "PillarSaintsModel" ({ cls := "PillarSaintsModel", name := "text", desc := "(I)I" } : Jvm.MethodName) ({ cls := "PillarSaintsModel", name := "text", desc := "(I)I" } : Jvm.MethodName)) ∈ xTs := xTs_of (xt_6 (xnth_mem 140 rfl)) rfl
theorem kw6_141 : (Jvm.Cond.code ({ cls := "PillarSaintsModel", name := "text", desc := "(I)I" } : Jvm.MethodName) prog_14_method_68_code (3 : Nat) (Option.some Jvm.ClassFile.FieldType.int)) ∈ xTs := xTs_of (xt_6 (xnth_mem 141 rfl)) rfl
theorem kw6_142 : (Jvm.Cond.methodLink "PillarSaintsModel" (279 : Nat) ({ cls := "PillarSaintsModel", name := "readsText", desc := "(I)I" } : Jvm.MethodName)) ∈ xTs := xTs_of (xt_6 (xnth_mem 142 rfl)) rfl
theorem kw6_144 : (Jvm.Cond.instanceMethod ({ cls := "PillarSaintsModel", name := "readsText", desc := "(I)I" } : Jvm.MethodName)) ∈ xTs := xTs_of (xt_6 (xnth_mem 144 rfl)) rfl
theorem kw6_145 : (Jvm.Cond.code ({ cls := "PillarSaintsModel", name := "readsText", desc := "(I)I" } : Jvm.MethodName) prog_14_method_66_code (2 : Nat) (Option.some Jvm.ClassFile.FieldType.int)) ∈ xTs := xTs_of (xt_6 (xnth_mem 145 rfl)) rfl
theorem kw6_146 : (Jvm.Cond.methodLink "PillarSaintsModel" (192 : Nat) ({ cls := "PillarSaintsModel", name := "reads", desc := "()V" } : Jvm.MethodName)) ∈ xTs := xTs_of (xt_6 (xnth_mem 146 rfl)) rfl
theorem kw6_148 : (Jvm.Cond.instanceMethod ({ cls := "PillarSaintsModel", name := "reads", desc := "()V" } : Jvm.MethodName)) ∈ xTs := xTs_of (xt_6 (xnth_mem 148 rfl)) rfl
theorem kw6_149 : (Jvm.Cond.code ({ cls := "PillarSaintsModel", name := "reads", desc := "()V" } : Jvm.MethodName) prog_14_method_41_code (2 : Nat) (Option.none : Option Jvm.ClassFile.FieldType)) ∈ xTs := xTs_of (xt_6 (xnth_mem 149 rfl)) rfl
theorem kw6_150 : (Jvm.Cond.methodLink "PillarSaintsModel" (148 : Nat) ({ cls := "PillarSaintsModel", name := "raw", desc := "(I)I" } : Jvm.MethodName)) ∈ xTs := xTs_of (xt_6 (xnth_mem 150 rfl)) rfl
theorem kw6_152 : (Jvm.Cond.instanceMethod ({ cls := "PillarSaintsModel", name := "raw", desc := "(I)I" } : Jvm.MethodName)) ∈ xTs := xTs_of (xt_6 (xnth_mem 152 rfl)) rfl
theorem kw6_153 : (Jvm.Cond.code ({ cls := "PillarSaintsModel", name := "raw", desc := "(I)I" } : Jvm.MethodName) prog_14_method_36_code (2 : Nat) (Option.some Jvm.ClassFile.FieldType.int)) ∈ xTs := xTs_of (xt_6 (xnth_mem 153 rfl)) rfl
theorem kw6_154 : (Jvm.Cond.methodLink "PillarSaintsModel" (160 : Nat) ({ cls := "PillarSaintsModel", name := "isLetter", desc := "(I)Z" } : Jvm.MethodName)) ∈ xTs := xTs_of (xt_6 (xnth_mem 154 rfl)) rfl
theorem kw6_156 : (Jvm.Cond.instanceMethod ({ cls := "PillarSaintsModel", name := "isLetter", desc := "(I)Z" } : Jvm.MethodName)) ∈ xTs := xTs_of (xt_6 (xnth_mem 156 rfl)) rfl
theorem kw6_157 : (Jvm.Cond.code ({ cls := "PillarSaintsModel", name := "isLetter", desc := "(I)Z" } : Jvm.MethodName) prog_14_method_37_code (2 : Nat) (Option.some Jvm.ClassFile.FieldType.boolean)) ∈ xTs := xTs_of (xt_6 (xnth_mem 157 rfl)) rfl
theorem kw6_158 : (Jvm.Cond.methodLink "PillarSaintsModel" (163 : Nat) ({ cls := "PillarSaintsModel", name := "wordAt", desc := "(II)I" } : Jvm.MethodName)) ∈ xTs := xTs_of (xt_6 (xnth_mem 158 rfl)) rfl
theorem kw6_160 : (Jvm.Cond.instanceMethod ({ cls := "PillarSaintsModel", name := "wordAt", desc := "(II)I" } : Jvm.MethodName)) ∈ xTs := xTs_of (xt_6 (xnth_mem 160 rfl)) rfl
theorem kw6_161 : (Jvm.Cond.code ({ cls := "PillarSaintsModel", name := "wordAt", desc := "(II)I" } : Jvm.MethodName) prog_14_method_40_code (6 : Nat) (Option.some Jvm.ClassFile.FieldType.int)) ∈ xTs := xTs_of (xt_6 (xnth_mem 161 rfl)) rfl
theorem kw6_162 : (Jvm.Cond.methodLink "PillarSaintsModel" (167 : Nat) ({ cls := "PillarSaintsModel", name := "isDigit", desc := "(I)Z" } : Jvm.MethodName)) ∈ xTs := xTs_of (xt_6 (xnth_mem 162 rfl)) rfl
theorem kw6_164 : (Jvm.Cond.instanceMethod ({ cls := "PillarSaintsModel", name := "isDigit", desc := "(I)Z" } : Jvm.MethodName)) ∈ xTs := xTs_of (xt_6 (xnth_mem 164 rfl)) rfl
theorem kw6_165 : (Jvm.Cond.code ({ cls := "PillarSaintsModel", name := "isDigit", desc := "(I)Z" } : Jvm.MethodName) prog_14_method_38_code (2 : Nat) (Option.some Jvm.ClassFile.FieldType.boolean)) ∈ xTs := xTs_of (xt_6 (xnth_mem 165 rfl)) rfl
theorem kw6_166 : (Jvm.Cond.methodLink "PillarSaintsModel" (170 : Nat) ({ cls := "PillarSaintsModel", name := "isMarkSign", desc := "(I)Z" } : Jvm.MethodName)) ∈ xTs := xTs_of (xt_6 (xnth_mem 166 rfl)) rfl
theorem kw6_168 : (Jvm.Cond.instanceMethod ({ cls := "PillarSaintsModel", name := "isMarkSign", desc := "(I)Z" } : Jvm.MethodName)) ∈ xTs := xTs_of (xt_6 (xnth_mem 168 rfl)) rfl
theorem kw6_169 : (Jvm.Cond.code ({ cls := "PillarSaintsModel", name := "isMarkSign", desc := "(I)Z" } : Jvm.MethodName) prog_14_method_39_code (2 : Nat) (Option.some Jvm.ClassFile.FieldType.boolean)) ∈ xTs := xTs_of (xt_6 (xnth_mem 169 rfl)) rfl
theorem kw6_170 : (Jvm.Cond.methodLink "PillarSaintsModel" (255 : Nat) ({ cls := "PillarSaintsModel", name := "readSky", desc := "()I" } : Jvm.MethodName)) ∈ xTs := xTs_of (xt_6 (xnth_mem 170 rfl)) rfl
theorem kw6_172 : (Jvm.Cond.instanceMethod ({ cls := "PillarSaintsModel", name := "readSky", desc := "()I" } : Jvm.MethodName)) ∈ xTs := xTs_of (xt_6 (xnth_mem 172 rfl)) rfl
theorem kw6_173 : (Jvm.Cond.code ({ cls := "PillarSaintsModel", name := "readSky", desc := "()I" } : Jvm.MethodName) prog_14_method_60_code (3 : Nat) (Option.some Jvm.ClassFile.FieldType.int)) ∈ xTs := xTs_of (xt_6 (xnth_mem 173 rfl)) rfl
theorem kw6_174 : (Jvm.Cond.methodLink "PillarSaintsModel" (214 : Nat) ({ cls := "PillarSaintsModel", name := "isWord", desc := "(I)Z" } : Jvm.MethodName)) ∈ xTs := xTs_of (xt_6 (xnth_mem 174 rfl)) rfl
theorem kw6_176 : (Jvm.Cond.instanceMethod ({ cls := "PillarSaintsModel", name := "isWord", desc := "(I)Z" } : Jvm.MethodName)) ∈ xTs := xTs_of (xt_6 (xnth_mem 176 rfl)) rfl
theorem kw6_177 : (Jvm.Cond.code ({ cls := "PillarSaintsModel", name := "isWord", desc := "(I)Z" } : Jvm.MethodName) prog_14_method_43_code (2 : Nat) (Option.some Jvm.ClassFile.FieldType.boolean)) ∈ xTs := xTs_of (xt_6 (xnth_mem 177 rfl)) rfl
theorem kw6_178 : (Jvm.Cond.methodLink "PillarSaintsModel" (185 : Nat) ({ cls := "PillarSaintsModel", name := "errs", desc := "(I)I" } : Jvm.MethodName)) ∈ xTs := xTs_of (xt_6 (xnth_mem 178 rfl)) rfl
theorem kw6_180 : (Jvm.Cond.instanceMethod ({ cls := "PillarSaintsModel", name := "errs", desc := "(I)I" } : Jvm.MethodName)) ∈ xTs := xTs_of (xt_6 (xnth_mem 180 rfl)) rfl
theorem kw6_181 : (Jvm.Cond.code ({ cls := "PillarSaintsModel", name := "errs", desc := "(I)I" } : Jvm.MethodName) prog_14_method_42_code (2 : Nat) (Option.some Jvm.ClassFile.FieldType.int)) ∈ xTs := xTs_of (xt_6 (xnth_mem 181 rfl)) rfl
theorem kw6_182 : (Jvm.Cond.methodLink "PillarSaintsModel" (239 : Nat) ({ cls := "PillarSaintsModel", name := "readTold", desc := "(III)I" } : Jvm.MethodName)) ∈ xTs := xTs_of (xt_6 (xnth_mem 182 rfl)) rfl
theorem kw6_184 : (Jvm.Cond.instanceMethod ({ cls := "PillarSaintsModel", name := "readTold", desc := "(III)I" } : Jvm.MethodName)) ∈ xTs := xTs_of (xt_6 (xnth_mem 184 rfl)) rfl
theorem kw6_185 : (Jvm.Cond.code ({ cls := "PillarSaintsModel", name := "readTold", desc := "(III)I" } : Jvm.MethodName) prog_14_method_59_code (4 : Nat) (Option.some Jvm.ClassFile.FieldType.int)) ∈ xTs := xTs_of (xt_6 (xnth_mem 185 rfl)) rfl
theorem kw6_186 : (Jvm.Cond.methodLink "PillarSaintsModel" (236 : Nat) ({ cls := "PillarSaintsModel", name := "readNumber", desc := "(II)I" } : Jvm.MethodName)) ∈ xTs := xTs_of (xt_6 (xnth_mem 186 rfl)) rfl
theorem kw6_188 : (Jvm.Cond.instanceMethod ({ cls := "PillarSaintsModel", name := "readNumber", desc := "(II)I" } : Jvm.MethodName)) ∈ xTs := xTs_of (xt_6 (xnth_mem 188 rfl)) rfl
theorem kw6_189 : (Jvm.Cond.code ({ cls := "PillarSaintsModel", name := "readNumber", desc := "(II)I" } : Jvm.MethodName) prog_14_method_57_code (4 : Nat) (Option.some Jvm.ClassFile.FieldType.int)) ∈ xTs := xTs_of (xt_6 (xnth_mem 189 rfl)) rfl
theorem kw6_190 : (Jvm.Cond.methodLink "PillarSaintsModel" (243 : Nat) ({ cls := "PillarSaintsModel", name := "readMark", desc := "(I)I" } : Jvm.MethodName)) ∈ xTs := xTs_of (xt_6 (xnth_mem 190 rfl)) rfl
theorem kw6_192 : (Jvm.Cond.instanceMethod ({ cls := "PillarSaintsModel", name := "readMark", desc := "(I)I" } : Jvm.MethodName)) ∈ xTs := xTs_of (xt_6 (xnth_mem 192 rfl)) rfl
theorem kw6_193 : (Jvm.Cond.code ({ cls := "PillarSaintsModel", name := "readMark", desc := "(I)I" } : Jvm.MethodName) prog_14_method_58_code (2 : Nat) (Option.some Jvm.ClassFile.FieldType.int)) ∈ xTs := xTs_of (xt_6 (xnth_mem 193 rfl)) rfl
theorem kw6_194 : (Jvm.Cond.methodLink "PillarSaintsModel" (199 : Nat) ({ cls := "PillarSaintsModel", name := "isSign", desc := "(I)Z" } : Jvm.MethodName)) ∈ xTs := xTs_of (xt_6 (xnth_mem 194 rfl)) rfl
theorem kw6_196 : (Jvm.Cond.instanceMethod ({ cls := "PillarSaintsModel", name := "isSign", desc := "(I)Z" } : Jvm.MethodName)) ∈ xTs := xTs_of (xt_6 (xnth_mem 196 rfl)) rfl
theorem kw6_197 : (Jvm.Cond.code ({ cls := "PillarSaintsModel", name := "isSign", desc := "(I)Z" } : Jvm.MethodName) prog_14_method_44_code (2 : Nat) (Option.some Jvm.ClassFile.FieldType.boolean)) ∈ xTs := xTs_of (xt_6 (xnth_mem 197 rfl)) rfl
theorem kw6_198 : (Jvm.Cond.methodLink "PillarSaintsModel" (258 : Nat) ({ cls := "PillarSaintsModel", name := "readPlan", desc := "()I" } : Jvm.MethodName)) ∈ xTs := xTs_of (xt_6 (xnth_mem 198 rfl)) rfl
theorem kw6_200 : (Jvm.Cond.instanceMethod ({ cls := "PillarSaintsModel", name := "readPlan", desc := "()I" } : Jvm.MethodName)) ∈ xTs := xTs_of (xt_6 (xnth_mem 200 rfl)) rfl
theorem kw6_201 : (Jvm.Cond.code ({ cls := "PillarSaintsModel", name := "readPlan", desc := "()I" } : Jvm.MethodName) prog_14_method_63_code (2 : Nat) (Option.some Jvm.ClassFile.FieldType.int)) ∈ xTs := xTs_of (xt_6 (xnth_mem 201 rfl)) rfl
theorem kw6_202 : (Jvm.Cond.methodLink "PillarSaintsModel" (249 : Nat) ({ cls := "PillarSaintsModel", name := "readDeed", desc := "(I)I" } : Jvm.MethodName)) ∈ xTs := xTs_of (xt_6 (xnth_mem 202 rfl)) rfl
theorem kw6_204 : (Jvm.Cond.instanceMethod ({ cls := "PillarSaintsModel", name := "readDeed", desc := "(I)I" } : Jvm.MethodName)) ∈ xTs := xTs_of (xt_6 (xnth_mem 204 rfl)) rfl
theorem kw6_205 : (Jvm.Cond.code ({ cls := "PillarSaintsModel", name := "readDeed", desc := "(I)I" } : Jvm.MethodName) prog_14_method_62_code (3 : Nat) (Option.some Jvm.ClassFile.FieldType.int)) ∈ xTs := xTs_of (xt_6 (xnth_mem 205 rfl)) rfl
theorem kw6_206 : (Jvm.Cond.methodLink "PillarSaintsModel" (246 : Nat) ({ cls := "PillarSaintsModel", name := "mostFor", desc := "(I)I" } : Jvm.MethodName)) ∈ xTs := xTs_of (xt_6 (xnth_mem 206 rfl)) rfl
theorem kw6_208 : (Jvm.Cond.instanceMethod ({ cls := "PillarSaintsModel", name := "mostFor", desc := "(I)I" } : Jvm.MethodName)) ∈ xTs := xTs_of (xt_6 (xnth_mem 208 rfl)) rfl
theorem kw6_209 : (Jvm.Cond.code ({ cls := "PillarSaintsModel", name := "mostFor", desc := "(I)I" } : Jvm.MethodName) prog_14_method_61_code (2 : Nat) (Option.some Jvm.ClassFile.FieldType.int)) ∈ xTs := xTs_of (xt_6 (xnth_mem 209 rfl)) rfl
theorem kw6_210 : (Jvm.Cond.methodLink "PillarSaintsModel" (261 : Nat) ({ cls := "PillarSaintsModel", name := "readTenets", desc := "()I" } : Jvm.MethodName)) ∈ xTs := xTs_of (xt_6 (xnth_mem 210 rfl)) rfl
theorem kw6_212 : (Jvm.Cond.instanceMethod ({ cls := "PillarSaintsModel", name := "readTenets", desc := "()I" } : Jvm.MethodName)) ∈ xTs := xTs_of (xt_6 (xnth_mem 212 rfl)) rfl
theorem kw6_213 : (Jvm.Cond.code ({ cls := "PillarSaintsModel", name := "readTenets", desc := "()I" } : Jvm.MethodName) prog_14_method_65_code (2 : Nat) (Option.some Jvm.ClassFile.FieldType.int)) ∈ xTs := xTs_of (xt_6 (xnth_mem 213 rfl)) rfl
theorem kw6_214 : (Jvm.Cond.methodLink "PillarSaintsModel" (252 : Nat) ({ cls := "PillarSaintsModel", name := "readTenet", desc := "(I)I" } : Jvm.MethodName)) ∈ xTs := xTs_of (xt_6 (xnth_mem 214 rfl)) rfl
theorem kw6_216 : (Jvm.Cond.instanceMethod ({ cls := "PillarSaintsModel", name := "readTenet", desc := "(I)I" } : Jvm.MethodName)) ∈ xTs := xTs_of (xt_6 (xnth_mem 216 rfl)) rfl
theorem kw6_217 : (Jvm.Cond.code ({ cls := "PillarSaintsModel", name := "readTenet", desc := "(I)I" } : Jvm.MethodName) prog_14_method_64_code (5 : Nat) (Option.some Jvm.ClassFile.FieldType.int)) ∈ xTs := xTs_of (xt_6 (xnth_mem 217 rfl)) rfl
theorem kw6_218 : (Jvm.Cond.methodLink "PillarSaintsModel" (264 : Nat) ({ cls := "PillarSaintsModel", name := "readLaw", desc := "()I" } : Jvm.MethodName)) ∈ xTs := xTs_of (xt_6 (xnth_mem 218 rfl)) rfl
theorem kw6_220 : (Jvm.Cond.instanceMethod ({ cls := "PillarSaintsModel", name := "readLaw", desc := "()I" } : Jvm.MethodName)) ∈ xTs := xTs_of (xt_6 (xnth_mem 220 rfl)) rfl
theorem kw6_221 : (Jvm.Cond.code ({ cls := "PillarSaintsModel", name := "readLaw", desc := "()I" } : Jvm.MethodName) prog_14_method_55_code (3 : Nat) (Option.some Jvm.ClassFile.FieldType.int)) ∈ xTs := xTs_of (xt_6 (xnth_mem 221 rfl)) rfl
theorem kw6_222 : (Jvm.Cond.methodLink "PillarSaintsModel" (226 : Nat) ({ cls := "PillarSaintsModel", name := "isLineWord", desc := "()Z" } : Jvm.MethodName)) ∈ xTs := xTs_of (xt_6 (xnth_mem 222 rfl)) rfl
theorem kw6_224 : (Jvm.Cond.instanceMethod ({ cls := "PillarSaintsModel", name := "isLineWord", desc := "()Z" } : Jvm.MethodName)) ∈ xTs := xTs_of (xt_6 (xnth_mem 224 rfl)) rfl
theorem kw6_225 : (Jvm.Cond.code ({ cls := "PillarSaintsModel", name := "isLineWord", desc := "()Z" } : Jvm.MethodName) prog_14_method_54_code (1 : Nat) (Option.some Jvm.ClassFile.FieldType.boolean)) ∈ xTs := xTs_of (xt_6 (xnth_mem 225 rfl)) rfl
theorem kw6_226 : (Jvm.Cond.methodLink "PillarSaintsModel" (205 : Nat) ({ cls := "PillarSaintsModel", name := "readSum", desc := "()I" } : Jvm.MethodName)) ∈ xTs := xTs_of (xt_6 (xnth_mem 226 rfl)) rfl
theorem kw6_228 : (Jvm.Cond.instanceMethod ({ cls := "PillarSaintsModel", name := "readSum", desc := "()I" } : Jvm.MethodName)) ∈ xTs := xTs_of (xt_6 (xnth_mem 228 rfl)) rfl
theorem kw6_229 : (Jvm.Cond.code ({ cls := "PillarSaintsModel", name := "readSum", desc := "()I" } : Jvm.MethodName) prog_14_method_49_code (2 : Nat) (Option.some Jvm.ClassFile.FieldType.int)) ∈ xTs := xTs_of (xt_6 (xnth_mem 229 rfl)) rfl
theorem kw6_230 : (Jvm.Cond.methodLink "PillarSaintsModel" (202 : Nat) ({ cls := "PillarSaintsModel", name := "readProduct", desc := "()I" } : Jvm.MethodName)) ∈ xTs := xTs_of (xt_6 (xnth_mem 230 rfl)) rfl
theorem kw6_232 : (Jvm.Cond.instanceMethod ({ cls := "PillarSaintsModel", name := "readProduct", desc := "()I" } : Jvm.MethodName)) ∈ xTs := xTs_of (xt_6 (xnth_mem 232 rfl)) rfl
theorem kw6_233 : (Jvm.Cond.code ({ cls := "PillarSaintsModel", name := "readProduct", desc := "()I" } : Jvm.MethodName) prog_14_method_48_code (2 : Nat) (Option.some Jvm.ClassFile.FieldType.int)) ∈ xTs := xTs_of (xt_6 (xnth_mem 233 rfl)) rfl
theorem kw6_234 : (Jvm.Cond.methodLink "PillarSaintsModel" (195 : Nat) ({ cls := "PillarSaintsModel", name := "readUnit", desc := "()I" } : Jvm.MethodName)) ∈ xTs := xTs_of (xt_6 (xnth_mem 234 rfl)) rfl
theorem kw6_236 : (Jvm.Cond.instanceMethod ({ cls := "PillarSaintsModel", name := "readUnit", desc := "()I" } : Jvm.MethodName)) ∈ xTs := xTs_of (xt_6 (xnth_mem 236 rfl)) rfl
theorem kw6_237 : (Jvm.Cond.code ({ cls := "PillarSaintsModel", name := "readUnit", desc := "()I" } : Jvm.MethodName) prog_14_method_47_code (2 : Nat) (Option.some Jvm.ClassFile.FieldType.int)) ∈ xTs := xTs_of (xt_6 (xnth_mem 237 rfl)) rfl
theorem kw6_238 : (Jvm.Cond.methodLink "PillarSaintsModel" (182 : Nat) ({ cls := "PillarSaintsModel", name := "canAsk", desc := "(I)Z" } : Jvm.MethodName)) ∈ xTs := xTs_of (xt_6 (xnth_mem 238 rfl)) rfl
theorem kw7_0 : (Jvm.Cond.instanceMethod ({ cls := "PillarSaintsModel", name := "canAsk", desc := "(I)Z" } : Jvm.MethodName)) ∈ xTs := xTs_of (xt_7 (xnth_mem 0 rfl)) rfl
theorem kw7_1 : (Jvm.Cond.code ({ cls := "PillarSaintsModel", name := "canAsk", desc := "(I)Z" } : Jvm.MethodName) prog_14_method_46_code (2 : Nat) (Option.some Jvm.ClassFile.FieldType.boolean)) ∈ xTs := xTs_of (xt_7 (xnth_mem 1 rfl)) rfl
theorem kw7_2 : (Jvm.Cond.methodLink "PillarSaintsModel" (188 : Nat) ({ cls := "PillarSaintsModel", name := "emits", desc := "(II)V" } : Jvm.MethodName)) ∈ xTs := xTs_of (xt_7 (xnth_mem 2 rfl)) rfl
theorem kw7_4 : (Jvm.Cond.instanceMethod ({ cls := "PillarSaintsModel", name := "emits", desc := "(II)V" } : Jvm.MethodName)) ∈ xTs := xTs_of (xt_7 (xnth_mem 4 rfl)) rfl
theorem kw7_5 : (Jvm.Cond.code ({ cls := "PillarSaintsModel", name := "emits", desc := "(II)V" } : Jvm.MethodName) prog_14_method_45_code (3 : Nat) (Option.none : Option Jvm.ClassFile.FieldType)) ∈ xTs := xTs_of (xt_7 (xnth_mem 5 rfl)) rfl
theorem kw7_6 : (Jvm.Cond.methodLink "PillarSaintsModel" (230 : Nat) ({ cls := "PillarSaintsModel", name := "readAny", desc := "()I" } : Jvm.MethodName)) ∈ xTs := xTs_of (xt_7 (xnth_mem 6 rfl)) rfl
theorem kw7_8 : (Jvm.Cond.instanceMethod ({ cls := "PillarSaintsModel", name := "readAny", desc := "()I" } : Jvm.MethodName)) ∈ xTs := xTs_of (xt_7 (xnth_mem 8 rfl)) rfl
theorem kw7_9 : (Jvm.Cond.code ({ cls := "PillarSaintsModel", name := "readAny", desc := "()I" } : Jvm.MethodName) prog_14_method_53_code (4 : Nat) (Option.some Jvm.ClassFile.FieldType.int)) ∈ xTs := xTs_of (xt_7 (xnth_mem 9 rfl)) rfl
theorem kw7_10 : (Jvm.Cond.methodLink "PillarSaintsModel" (217 : Nat) ({ cls := "PillarSaintsModel", name := "waits", desc := "(I)V" } : Jvm.MethodName)) ∈ xTs := xTs_of (xt_7 (xnth_mem 10 rfl)) rfl
theorem kw7_12 : (Jvm.Cond.instanceMethod ({ cls := "PillarSaintsModel", name := "waits", desc := "(I)V" } : Jvm.MethodName)) ∈ xTs := xTs_of (xt_7 (xnth_mem 12 rfl)) rfl
theorem kw7_13 : (Jvm.Cond.code ({ cls := "PillarSaintsModel", name := "waits", desc := "(I)V" } : Jvm.MethodName) prog_14_method_51_code (2 : Nat) (Option.none : Option Jvm.ClassFile.FieldType)) ∈ xTs := xTs_of (xt_7 (xnth_mem 13 rfl)) rfl
theorem kw7_14 : (Jvm.Cond.methodLink "PillarSaintsModel" (220 : Nat) ({ cls := "PillarSaintsModel", name := "readCompared", desc := "()I" } : Jvm.MethodName)) ∈ xTs := xTs_of (xt_7 (xnth_mem 14 rfl)) rfl
theorem kw7_16 : (Jvm.Cond.instanceMethod ({ cls := "PillarSaintsModel", name := "readCompared", desc := "()I" } : Jvm.MethodName)) ∈ xTs := xTs_of (xt_7 (xnth_mem 16 rfl)) rfl
theorem kw7_17 : (Jvm.Cond.code ({ cls := "PillarSaintsModel", name := "readCompared", desc := "()I" } : Jvm.MethodName) prog_14_method_50_code (2 : Nat) (Option.some Jvm.ClassFile.FieldType.int)) ∈ xTs := xTs_of (xt_7 (xnth_mem 17 rfl)) rfl
theorem kw7_18 : (Jvm.Cond.methodLink "PillarSaintsModel" (223 : Nat) ({ cls := "PillarSaintsModel", name := "settles", desc := "(I)V" } : Jvm.MethodName)) ∈ xTs := xTs_of (xt_7 (xnth_mem 18 rfl)) rfl
theorem kw7_20 : (Jvm.Cond.instanceMethod ({ cls := "PillarSaintsModel", name := "settles", desc := "(I)V" } : Jvm.MethodName)) ∈ xTs := xTs_of (xt_7 (xnth_mem 20 rfl)) rfl
theorem kw7_21 : (Jvm.Cond.code ({ cls := "PillarSaintsModel", name := "settles", desc := "(I)V" } : Jvm.MethodName) prog_14_method_52_code (2 : Nat) (Option.none : Option Jvm.ClassFile.FieldType)) ∈ xTs := xTs_of (xt_7 (xnth_mem 21 rfl)) rfl
theorem kw7_22 : (Jvm.Cond.methodLink "PillarSaintsModel" (282 : Nat) ({ cls := "PillarSaintsModel", name := "takesLaw", desc := "(I)V" } : Jvm.MethodName)) ∈ xTs := xTs_of (xt_7 (xnth_mem 22 rfl)) rfl
theorem kw7_24 : (Jvm.Cond.instanceMethod ({ cls := "PillarSaintsModel", name := "takesLaw", desc := "(I)V" } : Jvm.MethodName)) ∈ xTs := xTs_of (xt_7 (xnth_mem 24 rfl)) rfl
theorem kw7_25 : (Jvm.Cond.code ({ cls := "PillarSaintsModel", name := "takesLaw", desc := "(I)V" } : Jvm.MethodName) prog_14_method_56_code (3 : Nat) (Option.none : Option Jvm.ClassFile.FieldType)) ∈ xTs := xTs_of (xt_7 (xnth_mem 25 rfl)) rfl
theorem kw7_26 : (Jvm.Cond.methodLink "PillarSaintsModel" (285 : Nat) ({ cls := "PillarSaintsModel", name := "takesOther", desc := "(II)V" } : Jvm.MethodName)) ∈ xTs := xTs_of (xt_7 (xnth_mem 26 rfl)) rfl
theorem kw7_28 : (Jvm.Cond.instanceMethod ({ cls := "PillarSaintsModel", name := "takesOther", desc := "(II)V" } : Jvm.MethodName)) ∈ xTs := xTs_of (xt_7 (xnth_mem 28 rfl)) rfl
theorem kw7_29 : (Jvm.Cond.code ({ cls := "PillarSaintsModel", name := "takesOther", desc := "(II)V" } : Jvm.MethodName) prog_14_method_67_code (4 : Nat) (Option.none : Option Jvm.ClassFile.FieldType)) ∈ xTs := xTs_of (xt_7 (xnth_mem 29 rfl)) rfl
theorem kw7_30 : (Jvm.Cond.methodLink "PillarSaintsLaw" (57 : Nat) ({ cls := "PillarSaintsModel", name := "fault", desc := "(I)I" } : Jvm.MethodName)) ∈ xTs := xTs_of (xt_7 (xnth_mem 30 rfl)) rfl
theorem kw7_31 : (Jvm.Cond.instanceMethod ({ cls := "PillarSaintsModel", name := "fault", desc := "(I)I" } : Jvm.MethodName)) ∈ xTs := xTs_of (xt_7 (xnth_mem 31 rfl)) rfl
theorem kw7_32 : (Jvm.Cond.selects "PillarSaintsModel" ({ cls := "PillarSaintsModel", name := "fault", desc := "(I)I" } : Jvm.MethodName) ({ cls := "PillarSaintsModel", name := "fault", desc := "(I)I" } : Jvm.MethodName)) ∈ xTs := xTs_of (xt_7 (xnth_mem 32 rfl)) rfl
theorem kw7_33 : (Jvm.Cond.code ({ cls := "PillarSaintsModel", name := "fault", desc := "(I)I" } : Jvm.MethodName) prog_14_method_69_code (2 : Nat) (Option.some Jvm.ClassFile.FieldType.int)) ∈ xTs := xTs_of (xt_7 (xnth_mem 33 rfl)) rfl
theorem kw7_34 : (Jvm.Cond.methodLink "PillarSaintsLaw" (35 : Nat) ({ cls := "PillarSaintsModel", name := "act", desc := "(III)Z" } : Jvm.MethodName)) ∈ xTs := xTs_of (xt_7 (xnth_mem 34 rfl)) rfl
theorem kw7_35 : (Jvm.Cond.instanceMethod ({ cls := "PillarSaintsModel", name := "act", desc := "(III)Z" } : Jvm.MethodName)) ∈ xTs := xTs_of (xt_7 (xnth_mem 35 rfl)) rfl
theorem kw7_36 : (Jvm.Cond.selects "PillarSaintsModel" ({ cls := "PillarSaintsModel", name := "act", desc := "(III)Z" } : Jvm.MethodName) ({ cls := "PillarSaintsModel", name := "act", desc := "(III)Z" } : Jvm.MethodName)) ∈ xTs := xTs_of (xt_7 (xnth_mem 36 rfl)) rfl
theorem kw7_37 : (Jvm.Cond.code ({ cls := "PillarSaintsModel", name := "act", desc := "(III)Z" } : Jvm.MethodName) prog_14_method_82_code (4 : Nat) (Option.some Jvm.ClassFile.FieldType.boolean)) ∈ xTs := xTs_of (xt_7 (xnth_mem 37 rfl)) rfl
theorem kw7_38 : (Jvm.Cond.methodLink "PillarSaintsModel" (334 : Nat) ({ cls := "PillarSaintsModel", name := "canAct", desc := "(III)Z" } : Jvm.MethodName)) ∈ xTs := xTs_of (xt_7 (xnth_mem 38 rfl)) rfl
theorem kw7_40 : (Jvm.Cond.instanceMethod ({ cls := "PillarSaintsModel", name := "canAct", desc := "(III)Z" } : Jvm.MethodName)) ∈ xTs := xTs_of (xt_7 (xnth_mem 40 rfl)) rfl
theorem kw7_41 : (Jvm.Cond.code ({ cls := "PillarSaintsModel", name := "canAct", desc := "(III)Z" } : Jvm.MethodName) prog_14_method_80_code (4 : Nat) (Option.some Jvm.ClassFile.FieldType.boolean)) ∈ xTs := xTs_of (xt_7 (xnth_mem 41 rfl)) rfl
theorem kw7_42 : (Jvm.Cond.methodLink "PillarSaintsModel" (322 : Nat) ({ cls := "PillarSaintsModel", name := "highest", desc := "()I" } : Jvm.MethodName)) ∈ xTs := xTs_of (xt_7 (xnth_mem 42 rfl)) rfl
theorem kw7_44 : (Jvm.Cond.instanceMethod ({ cls := "PillarSaintsModel", name := "highest", desc := "()I" } : Jvm.MethodName)) ∈ xTs := xTs_of (xt_7 (xnth_mem 44 rfl)) rfl
theorem kw7_45 : (Jvm.Cond.code ({ cls := "PillarSaintsModel", name := "highest", desc := "()I" } : Jvm.MethodName) prog_14_method_22_code (2 : Nat) (Option.some Jvm.ClassFile.FieldType.int)) ∈ xTs := xTs_of (xt_7 (xnth_mem 45 rfl)) rfl
theorem kw7_46 : (Jvm.Cond.methodLink "PillarSaintsModel" (294 : Nat) ({ cls := "PillarSaintsModel", name := "pillarOf", desc := "(I)I" } : Jvm.MethodName)) ∈ xTs := xTs_of (xt_7 (xnth_mem 46 rfl)) rfl
theorem kw7_48 : (Jvm.Cond.instanceMethod ({ cls := "PillarSaintsModel", name := "pillarOf", desc := "(I)I" } : Jvm.MethodName)) ∈ xTs := xTs_of (xt_7 (xnth_mem 48 rfl)) rfl
theorem kw7_49 : (Jvm.Cond.code ({ cls := "PillarSaintsModel", name := "pillarOf", desc := "(I)I" } : Jvm.MethodName) prog_14_method_20_code (3 : Nat) (Option.some Jvm.ClassFile.FieldType.int)) ∈ xTs := xTs_of (xt_7 (xnth_mem 49 rfl)) rfl
theorem kw7_50 : (Jvm.Cond.methodLink "PillarSaintsModel" (325 : Nat) ({ cls := "PillarSaintsModel", name := "isPillar", desc := "(I)Z" } : Jvm.MethodName)) ∈ xTs := xTs_of (xt_7 (xnth_mem 50 rfl)) rfl
theorem kw7_52 : (Jvm.Cond.instanceMethod ({ cls := "PillarSaintsModel", name := "isPillar", desc := "(I)Z" } : Jvm.MethodName)) ∈ xTs := xTs_of (xt_7 (xnth_mem 52 rfl)) rfl
theorem kw7_53 : (Jvm.Cond.code ({ cls := "PillarSaintsModel", name := "isPillar", desc := "(I)Z" } : Jvm.MethodName) prog_14_method_17_code (2 : Nat) (Option.some Jvm.ClassFile.FieldType.boolean)) ∈ xTs := xTs_of (xt_7 (xnth_mem 53 rfl)) rfl
theorem kw7_54 : (Jvm.Cond.methodLink "PillarSaintsModel" (337 : Nat) ({ cls := "PillarSaintsModel", name := "keepsAhead", desc := "()V" } : Jvm.MethodName)) ∈ xTs := xTs_of (xt_7 (xnth_mem 54 rfl)) rfl
theorem kw7_56 : (Jvm.Cond.instanceMethod ({ cls := "PillarSaintsModel", name := "keepsAhead", desc := "()V" } : Jvm.MethodName)) ∈ xTs := xTs_of (xt_7 (xnth_mem 56 rfl)) rfl
theorem kw7_57 : (Jvm.Cond.code ({ cls := "PillarSaintsModel", name := "keepsAhead", desc := "()V" } : Jvm.MethodName) prog_14_method_11_code (2 : Nat) (Option.none : Option Jvm.ClassFile.FieldType)) ∈ xTs := xTs_of (xt_7 (xnth_mem 57 rfl)) rfl
theorem kw7_58 : (Jvm.Cond.methodLink "PillarSaintsModel" (340 : Nat) ({ cls := "PillarSaintsModel", name := "acts", desc := "(III)V" } : Jvm.MethodName)) ∈ xTs := xTs_of (xt_7 (xnth_mem 58 rfl)) rfl
theorem kw7_60 : (Jvm.Cond.instanceMethod ({ cls := "PillarSaintsModel", name := "acts", desc := "(III)V" } : Jvm.MethodName)) ∈ xTs := xTs_of (xt_7 (xnth_mem 60 rfl)) rfl
theorem kw7_61 : (Jvm.Cond.code ({ cls := "PillarSaintsModel", name := "acts", desc := "(III)V" } : Jvm.MethodName) prog_14_method_81_code (4 : Nat) (Option.none : Option Jvm.ClassFile.FieldType)) ∈ xTs := xTs_of (xt_7 (xnth_mem 61 rfl)) rfl
theorem kw7_62 : (Jvm.Cond.methodLink "PillarSaintsModel" (328 : Nat) ({ cls := "PillarSaintsModel", name := "lesser", desc := "(II)I" } : Jvm.MethodName)) ∈ xTs := xTs_of (xt_7 (xnth_mem 62 rfl)) rfl
theorem kw7_64 : (Jvm.Cond.instanceMethod ({ cls := "PillarSaintsModel", name := "lesser", desc := "(II)I" } : Jvm.MethodName)) ∈ xTs := xTs_of (xt_7 (xnth_mem 64 rfl)) rfl
theorem kw7_65 : (Jvm.Cond.code ({ cls := "PillarSaintsModel", name := "lesser", desc := "(II)I" } : Jvm.MethodName) prog_14_method_6_code (3 : Nat) (Option.some Jvm.ClassFile.FieldType.int)) ∈ xTs := xTs_of (xt_7 (xnth_mem 65 rfl)) rfl
theorem kw7_66 : (Jvm.Cond.methodLink "PillarSaintsModel" (331 : Nat) ({ cls := "PillarSaintsModel", name := "isDown", desc := "(I)V" } : Jvm.MethodName)) ∈ xTs := xTs_of (xt_7 (xnth_mem 66 rfl)) rfl
theorem kw7_68 : (Jvm.Cond.instanceMethod ({ cls := "PillarSaintsModel", name := "isDown", desc := "(I)V" } : Jvm.MethodName)) ∈ xTs := xTs_of (xt_7 (xnth_mem 68 rfl)) rfl
theorem kw7_69 : (Jvm.Cond.code ({ cls := "PillarSaintsModel", name := "isDown", desc := "(I)V" } : Jvm.MethodName) prog_14_method_79_code (3 : Nat) (Option.none : Option Jvm.ClassFile.FieldType)) ∈ xTs := xTs_of (xt_7 (xnth_mem 69 rfl)) rfl
theorem kw7_70 : (Jvm.Cond.methodLink "PillarSaintsLaw" (39 : Nat) ({ cls := "PillarSaintsModel", name := "days", desc := "(I)I" } : Jvm.MethodName)) ∈ xTs := xTs_of (xt_7 (xnth_mem 70 rfl)) rfl
theorem kw7_71 : (Jvm.Cond.instanceMethod ({ cls := "PillarSaintsModel", name := "days", desc := "(I)I" } : Jvm.MethodName)) ∈ xTs := xTs_of (xt_7 (xnth_mem 71 rfl)) rfl
theorem kw7_72 : (Jvm.Cond.selects "PillarSaintsModel" ({ cls := "PillarSaintsModel", name := "days", desc := "(I)I" } : Jvm.MethodName) ({ cls := "PillarSaintsModel", name := "days", desc := "(I)I" } : Jvm.MethodName)) ∈ xTs := xTs_of (xt_7 (xnth_mem 72 rfl)) rfl
theorem kw7_73 : (Jvm.Cond.code ({ cls := "PillarSaintsModel", name := "days", desc := "(I)I" } : Jvm.MethodName) prog_14_method_91_code (4 : Nat) (Option.some Jvm.ClassFile.FieldType.int)) ∈ xTs := xTs_of (xt_7 (xnth_mem 73 rfl)) rfl
theorem kw7_74 : (Jvm.Cond.methodLink "PillarSaintsModel" (382 : Nat) ({ cls := "PillarSaintsModel", name := "goesBy", desc := "()I" } : Jvm.MethodName)) ∈ xTs := xTs_of (xt_7 (xnth_mem 74 rfl)) rfl
theorem kw7_76 : (Jvm.Cond.instanceMethod ({ cls := "PillarSaintsModel", name := "goesBy", desc := "()I" } : Jvm.MethodName)) ∈ xTs := xTs_of (xt_7 (xnth_mem 76 rfl)) rfl
theorem kw7_77 : (Jvm.Cond.code ({ cls := "PillarSaintsModel", name := "goesBy", desc := "()I" } : Jvm.MethodName) prog_14_method_90_code (3 : Nat) (Option.some Jvm.ClassFile.FieldType.int)) ∈ xTs := xTs_of (xt_7 (xnth_mem 77 rfl)) rfl
theorem kw7_78 : (Jvm.Cond.methodLink "PillarSaintsModel" (364 : Nat) ({ cls := "PillarSaintsModel", name := "does", desc := "(I)V" } : Jvm.MethodName)) ∈ xTs := xTs_of (xt_7 (xnth_mem 78 rfl)) rfl
theorem kw7_80 : (Jvm.Cond.instanceMethod ({ cls := "PillarSaintsModel", name := "does", desc := "(I)V" } : Jvm.MethodName)) ∈ xTs := xTs_of (xt_7 (xnth_mem 80 rfl)) rfl
theorem kw7_81 : (Jvm.Cond.code ({ cls := "PillarSaintsModel", name := "does", desc := "(I)V" } : Jvm.MethodName) prog_14_method_83_code (4 : Nat) (Option.none : Option Jvm.ClassFile.FieldType)) ∈ xTs := xTs_of (xt_7 (xnth_mem 81 rfl)) rfl
theorem kw7_82 : (Jvm.Cond.methodLink "PillarSaintsModel" (367 : Nat) ({ cls := "PillarSaintsModel", name := "skyOf", desc := "(I)I" } : Jvm.MethodName)) ∈ xTs := xTs_of (xt_7 (xnth_mem 82 rfl)) rfl
theorem kw7_84 : (Jvm.Cond.instanceMethod ({ cls := "PillarSaintsModel", name := "skyOf", desc := "(I)I" } : Jvm.MethodName)) ∈ xTs := xTs_of (xt_7 (xnth_mem 84 rfl)) rfl
theorem kw7_85 : (Jvm.Cond.code ({ cls := "PillarSaintsModel", name := "skyOf", desc := "(I)I" } : Jvm.MethodName) prog_14_method_94_code (4 : Nat) (Option.some Jvm.ClassFile.FieldType.int)) ∈ xTs := xTs_of (xt_7 (xnth_mem 85 rfl)) rfl
theorem kw7_86 : (Jvm.Cond.methodLink "PillarSaintsModel" (370 : Nat) ({ cls := "PillarSaintsModel", name := "basketGoes", desc := "()V" } : Jvm.MethodName)) ∈ xTs := xTs_of (xt_7 (xnth_mem 86 rfl)) rfl
theorem kw7_88 : (Jvm.Cond.instanceMethod ({ cls := "PillarSaintsModel", name := "basketGoes", desc := "()V" } : Jvm.MethodName)) ∈ xTs := xTs_of (xt_7 (xnth_mem 88 rfl)) rfl
theorem kw7_89 : (Jvm.Cond.code ({ cls := "PillarSaintsModel", name := "basketGoes", desc := "()V" } : Jvm.MethodName) prog_14_method_85_code (2 : Nat) (Option.none : Option Jvm.ClassFile.FieldType)) ∈ xTs := xTs_of (xt_7 (xnth_mem 89 rfl)) rfl
theorem kw7_90 : (Jvm.Cond.methodLink "PillarSaintsModel" (346 : Nat) ({ cls := "PillarSaintsModel", name := "eats", desc := "(I)V" } : Jvm.MethodName)) ∈ xTs := xTs_of (xt_7 (xnth_mem 90 rfl)) rfl
theorem kw7_92 : (Jvm.Cond.instanceMethod ({ cls := "PillarSaintsModel", name := "eats", desc := "(I)V" } : Jvm.MethodName)) ∈ xTs := xTs_of (xt_7 (xnth_mem 92 rfl)) rfl
theorem kw7_93 : (Jvm.Cond.code ({ cls := "PillarSaintsModel", name := "eats", desc := "(I)V" } : Jvm.MethodName) prog_14_method_84_code (4 : Nat) (Option.none : Option Jvm.ClassFile.FieldType)) ∈ xTs := xTs_of (xt_7 (xnth_mem 93 rfl)) rfl
theorem kw7_94 : (Jvm.Cond.methodLink "PillarSaintsModel" (343 : Nat) ({ cls := "PillarSaintsModel", name := "eatsOf", desc := "(I)I" } : Jvm.MethodName)) ∈ xTs := xTs_of (xt_7 (xnth_mem 94 rfl)) rfl
theorem kw7_96 : (Jvm.Cond.instanceMethod ({ cls := "PillarSaintsModel", name := "eatsOf", desc := "(I)I" } : Jvm.MethodName)) ∈ xTs := xTs_of (xt_7 (xnth_mem 96 rfl)) rfl
theorem kw7_97 : (Jvm.Cond.code ({ cls := "PillarSaintsModel", name := "eatsOf", desc := "(I)I" } : Jvm.MethodName) prog_14_method_76_code (2 : Nat) (Option.some Jvm.ClassFile.FieldType.int)) ∈ xTs := xTs_of (xt_7 (xnth_mem 97 rfl)) rfl
theorem kw7_98 : (Jvm.Cond.methodLink "PillarSaintsModel" (309 : Nat) ({ cls := "PillarSaintsModel", name := "asks", desc := "(I)V" } : Jvm.MethodName)) ∈ xTs := xTs_of (xt_7 (xnth_mem 98 rfl)) rfl
theorem kw7_100 : (Jvm.Cond.instanceMethod ({ cls := "PillarSaintsModel", name := "asks", desc := "(I)V" } : Jvm.MethodName)) ∈ xTs := xTs_of (xt_7 (xnth_mem 100 rfl)) rfl
theorem kw7_101 : (Jvm.Cond.code ({ cls := "PillarSaintsModel", name := "asks", desc := "(I)V" } : Jvm.MethodName) prog_14_method_74_code (3 : Nat) (Option.none : Option Jvm.ClassFile.FieldType)) ∈ xTs := xTs_of (xt_7 (xnth_mem 101 rfl)) rfl
theorem kw7_102 : (Jvm.Cond.methodLink "PillarSaintsModel" (300 : Nat) ({ cls := "PillarSaintsModel", name := "aboveOf", desc := "(I)I" } : Jvm.MethodName)) ∈ xTs := xTs_of (xt_7 (xnth_mem 102 rfl)) rfl
theorem kw7_104 : (Jvm.Cond.instanceMethod ({ cls := "PillarSaintsModel", name := "aboveOf", desc := "(I)I" } : Jvm.MethodName)) ∈ xTs := xTs_of (xt_7 (xnth_mem 104 rfl)) rfl
theorem kw7_105 : (Jvm.Cond.code ({ cls := "PillarSaintsModel", name := "aboveOf", desc := "(I)I" } : Jvm.MethodName) prog_14_method_73_code (4 : Nat) (Option.some Jvm.ClassFile.FieldType.int)) ∈ xTs := xTs_of (xt_7 (xnth_mem 105 rfl)) rfl
theorem kw7_106 : (Jvm.Cond.methodLink "PillarSaintsModel" (297 : Nat) ({ cls := "PillarSaintsModel", name := "nextAbove", desc := "(I)I" } : Jvm.MethodName)) ∈ xTs := xTs_of (xt_7 (xnth_mem 106 rfl)) rfl
theorem kw7_108 : (Jvm.Cond.instanceMethod ({ cls := "PillarSaintsModel", name := "nextAbove", desc := "(I)I" } : Jvm.MethodName)) ∈ xTs := xTs_of (xt_7 (xnth_mem 108 rfl)) rfl
theorem kw7_109 : (Jvm.Cond.code ({ cls := "PillarSaintsModel", name := "nextAbove", desc := "(I)I" } : Jvm.MethodName) prog_14_method_24_code (3 : Nat) (Option.some Jvm.ClassFile.FieldType.int)) ∈ xTs := xTs_of (xt_7 (xnth_mem 109 rfl)) rfl
theorem kw7_110 : (Jvm.Cond.methodLink "PillarSaintsModel" (312 : Nat) ({ cls := "PillarSaintsModel", name := "lawTells", desc := "(IIII)I" } : Jvm.MethodName)) ∈ xTs := xTs_of (xt_7 (xnth_mem 110 rfl)) rfl
theorem kw7_112 : (Jvm.Cond.instanceMethod ({ cls := "PillarSaintsModel", name := "lawTells", desc := "(IIII)I" } : Jvm.MethodName)) ∈ xTs := xTs_of (xt_7 (xnth_mem 112 rfl)) rfl
theorem kw7_113 : (Jvm.Cond.code ({ cls := "PillarSaintsModel", name := "lawTells", desc := "(IIII)I" } : Jvm.MethodName) prog_14_method_75_code (6 : Nat) (Option.some Jvm.ClassFile.FieldType.int)) ∈ xTs := xTs_of (xt_7 (xnth_mem 113 rfl)) rfl
theorem kw7_114 : (Jvm.Cond.methodLink "PillarSaintsModel" (303 : Nat) ({ cls := "PillarSaintsModel", name := "lineOf", desc := "(I)I" } : Jvm.MethodName)) ∈ xTs := xTs_of (xt_7 (xnth_mem 114 rfl)) rfl
theorem kw7_116 : (Jvm.Cond.instanceMethod ({ cls := "PillarSaintsModel", name := "lineOf", desc := "(I)I" } : Jvm.MethodName)) ∈ xTs := xTs_of (xt_7 (xnth_mem 116 rfl)) rfl
theorem kw7_117 : (Jvm.Cond.code ({ cls := "PillarSaintsModel", name := "lineOf", desc := "(I)I" } : Jvm.MethodName) prog_14_method_72_code (3 : Nat) (Option.some Jvm.ClassFile.FieldType.int)) ∈ xTs := xTs_of (xt_7 (xnth_mem 117 rfl)) rfl
theorem kw7_118 : (Jvm.Cond.methodLink "PillarSaintsModel" (291 : Nat) ({ cls := "PillarSaintsModel", name := "runs", desc := "(III)I" } : Jvm.MethodName)) ∈ xTs := xTs_of (xt_7 (xnth_mem 118 rfl)) rfl
theorem kw7_120 : (Jvm.Cond.instanceMethod ({ cls := "PillarSaintsModel", name := "runs", desc := "(III)I" } : Jvm.MethodName)) ∈ xTs := xTs_of (xt_7 (xnth_mem 120 rfl)) rfl
theorem kw7_121 : (Jvm.Cond.code ({ cls := "PillarSaintsModel", name := "runs", desc := "(III)I" } : Jvm.MethodName) prog_14_method_71_code (6 : Nat) (Option.some Jvm.ClassFile.FieldType.int)) ∈ xTs := xTs_of (xt_7 (xnth_mem 121 rfl)) rfl
theorem kw7_122 : (Jvm.Cond.methodLink "PillarSaintsModel" (288 : Nat) ({ cls := "PillarSaintsModel", name := "twoOf", desc := "(III)I" } : Jvm.MethodName)) ∈ xTs := xTs_of (xt_7 (xnth_mem 122 rfl)) rfl
theorem kw7_124 : (Jvm.Cond.instanceMethod ({ cls := "PillarSaintsModel", name := "twoOf", desc := "(III)I" } : Jvm.MethodName)) ∈ xTs := xTs_of (xt_7 (xnth_mem 124 rfl)) rfl
theorem kw7_125 : (Jvm.Cond.code ({ cls := "PillarSaintsModel", name := "twoOf", desc := "(III)I" } : Jvm.MethodName) prog_14_method_70_code (4 : Nat) (Option.some Jvm.ClassFile.FieldType.int)) ∈ xTs := xTs_of (xt_7 (xnth_mem 125 rfl)) rfl
theorem kw7_126 : (Jvm.Cond.methodLink "PillarSaintsModel" (306 : Nat) ({ cls := "PillarSaintsModel", name := "held", desc := "(III)I" } : Jvm.MethodName)) ∈ xTs := xTs_of (xt_7 (xnth_mem 126 rfl)) rfl
theorem kw7_128 : (Jvm.Cond.instanceMethod ({ cls := "PillarSaintsModel", name := "held", desc := "(III)I" } : Jvm.MethodName)) ∈ xTs := xTs_of (xt_7 (xnth_mem 128 rfl)) rfl
theorem kw7_129 : (Jvm.Cond.code ({ cls := "PillarSaintsModel", name := "held", desc := "(III)I" } : Jvm.MethodName) prog_14_method_4_code (4 : Nat) (Option.some Jvm.ClassFile.FieldType.int)) ∈ xTs := xTs_of (xt_7 (xnth_mem 129 rfl)) rfl
theorem kw7_130 : (Jvm.Cond.methodLink "PillarSaintsModel" (316 : Nat) ({ cls := "PillarSaintsModel", name := "greater", desc := "(II)I" } : Jvm.MethodName)) ∈ xTs := xTs_of (xt_7 (xnth_mem 130 rfl)) rfl
theorem kw7_132 : (Jvm.Cond.instanceMethod ({ cls := "PillarSaintsModel", name := "greater", desc := "(II)I" } : Jvm.MethodName)) ∈ xTs := xTs_of (xt_7 (xnth_mem 132 rfl)) rfl
theorem kw7_133 : (Jvm.Cond.code ({ cls := "PillarSaintsModel", name := "greater", desc := "(II)I" } : Jvm.MethodName) prog_14_method_5_code (3 : Nat) (Option.some Jvm.ClassFile.FieldType.int)) ∈ xTs := xTs_of (xt_7 (xnth_mem 133 rfl)) rfl
theorem kw7_134 : (Jvm.Cond.methodLink "PillarSaintsModel" (373 : Nat) ({ cls := "PillarSaintsModel", name := "adviceGoes", desc := "()V" } : Jvm.MethodName)) ∈ xTs := xTs_of (xt_7 (xnth_mem 134 rfl)) rfl
theorem kw7_136 : (Jvm.Cond.instanceMethod ({ cls := "PillarSaintsModel", name := "adviceGoes", desc := "()V" } : Jvm.MethodName)) ∈ xTs := xTs_of (xt_7 (xnth_mem 136 rfl)) rfl
theorem kw7_137 : (Jvm.Cond.code ({ cls := "PillarSaintsModel", name := "adviceGoes", desc := "()V" } : Jvm.MethodName) prog_14_method_87_code (3 : Nat) (Option.none : Option Jvm.ClassFile.FieldType)) ∈ xTs := xTs_of (xt_7 (xnth_mem 137 rfl)) rfl
theorem kw7_138 : (Jvm.Cond.methodLink "PillarSaintsModel" (352 : Nat) ({ cls := "PillarSaintsModel", name := "heardAs", desc := "(II)I" } : Jvm.MethodName)) ∈ xTs := xTs_of (xt_7 (xnth_mem 138 rfl)) rfl
theorem kw7_140 : (Jvm.Cond.instanceMethod ({ cls := "PillarSaintsModel", name := "heardAs", desc := "(II)I" } : Jvm.MethodName)) ∈ xTs := xTs_of (xt_7 (xnth_mem 140 rfl)) rfl
theorem kw7_141 : (Jvm.Cond.code ({ cls := "PillarSaintsModel", name := "heardAs", desc := "(II)I" } : Jvm.MethodName) prog_14_method_86_code (4 : Nat) (Option.some Jvm.ClassFile.FieldType.int)) ∈ xTs := xTs_of (xt_7 (xnth_mem 141 rfl)) rfl
theorem kw7_142 : (Jvm.Cond.methodLink "PillarSaintsModel" (349 : Nat) ({ cls := "PillarSaintsModel", name := "leansOf", desc := "(I)I" } : Jvm.MethodName)) ∈ xTs := xTs_of (xt_7 (xnth_mem 142 rfl)) rfl
theorem kw7_144 : (Jvm.Cond.instanceMethod ({ cls := "PillarSaintsModel", name := "leansOf", desc := "(I)I" } : Jvm.MethodName)) ∈ xTs := xTs_of (xt_7 (xnth_mem 144 rfl)) rfl
theorem kw7_145 : (Jvm.Cond.code ({ cls := "PillarSaintsModel", name := "leansOf", desc := "(I)I" } : Jvm.MethodName) prog_14_method_78_code (2 : Nat) (Option.some Jvm.ClassFile.FieldType.int)) ∈ xTs := xTs_of (xt_7 (xnth_mem 145 rfl)) rfl
theorem kw7_146 : (Jvm.Cond.methodLink "PillarSaintsModel" (319 : Nat) ({ cls := "PillarSaintsModel", name := "partOf", desc := "(II)I" } : Jvm.MethodName)) ∈ xTs := xTs_of (xt_7 (xnth_mem 146 rfl)) rfl
theorem kw7_148 : (Jvm.Cond.instanceMethod ({ cls := "PillarSaintsModel", name := "partOf", desc := "(II)I" } : Jvm.MethodName)) ∈ xTs := xTs_of (xt_7 (xnth_mem 148 rfl)) rfl
theorem kw7_149 : (Jvm.Cond.code ({ cls := "PillarSaintsModel", name := "partOf", desc := "(II)I" } : Jvm.MethodName) prog_14_method_8_code (3 : Nat) (Option.some Jvm.ClassFile.FieldType.int)) ∈ xTs := xTs_of (xt_7 (xnth_mem 149 rfl)) rfl
theorem kw7_150 : (Jvm.Cond.methodLink "PillarSaintsModel" (376 : Nat) ({ cls := "PillarSaintsModel", name := "isEnding", desc := "(I)Z" } : Jvm.MethodName)) ∈ xTs := xTs_of (xt_7 (xnth_mem 150 rfl)) rfl
theorem kw7_152 : (Jvm.Cond.instanceMethod ({ cls := "PillarSaintsModel", name := "isEnding", desc := "(I)Z" } : Jvm.MethodName)) ∈ xTs := xTs_of (xt_7 (xnth_mem 152 rfl)) rfl
theorem kw7_153 : (Jvm.Cond.code ({ cls := "PillarSaintsModel", name := "isEnding", desc := "(I)Z" } : Jvm.MethodName) prog_14_method_88_code (3 : Nat) (Option.some Jvm.ClassFile.FieldType.boolean)) ∈ xTs := xTs_of (xt_7 (xnth_mem 153 rfl)) rfl
theorem kw7_154 : (Jvm.Cond.methodLink "PillarSaintsModel" (355 : Nat) ({ cls := "PillarSaintsModel", name := "diesOf", desc := "(I)I" } : Jvm.MethodName)) ∈ xTs := xTs_of (xt_7 (xnth_mem 154 rfl)) rfl
theorem kw7_156 : (Jvm.Cond.instanceMethod ({ cls := "PillarSaintsModel", name := "diesOf", desc := "(I)I" } : Jvm.MethodName)) ∈ xTs := xTs_of (xt_7 (xnth_mem 156 rfl)) rfl
theorem kw7_157 : (Jvm.Cond.code ({ cls := "PillarSaintsModel", name := "diesOf", desc := "(I)I" } : Jvm.MethodName) prog_14_method_77_code (2 : Nat) (Option.some Jvm.ClassFile.FieldType.int)) ∈ xTs := xTs_of (xt_7 (xnth_mem 157 rfl)) rfl
theorem kw7_158 : (Jvm.Cond.methodLink "PillarSaintsModel" (358 : Nat) ({ cls := "PillarSaintsModel", name := "draw", desc := "(I)I" } : Jvm.MethodName)) ∈ xTs := xTs_of (xt_7 (xnth_mem 158 rfl)) rfl
theorem kw7_160 : (Jvm.Cond.instanceMethod ({ cls := "PillarSaintsModel", name := "draw", desc := "(I)I" } : Jvm.MethodName)) ∈ xTs := xTs_of (xt_7 (xnth_mem 160 rfl)) rfl
theorem kw7_161 : (Jvm.Cond.code ({ cls := "PillarSaintsModel", name := "draw", desc := "(I)I" } : Jvm.MethodName) prog_14_method_16_code (2 : Nat) (Option.some Jvm.ClassFile.FieldType.int)) ∈ xTs := xTs_of (xt_7 (xnth_mem 161 rfl)) rfl
theorem kw7_162 : (Jvm.Cond.constant "PillarSaintsModel" (99 : Nat) (1664525 : Int32)) ∈ xTs := xTs_of (xt_7 (xnth_mem 162 rfl)) rfl
theorem kw7_163 : (Jvm.Cond.constant "PillarSaintsModel" (100 : Nat) (1013904223 : Int32)) ∈ xTs := xTs_of (xt_7 (xnth_mem 163 rfl)) rfl
theorem kw7_164 : (Jvm.Cond.methodLink "PillarSaintsModel" (379 : Nat) ({ cls := "PillarSaintsModel", name := "dies", desc := "(I)V" } : Jvm.MethodName)) ∈ xTs := xTs_of (xt_7 (xnth_mem 164 rfl)) rfl
theorem kw7_166 : (Jvm.Cond.instanceMethod ({ cls := "PillarSaintsModel", name := "dies", desc := "(I)V" } : Jvm.MethodName)) ∈ xTs := xTs_of (xt_7 (xnth_mem 166 rfl)) rfl
theorem kw7_167 : (Jvm.Cond.code ({ cls := "PillarSaintsModel", name := "dies", desc := "(I)V" } : Jvm.MethodName) prog_14_method_89_code (3 : Nat) (Option.none : Option Jvm.ClassFile.FieldType)) ∈ xTs := xTs_of (xt_7 (xnth_mem 167 rfl)) rfl
theorem kw7_168 : (Jvm.Cond.methodLink "PillarSaintsModel" (361 : Nat) ({ cls := "PillarSaintsModel", name := "placeOf", desc := "(I)I" } : Jvm.MethodName)) ∈ xTs := xTs_of (xt_7 (xnth_mem 168 rfl)) rfl
theorem kw7_170 : (Jvm.Cond.instanceMethod ({ cls := "PillarSaintsModel", name := "placeOf", desc := "(I)I" } : Jvm.MethodName)) ∈ xTs := xTs_of (xt_7 (xnth_mem 170 rfl)) rfl
theorem kw7_171 : (Jvm.Cond.code ({ cls := "PillarSaintsModel", name := "placeOf", desc := "(I)I" } : Jvm.MethodName) prog_14_method_21_code (3 : Nat) (Option.some Jvm.ClassFile.FieldType.int)) ∈ xTs := xTs_of (xt_7 (xnth_mem 171 rfl)) rfl
theorem kw7_172 : (Jvm.Cond.methodLink "PillarSaintsLaw" (62 : Nat) ({ cls := "PillarSaintsModel", name := "of", desc := "(II)I" } : Jvm.MethodName)) ∈ xTs := xTs_of (xt_7 (xnth_mem 172 rfl)) rfl
theorem kw7_173 : (Jvm.Cond.instanceMethod ({ cls := "PillarSaintsModel", name := "of", desc := "(II)I" } : Jvm.MethodName)) ∈ xTs := xTs_of (xt_7 (xnth_mem 173 rfl)) rfl
theorem kw7_174 : (Jvm.Cond.selects "PillarSaintsModel" ({ cls := "PillarSaintsModel", name := "of", desc := "(II)I" } : Jvm.MethodName) ({ cls := "PillarSaintsModel", name := "of", desc := "(II)I" } : Jvm.MethodName)) ∈ xTs := xTs_of (xt_7 (xnth_mem 174 rfl)) rfl
theorem kw7_175 : (Jvm.Cond.code ({ cls := "PillarSaintsModel", name := "of", desc := "(II)I" } : Jvm.MethodName) prog_14_method_92_code (3 : Nat) (Option.some Jvm.ClassFile.FieldType.int)) ∈ xTs := xTs_of (xt_7 (xnth_mem 175 rfl)) rfl
theorem kw7_176 : (Jvm.Cond.methodLink "PillarSaintsLaw" (66 : Nat) ({ cls := "PillarSaintsModel", name := "at", desc := "(II)I" } : Jvm.MethodName)) ∈ xTs := xTs_of (xt_7 (xnth_mem 176 rfl)) rfl
theorem kw7_177 : (Jvm.Cond.instanceMethod ({ cls := "PillarSaintsModel", name := "at", desc := "(II)I" } : Jvm.MethodName)) ∈ xTs := xTs_of (xt_7 (xnth_mem 177 rfl)) rfl
theorem kw7_178 : (Jvm.Cond.selects "PillarSaintsModel" ({ cls := "PillarSaintsModel", name := "at", desc := "(II)I" } : Jvm.MethodName) ({ cls := "PillarSaintsModel", name := "at", desc := "(II)I" } : Jvm.MethodName)) ∈ xTs := xTs_of (xt_7 (xnth_mem 178 rfl)) rfl
theorem kw7_179 : (Jvm.Cond.code ({ cls := "PillarSaintsModel", name := "at", desc := "(II)I" } : Jvm.MethodName) prog_14_method_93_code (3 : Nat) (Option.some Jvm.ClassFile.FieldType.int)) ∈ xTs := xTs_of (xt_7 (xnth_mem 179 rfl)) rfl
theorem kw7_180 : (Jvm.Cond.methodLink "PillarSaintsLaw" (70 : Nat) ({ cls := "PillarSaintsModel", name := "sky", desc := "(I)I" } : Jvm.MethodName)) ∈ xTs := xTs_of (xt_7 (xnth_mem 180 rfl)) rfl
theorem kw7_181 : (Jvm.Cond.instanceMethod ({ cls := "PillarSaintsModel", name := "sky", desc := "(I)I" } : Jvm.MethodName)) ∈ xTs := xTs_of (xt_7 (xnth_mem 181 rfl)) rfl
theorem kw7_182 : (Jvm.Cond.selects "PillarSaintsModel" ({ cls := "PillarSaintsModel", name := "sky", desc := "(I)I" } : Jvm.MethodName) ({ cls := "PillarSaintsModel", name := "sky", desc := "(I)I" } : Jvm.MethodName)) ∈ xTs := xTs_of (xt_7 (xnth_mem 182 rfl)) rfl
theorem kw7_183 : (Jvm.Cond.code ({ cls := "PillarSaintsModel", name := "sky", desc := "(I)I" } : Jvm.MethodName) prog_14_method_95_code (2 : Nat) (Option.some Jvm.ClassFile.FieldType.int)) ∈ xTs := xTs_of (xt_7 (xnth_mem 183 rfl)) rfl
theorem kw7_184 : (Jvm.Cond.methodLink "PillarSaintsLaw" (74 : Nat) ({ cls := "PillarSaintsModel", name := "book", desc := "(II)I" } : Jvm.MethodName)) ∈ xTs := xTs_of (xt_7 (xnth_mem 184 rfl)) rfl
theorem kw7_185 : (Jvm.Cond.instanceMethod ({ cls := "PillarSaintsModel", name := "book", desc := "(II)I" } : Jvm.MethodName)) ∈ xTs := xTs_of (xt_7 (xnth_mem 185 rfl)) rfl
theorem kw7_186 : (Jvm.Cond.selects "PillarSaintsModel" ({ cls := "PillarSaintsModel", name := "book", desc := "(II)I" } : Jvm.MethodName) ({ cls := "PillarSaintsModel", name := "book", desc := "(II)I" } : Jvm.MethodName)) ∈ xTs := xTs_of (xt_7 (xnth_mem 186 rfl)) rfl
theorem kw7_187 : (Jvm.Cond.code ({ cls := "PillarSaintsModel", name := "book", desc := "(II)I" } : Jvm.MethodName) prog_14_method_96_code (3 : Nat) (Option.some Jvm.ClassFile.FieldType.int)) ∈ xTs := xTs_of (xt_7 (xnth_mem 187 rfl)) rfl
theorem kw7_188 : (Jvm.Cond.methodLink "PillarSaintsLaw" (78 : Nat) ({ cls := "PillarSaintsModel", name := "goes", desc := "(II)I" } : Jvm.MethodName)) ∈ xTs := xTs_of (xt_7 (xnth_mem 188 rfl)) rfl
theorem kw7_189 : (Jvm.Cond.instanceMethod ({ cls := "PillarSaintsModel", name := "goes", desc := "(II)I" } : Jvm.MethodName)) ∈ xTs := xTs_of (xt_7 (xnth_mem 189 rfl)) rfl
theorem kw7_190 : (Jvm.Cond.selects "PillarSaintsModel" ({ cls := "PillarSaintsModel", name := "goes", desc := "(II)I" } : Jvm.MethodName) ({ cls := "PillarSaintsModel", name := "goes", desc := "(II)I" } : Jvm.MethodName)) ∈ xTs := xTs_of (xt_7 (xnth_mem 190 rfl)) rfl
theorem kw7_191 : (Jvm.Cond.code ({ cls := "PillarSaintsModel", name := "goes", desc := "(II)I" } : Jvm.MethodName) prog_14_method_98_code (6 : Nat) (Option.some Jvm.ClassFile.FieldType.int)) ∈ xTs := xTs_of (xt_7 (xnth_mem 191 rfl)) rfl
theorem kw7_192 : (Jvm.Cond.methodLink "PillarSaintsModel" (385 : Nat) ({ cls := "PillarSaintsModel", name := "thinks", desc := "()V" } : Jvm.MethodName)) ∈ xTs := xTs_of (xt_7 (xnth_mem 192 rfl)) rfl
theorem kw7_194 : (Jvm.Cond.instanceMethod ({ cls := "PillarSaintsModel", name := "thinks", desc := "()V" } : Jvm.MethodName)) ∈ xTs := xTs_of (xt_7 (xnth_mem 194 rfl)) rfl
theorem kw7_195 : (Jvm.Cond.code ({ cls := "PillarSaintsModel", name := "thinks", desc := "()V" } : Jvm.MethodName) prog_14_method_13_code (2 : Nat) (Option.none : Option Jvm.ClassFile.FieldType)) ∈ xTs := xTs_of (xt_7 (xnth_mem 195 rfl)) rfl
theorem kw7_196 : (Jvm.Cond.methodLink "PillarSaintsModel" (388 : Nat) ({ cls := "PillarSaintsModel", name := "deadSet", desc := "()I" } : Jvm.MethodName)) ∈ xTs := xTs_of (xt_7 (xnth_mem 196 rfl)) rfl
theorem kw7_198 : (Jvm.Cond.instanceMethod ({ cls := "PillarSaintsModel", name := "deadSet", desc := "()I" } : Jvm.MethodName)) ∈ xTs := xTs_of (xt_7 (xnth_mem 198 rfl)) rfl
theorem kw7_199 : (Jvm.Cond.code ({ cls := "PillarSaintsModel", name := "deadSet", desc := "()I" } : Jvm.MethodName) prog_14_method_97_code (3 : Nat) (Option.some Jvm.ClassFile.FieldType.int)) ∈ xTs := xTs_of (xt_7 (xnth_mem 199 rfl)) rfl
theorem kw7_200 : (Jvm.Cond.methodLink "PillarSaintsModel" (391 : Nat) ({ cls := "PillarSaintsModel", name := "onesOf", desc := "(I)I" } : Jvm.MethodName)) ∈ xTs := xTs_of (xt_7 (xnth_mem 200 rfl)) rfl
theorem kw7_202 : (Jvm.Cond.instanceMethod ({ cls := "PillarSaintsModel", name := "onesOf", desc := "(I)I" } : Jvm.MethodName)) ∈ xTs := xTs_of (xt_7 (xnth_mem 202 rfl)) rfl
theorem kw7_203 : (Jvm.Cond.code ({ cls := "PillarSaintsModel", name := "onesOf", desc := "(I)I" } : Jvm.MethodName) prog_14_method_9_code (4 : Nat) (Option.some Jvm.ClassFile.FieldType.int)) ∈ xTs := xTs_of (xt_7 (xnth_mem 203 rfl)) rfl
theorem kw7_204 : (Jvm.Cond.methodLink "PillarSaintsModel" (394 : Nat) ({ cls := "PillarSaintsModel", name := "endsThought", desc := "()V" } : Jvm.MethodName)) ∈ xTs := xTs_of (xt_7 (xnth_mem 204 rfl)) rfl
theorem kw7_206 : (Jvm.Cond.instanceMethod ({ cls := "PillarSaintsModel", name := "endsThought", desc := "()V" } : Jvm.MethodName)) ∈ xTs := xTs_of (xt_7 (xnth_mem 206 rfl)) rfl
theorem kw7_207 : (Jvm.Cond.code ({ cls := "PillarSaintsModel", name := "endsThought", desc := "()V" } : Jvm.MethodName) prog_14_method_14_code (2 : Nat) (Option.none : Option Jvm.ClassFile.FieldType)) ∈ xTs := xTs_of (xt_7 (xnth_mem 207 rfl)) rfl
theorem kw7_208 : (Jvm.Cond.methodLink "PillarSaintsLaw" (83 : Nat) ({ cls := "PillarSaintsModel", name := "loaves", desc := "()I" } : Jvm.MethodName)) ∈ xTs := xTs_of (xt_7 (xnth_mem 208 rfl)) rfl
theorem kw7_209 : (Jvm.Cond.instanceMethod ({ cls := "PillarSaintsModel", name := "loaves", desc := "()I" } : Jvm.MethodName)) ∈ xTs := xTs_of (xt_7 (xnth_mem 209 rfl)) rfl
theorem kw7_210 : (Jvm.Cond.selects "PillarSaintsModel" ({ cls := "PillarSaintsModel", name := "loaves", desc := "()I" } : Jvm.MethodName) ({ cls := "PillarSaintsModel", name := "loaves", desc := "()I" } : Jvm.MethodName)) ∈ xTs := xTs_of (xt_7 (xnth_mem 210 rfl)) rfl
theorem kw7_211 : (Jvm.Cond.code ({ cls := "PillarSaintsModel", name := "loaves", desc := "()I" } : Jvm.MethodName) prog_14_method_99_code (3 : Nat) (Option.some Jvm.ClassFile.FieldType.int)) ∈ xTs := xTs_of (xt_7 (xnth_mem 211 rfl)) rfl
theorem kw7_212 : (Jvm.Cond.methodLink "PillarSaintsLaw" (87 : Nat) ({ cls := "PillarSaintsModel", name := "heir", desc := "(I)I" } : Jvm.MethodName)) ∈ xTs := xTs_of (xt_7 (xnth_mem 212 rfl)) rfl
theorem kw7_213 : (Jvm.Cond.instanceMethod ({ cls := "PillarSaintsModel", name := "heir", desc := "(I)I" } : Jvm.MethodName)) ∈ xTs := xTs_of (xt_7 (xnth_mem 213 rfl)) rfl
theorem kw7_214 : (Jvm.Cond.selects "PillarSaintsModel" ({ cls := "PillarSaintsModel", name := "heir", desc := "(I)I" } : Jvm.MethodName) ({ cls := "PillarSaintsModel", name := "heir", desc := "(I)I" } : Jvm.MethodName)) ∈ xTs := xTs_of (xt_7 (xnth_mem 214 rfl)) rfl
theorem kw7_215 : (Jvm.Cond.code ({ cls := "PillarSaintsModel", name := "heir", desc := "(I)I" } : Jvm.MethodName) prog_14_method_100_code (3 : Nat) (Option.some Jvm.ClassFile.FieldType.int)) ∈ xTs := xTs_of (xt_7 (xnth_mem 215 rfl)) rfl
theorem kw7_216 : (Jvm.Cond.methodLink "PillarSaintsLaw" (91 : Nat) ({ cls := "PillarSaintsModel", name := "comes", desc := "(II)I" } : Jvm.MethodName)) ∈ xTs := xTs_of (xt_7 (xnth_mem 216 rfl)) rfl
theorem kw7_217 : (Jvm.Cond.instanceMethod ({ cls := "PillarSaintsModel", name := "comes", desc := "(II)I" } : Jvm.MethodName)) ∈ xTs := xTs_of (xt_7 (xnth_mem 217 rfl)) rfl
theorem kw7_218 : (Jvm.Cond.selects "PillarSaintsModel" ({ cls := "PillarSaintsModel", name := "comes", desc := "(II)I" } : Jvm.MethodName) ({ cls := "PillarSaintsModel", name := "comes", desc := "(II)I" } : Jvm.MethodName)) ∈ xTs := xTs_of (xt_7 (xnth_mem 218 rfl)) rfl
theorem kw7_219 : (Jvm.Cond.code ({ cls := "PillarSaintsModel", name := "comes", desc := "(II)I" } : Jvm.MethodName) prog_14_method_101_code (5 : Nat) (Option.some Jvm.ClassFile.FieldType.int)) ∈ xTs := xTs_of (xt_7 (xnth_mem 219 rfl)) rfl
theorem kw7_220 : (Jvm.Cond.methodLink "PillarSaintsLaw" (95 : Nat) ({ cls := "PillarSaintsModel", name := "scandal", desc := "(I)I" } : Jvm.MethodName)) ∈ xTs := xTs_of (xt_7 (xnth_mem 220 rfl)) rfl
theorem kw7_221 : (Jvm.Cond.instanceMethod ({ cls := "PillarSaintsModel", name := "scandal", desc := "(I)I" } : Jvm.MethodName)) ∈ xTs := xTs_of (xt_7 (xnth_mem 221 rfl)) rfl
theorem kw7_222 : (Jvm.Cond.selects "PillarSaintsModel" ({ cls := "PillarSaintsModel", name := "scandal", desc := "(I)I" } : Jvm.MethodName) ({ cls := "PillarSaintsModel", name := "scandal", desc := "(I)I" } : Jvm.MethodName)) ∈ xTs := xTs_of (xt_7 (xnth_mem 222 rfl)) rfl
theorem kw7_223 : (Jvm.Cond.code ({ cls := "PillarSaintsModel", name := "scandal", desc := "(I)I" } : Jvm.MethodName) prog_14_method_104_code (7 : Nat) (Option.some Jvm.ClassFile.FieldType.int)) ∈ xTs := xTs_of (xt_7 (xnth_mem 223 rfl)) rfl
theorem kw7_224 : (Jvm.Cond.methodLink "PillarSaintsModel" (399 : Nat) ({ cls := "PillarSaintsModel", name := "sittingMany", desc := "()I" } : Jvm.MethodName)) ∈ xTs := xTs_of (xt_7 (xnth_mem 224 rfl)) rfl
theorem kw7_226 : (Jvm.Cond.instanceMethod ({ cls := "PillarSaintsModel", name := "sittingMany", desc := "()I" } : Jvm.MethodName)) ∈ xTs := xTs_of (xt_7 (xnth_mem 226 rfl)) rfl
theorem kw7_227 : (Jvm.Cond.code ({ cls := "PillarSaintsModel", name := "sittingMany", desc := "()I" } : Jvm.MethodName) prog_14_method_103_code (3 : Nat) (Option.some Jvm.ClassFile.FieldType.int)) ∈ xTs := xTs_of (xt_7 (xnth_mem 227 rfl)) rfl
theorem kw7_228 : (Jvm.Cond.constant "PillarSaintsModel" (398 : Nat) (100000000 : Int32)) ∈ xTs := xTs_of (xt_7 (xnth_mem 228 rfl)) rfl
theorem kw7_229 : (Jvm.Cond.methodLink "PillarSaintsModel" (402 : Nat) ({ cls := "PillarSaintsModel", name := "spreadOf", desc := "(II)I" } : Jvm.MethodName)) ∈ xTs := xTs_of (xt_7 (xnth_mem 229 rfl)) rfl
theorem kw7_231 : (Jvm.Cond.instanceMethod ({ cls := "PillarSaintsModel", name := "spreadOf", desc := "(II)I" } : Jvm.MethodName)) ∈ xTs := xTs_of (xt_7 (xnth_mem 231 rfl)) rfl
theorem kw7_232 : (Jvm.Cond.code ({ cls := "PillarSaintsModel", name := "spreadOf", desc := "(II)I" } : Jvm.MethodName) prog_14_method_102_code (8 : Nat) (Option.some Jvm.ClassFile.FieldType.int)) ∈ xTs := xTs_of (xt_7 (xnth_mem 232 rfl)) rfl
theorem kw7_233 : (Jvm.Cond.constant "PillarSaintsModel" (397 : Nat) (-100000000 : Int32)) ∈ xTs := xTs_of (xt_7 (xnth_mem 233 rfl)) rfl
theorem kw7_234 : (Jvm.Cond.methodLink "PillarSaintsLaw" (99 : Nat) ({ cls := "PillarSaintsModel", name := "middle", desc := "(I)I" } : Jvm.MethodName)) ∈ xTs := xTs_of (xt_7 (xnth_mem 234 rfl)) rfl
theorem kw7_235 : (Jvm.Cond.instanceMethod ({ cls := "PillarSaintsModel", name := "middle", desc := "(I)I" } : Jvm.MethodName)) ∈ xTs := xTs_of (xt_7 (xnth_mem 235 rfl)) rfl
theorem kw7_236 : (Jvm.Cond.selects "PillarSaintsModel" ({ cls := "PillarSaintsModel", name := "middle", desc := "(I)I" } : Jvm.MethodName) ({ cls := "PillarSaintsModel", name := "middle", desc := "(I)I" } : Jvm.MethodName)) ∈ xTs := xTs_of (xt_7 (xnth_mem 236 rfl)) rfl
theorem kw7_237 : (Jvm.Cond.code ({ cls := "PillarSaintsModel", name := "middle", desc := "(I)I" } : Jvm.MethodName) prog_14_method_106_code (4 : Nat) (Option.some Jvm.ClassFile.FieldType.int)) ∈ xTs := xTs_of (xt_7 (xnth_mem 237 rfl)) rfl
theorem kw7_238 : (Jvm.Cond.methodLink "PillarSaintsModel" (408 : Nat) ({ cls := "PillarSaintsModel", name := "waysTo", desc := "(I)I" } : Jvm.MethodName)) ∈ xTs := xTs_of (xt_7 (xnth_mem 238 rfl)) rfl
theorem kw8_0 : (Jvm.Cond.instanceMethod ({ cls := "PillarSaintsModel", name := "waysTo", desc := "(I)I" } : Jvm.MethodName)) ∈ xTs := xTs_of (xt_8 (xnth_mem 0 rfl)) rfl
theorem kw8_1 : (Jvm.Cond.code ({ cls := "PillarSaintsModel", name := "waysTo", desc := "(I)I" } : Jvm.MethodName) prog_14_method_105_code (4 : Nat) (Option.some Jvm.ClassFile.FieldType.int)) ∈ xTs := xTs_of (xt_8 (xnth_mem 1 rfl)) rfl
theorem kw8_2 : (Jvm.Cond.methodLink "PillarSaintsModel" (405 : Nat) ({ cls := "PillarSaintsModel", name := "far", desc := "(II)I" } : Jvm.MethodName)) ∈ xTs := xTs_of (xt_8 (xnth_mem 2 rfl)) rfl
theorem kw8_4 : (Jvm.Cond.instanceMethod ({ cls := "PillarSaintsModel", name := "far", desc := "(II)I" } : Jvm.MethodName)) ∈ xTs := xTs_of (xt_8 (xnth_mem 4 rfl)) rfl
theorem kw8_5 : (Jvm.Cond.code ({ cls := "PillarSaintsModel", name := "far", desc := "(II)I" } : Jvm.MethodName) prog_14_method_7_code (3 : Nat) (Option.some Jvm.ClassFile.FieldType.int)) ∈ xTs := xTs_of (xt_8 (xnth_mem 5 rfl)) rfl
theorem kw8_6 : (Jvm.Cond.methodLink "PillarSaintsLaw" (103 : Nat) ({ cls := "PillarSaintsModel", name := "follows", desc := "(I)I" } : Jvm.MethodName)) ∈ xTs := xTs_of (xt_8 (xnth_mem 6 rfl)) rfl
theorem kw8_7 : (Jvm.Cond.instanceMethod ({ cls := "PillarSaintsModel", name := "follows", desc := "(I)I" } : Jvm.MethodName)) ∈ xTs := xTs_of (xt_8 (xnth_mem 7 rfl)) rfl
theorem kw8_8 : (Jvm.Cond.selects "PillarSaintsModel" ({ cls := "PillarSaintsModel", name := "follows", desc := "(I)I" } : Jvm.MethodName) ({ cls := "PillarSaintsModel", name := "follows", desc := "(I)I" } : Jvm.MethodName)) ∈ xTs := xTs_of (xt_8 (xnth_mem 8 rfl)) rfl
theorem kw8_9 : (Jvm.Cond.code ({ cls := "PillarSaintsModel", name := "follows", desc := "(I)I" } : Jvm.MethodName) prog_14_method_108_code (2 : Nat) (Option.some Jvm.ClassFile.FieldType.int)) ∈ xTs := xTs_of (xt_8 (xnth_mem 9 rfl)) rfl
theorem kw8_10 : (Jvm.Cond.constant "PillarSaintsModel" (411 : Nat) (65535 : Int32)) ∈ xTs := xTs_of (xt_8 (xnth_mem 10 rfl)) rfl
theorem kw8_11 : (Jvm.Cond.methodLink "PillarSaintsModel" (412 : Nat) ({ cls := "PillarSaintsModel", name := "followsBut", desc := "(II)I" } : Jvm.MethodName)) ∈ xTs := xTs_of (xt_8 (xnth_mem 11 rfl)) rfl
theorem kw8_13 : (Jvm.Cond.instanceMethod ({ cls := "PillarSaintsModel", name := "followsBut", desc := "(II)I" } : Jvm.MethodName)) ∈ xTs := xTs_of (xt_8 (xnth_mem 13 rfl)) rfl
theorem kw8_14 : (Jvm.Cond.code ({ cls := "PillarSaintsModel", name := "followsBut", desc := "(II)I" } : Jvm.MethodName) prog_14_method_107_code (6 : Nat) (Option.some Jvm.ClassFile.FieldType.int)) ∈ xTs := xTs_of (xt_8 (xnth_mem 14 rfl)) rfl
theorem kw8_15 : (Jvm.Cond.methodLink "PillarSaintsLaw" (107 : Nat) ({ cls := "PillarSaintsModel", name := "gives", desc := "(II)I" } : Jvm.MethodName)) ∈ xTs := xTs_of (xt_8 (xnth_mem 15 rfl)) rfl
theorem kw8_16 : (Jvm.Cond.instanceMethod ({ cls := "PillarSaintsModel", name := "gives", desc := "(II)I" } : Jvm.MethodName)) ∈ xTs := xTs_of (xt_8 (xnth_mem 16 rfl)) rfl
theorem kw8_17 : (Jvm.Cond.selects "PillarSaintsModel" ({ cls := "PillarSaintsModel", name := "gives", desc := "(II)I" } : Jvm.MethodName) ({ cls := "PillarSaintsModel", name := "gives", desc := "(II)I" } : Jvm.MethodName)) ∈ xTs := xTs_of (xt_8 (xnth_mem 17 rfl)) rfl
theorem kw8_18 : (Jvm.Cond.code ({ cls := "PillarSaintsModel", name := "gives", desc := "(II)I" } : Jvm.MethodName) prog_14_method_110_code (5 : Nat) (Option.some Jvm.ClassFile.FieldType.int)) ∈ xTs := xTs_of (xt_8 (xnth_mem 18 rfl)) rfl
theorem kw8_19 : (Jvm.Cond.methodLink "PillarSaintsModel" (419 : Nat) ({ cls := "PillarSaintsModel", name := "idle", desc := "()I" } : Jvm.MethodName)) ∈ xTs := xTs_of (xt_8 (xnth_mem 19 rfl)) rfl
theorem kw8_21 : (Jvm.Cond.instanceMethod ({ cls := "PillarSaintsModel", name := "idle", desc := "()I" } : Jvm.MethodName)) ∈ xTs := xTs_of (xt_8 (xnth_mem 21 rfl)) rfl
theorem kw8_22 : (Jvm.Cond.code ({ cls := "PillarSaintsModel", name := "idle", desc := "()I" } : Jvm.MethodName) prog_14_method_109_code (3 : Nat) (Option.some Jvm.ClassFile.FieldType.int)) ∈ xTs := xTs_of (xt_8 (xnth_mem 22 rfl)) rfl
theorem kw8_23 : (Jvm.Cond.methodLink "PillarSaintsModel" (415 : Nat) ({ cls := "PillarSaintsModel", name := "has", desc := "(II)Z" } : Jvm.MethodName)) ∈ xTs := xTs_of (xt_8 (xnth_mem 23 rfl)) rfl
theorem kw8_25 : (Jvm.Cond.instanceMethod ({ cls := "PillarSaintsModel", name := "has", desc := "(II)Z" } : Jvm.MethodName)) ∈ xTs := xTs_of (xt_8 (xnth_mem 25 rfl)) rfl
theorem kw8_26 : (Jvm.Cond.code ({ cls := "PillarSaintsModel", name := "has", desc := "(II)Z" } : Jvm.MethodName) prog_14_method_10_code (3 : Nat) (Option.some Jvm.ClassFile.FieldType.boolean)) ∈ xTs := xTs_of (xt_8 (xnth_mem 26 rfl)) rfl
theorem kw8_27 : (Jvm.Cond.constant "PillarSaintsModel" (422 : Nat) (65536 : Int32)) ∈ xTs := xTs_of (xt_8 (xnth_mem 27 rfl)) rfl
theorem kw8_28 : (Jvm.Cond.methodLink "PillarSaintsLaw" (111 : Nat) ({ cls := "PillarSaintsModel", name := "seen", desc := "(I)I" } : Jvm.MethodName)) ∈ xTs := xTs_of (xt_8 (xnth_mem 28 rfl)) rfl
theorem kw8_29 : (Jvm.Cond.instanceMethod ({ cls := "PillarSaintsModel", name := "seen", desc := "(I)I" } : Jvm.MethodName)) ∈ xTs := xTs_of (xt_8 (xnth_mem 29 rfl)) rfl
theorem kw8_30 : (Jvm.Cond.selects "PillarSaintsModel" ({ cls := "PillarSaintsModel", name := "seen", desc := "(I)I" } : Jvm.MethodName) ({ cls := "PillarSaintsModel", name := "seen", desc := "(I)I" } : Jvm.MethodName)) ∈ xTs := xTs_of (xt_8 (xnth_mem 30 rfl)) rfl
theorem kw8_31 : (Jvm.Cond.code ({ cls := "PillarSaintsModel", name := "seen", desc := "(I)I" } : Jvm.MethodName) prog_14_method_113_code (4 : Nat) (Option.some Jvm.ClassFile.FieldType.int)) ∈ xTs := xTs_of (xt_8 (xnth_mem 31 rfl)) rfl
theorem kw8_32 : (Jvm.Cond.methodLink "PillarSaintsModel" (423 : Nat) ({ cls := "PillarSaintsModel", name := "seenFrom", desc := "(Z)I" } : Jvm.MethodName)) ∈ xTs := xTs_of (xt_8 (xnth_mem 32 rfl)) rfl
theorem kw8_34 : (Jvm.Cond.instanceMethod ({ cls := "PillarSaintsModel", name := "seenFrom", desc := "(Z)I" } : Jvm.MethodName)) ∈ xTs := xTs_of (xt_8 (xnth_mem 34 rfl)) rfl
theorem kw8_35 : (Jvm.Cond.code ({ cls := "PillarSaintsModel", name := "seenFrom", desc := "(Z)I" } : Jvm.MethodName) prog_14_method_111_code (6 : Nat) (Option.some Jvm.ClassFile.FieldType.int)) ∈ xTs := xTs_of (xt_8 (xnth_mem 35 rfl)) rfl
theorem kw8_36 : (Jvm.Cond.methodLink "PillarSaintsModel" (427 : Nat) ({ cls := "PillarSaintsModel", name := "isStork", desc := "(I)Z" } : Jvm.MethodName)) ∈ xTs := xTs_of (xt_8 (xnth_mem 36 rfl)) rfl
theorem kw8_38 : (Jvm.Cond.instanceMethod ({ cls := "PillarSaintsModel", name := "isStork", desc := "(I)Z" } : Jvm.MethodName)) ∈ xTs := xTs_of (xt_8 (xnth_mem 38 rfl)) rfl
theorem kw8_39 : (Jvm.Cond.code ({ cls := "PillarSaintsModel", name := "isStork", desc := "(I)Z" } : Jvm.MethodName) prog_14_method_112_code (2 : Nat) (Option.some Jvm.ClassFile.FieldType.boolean)) ∈ xTs := xTs_of (xt_8 (xnth_mem 39 rfl)) rfl
theorem kw8_40 : (Jvm.Cond.methodLink "PillarSaintsLaw" (115 : Nat) ({ cls := "PillarSaintsModel", name := "hears", desc := "(II)I" } : Jvm.MethodName)) ∈ xTs := xTs_of (xt_8 (xnth_mem 40 rfl)) rfl
theorem kw8_41 : (Jvm.Cond.instanceMethod ({ cls := "PillarSaintsModel", name := "hears", desc := "(II)I" } : Jvm.MethodName)) ∈ xTs := xTs_of (xt_8 (xnth_mem 41 rfl)) rfl
theorem kw8_42 : (Jvm.Cond.selects "PillarSaintsModel" ({ cls := "PillarSaintsModel", name := "hears", desc := "(II)I" } : Jvm.MethodName) ({ cls := "PillarSaintsModel", name := "hears", desc := "(II)I" } : Jvm.MethodName)) ∈ xTs := xTs_of (xt_8 (xnth_mem 42 rfl)) rfl
theorem kw8_43 : (Jvm.Cond.code ({ cls := "PillarSaintsModel", name := "hears", desc := "(II)I" } : Jvm.MethodName) prog_14_method_115_code (6 : Nat) (Option.some Jvm.ClassFile.FieldType.int)) ∈ xTs := xTs_of (xt_8 (xnth_mem 43 rfl)) rfl
theorem kw8_44 : (Jvm.Cond.methodLink "PillarSaintsModel" (430 : Nat) ({ cls := "PillarSaintsModel", name := "hearsOne", desc := "(II)Z" } : Jvm.MethodName)) ∈ xTs := xTs_of (xt_8 (xnth_mem 44 rfl)) rfl
theorem kw8_46 : (Jvm.Cond.instanceMethod ({ cls := "PillarSaintsModel", name := "hearsOne", desc := "(II)Z" } : Jvm.MethodName)) ∈ xTs := xTs_of (xt_8 (xnth_mem 46 rfl)) rfl
theorem kw8_47 : (Jvm.Cond.code ({ cls := "PillarSaintsModel", name := "hearsOne", desc := "(II)Z" } : Jvm.MethodName) prog_14_method_114_code (5 : Nat) (Option.some Jvm.ClassFile.FieldType.boolean)) ∈ xTs := xTs_of (xt_8 (xnth_mem 47 rfl)) rfl
theorem kw8_48 : (Jvm.Cond.methodLink "PillarSaintsLaw" (119 : Nat) ({ cls := "PillarSaintsModel", name := "build", desc := "(II)I" } : Jvm.MethodName)) ∈ xTs := xTs_of (xt_8 (xnth_mem 48 rfl)) rfl
theorem kw8_49 : (Jvm.Cond.instanceMethod ({ cls := "PillarSaintsModel", name := "build", desc := "(II)I" } : Jvm.MethodName)) ∈ xTs := xTs_of (xt_8 (xnth_mem 49 rfl)) rfl
theorem kw8_50 : (Jvm.Cond.selects "PillarSaintsModel" ({ cls := "PillarSaintsModel", name := "build", desc := "(II)I" } : Jvm.MethodName) ({ cls := "PillarSaintsModel", name := "build", desc := "(II)I" } : Jvm.MethodName)) ∈ xTs := xTs_of (xt_8 (xnth_mem 50 rfl)) rfl
theorem kw8_51 : (Jvm.Cond.code ({ cls := "PillarSaintsModel", name := "build", desc := "(II)I" } : Jvm.MethodName) prog_14_method_116_code (3 : Nat) (Option.some Jvm.ClassFile.FieldType.int)) ∈ xTs := xTs_of (xt_8 (xnth_mem 51 rfl)) rfl
theorem kw8_52 : (Jvm.Cond.methodLink "PillarSaintsLaw" (123 : Nat) ({ cls := "PillarSaintsModel", name := "builds", desc := "(I)I" } : Jvm.MethodName)) ∈ xTs := xTs_of (xt_8 (xnth_mem 52 rfl)) rfl
theorem kw8_53 : (Jvm.Cond.instanceMethod ({ cls := "PillarSaintsModel", name := "builds", desc := "(I)I" } : Jvm.MethodName)) ∈ xTs := xTs_of (xt_8 (xnth_mem 53 rfl)) rfl
theorem kw8_54 : (Jvm.Cond.selects "PillarSaintsModel" ({ cls := "PillarSaintsModel", name := "builds", desc := "(I)I" } : Jvm.MethodName) ({ cls := "PillarSaintsModel", name := "builds", desc := "(I)I" } : Jvm.MethodName)) ∈ xTs := xTs_of (xt_8 (xnth_mem 54 rfl)) rfl
theorem kw8_55 : (Jvm.Cond.code ({ cls := "PillarSaintsModel", name := "builds", desc := "(I)I" } : Jvm.MethodName) prog_14_method_118_code (7 : Nat) (Option.some Jvm.ClassFile.FieldType.int)) ∈ xTs := xTs_of (xt_8 (xnth_mem 55 rfl)) rfl
theorem kw8_56 : (Jvm.Cond.methodLink "PillarSaintsModel" (436 : Nat) ({ cls := "PillarSaintsModel", name := "isAhead", desc := "(II)Z" } : Jvm.MethodName)) ∈ xTs := xTs_of (xt_8 (xnth_mem 56 rfl)) rfl
theorem kw8_58 : (Jvm.Cond.instanceMethod ({ cls := "PillarSaintsModel", name := "isAhead", desc := "(II)Z" } : Jvm.MethodName)) ∈ xTs := xTs_of (xt_8 (xnth_mem 58 rfl)) rfl
theorem kw8_59 : (Jvm.Cond.code ({ cls := "PillarSaintsModel", name := "isAhead", desc := "(II)Z" } : Jvm.MethodName) prog_14_method_117_code (5 : Nat) (Option.some Jvm.ClassFile.FieldType.boolean)) ∈ xTs := xTs_of (xt_8 (xnth_mem 59 rfl)) rfl
theorem kw8_60 : (Jvm.Cond.methodLink "PillarSaintsLaw" (127 : Nat) ({ cls := "PillarSaintsModel", name := "gone", desc := "(III)I" } : Jvm.MethodName)) ∈ xTs := xTs_of (xt_8 (xnth_mem 60 rfl)) rfl
theorem kw8_61 : (Jvm.Cond.instanceMethod ({ cls := "PillarSaintsModel", name := "gone", desc := "(III)I" } : Jvm.MethodName)) ∈ xTs := xTs_of (xt_8 (xnth_mem 61 rfl)) rfl
theorem kw8_62 : (Jvm.Cond.selects "PillarSaintsModel" ({ cls := "PillarSaintsModel", name := "gone", desc := "(III)I" } : Jvm.MethodName) ({ cls := "PillarSaintsModel", name := "gone", desc := "(III)I" } : Jvm.MethodName)) ∈ xTs := xTs_of (xt_8 (xnth_mem 62 rfl)) rfl
theorem kw8_63 : (Jvm.Cond.code ({ cls := "PillarSaintsModel", name := "gone", desc := "(III)I" } : Jvm.MethodName) prog_14_method_121_code (6 : Nat) (Option.some Jvm.ClassFile.FieldType.int)) ∈ xTs := xTs_of (xt_8 (xnth_mem 63 rfl)) rfl
theorem kw8_64 : (Jvm.Cond.methodLink "PillarSaintsModel" (443 : Nat) ({ cls := "PillarSaintsModel", name := "weighed", desc := "(III)I" } : Jvm.MethodName)) ∈ xTs := xTs_of (xt_8 (xnth_mem 64 rfl)) rfl
theorem kw8_66 : (Jvm.Cond.instanceMethod ({ cls := "PillarSaintsModel", name := "weighed", desc := "(III)I" } : Jvm.MethodName)) ∈ xTs := xTs_of (xt_8 (xnth_mem 66 rfl)) rfl
theorem kw8_67 : (Jvm.Cond.code ({ cls := "PillarSaintsModel", name := "weighed", desc := "(III)I" } : Jvm.MethodName) prog_14_method_120_code (4 : Nat) (Option.some Jvm.ClassFile.FieldType.int)) ∈ xTs := xTs_of (xt_8 (xnth_mem 67 rfl)) rfl
theorem kw8_68 : (Jvm.Cond.constant "PillarSaintsModel" (439 : Nat) (1000000 : Int32)) ∈ xTs := xTs_of (xt_8 (xnth_mem 68 rfl)) rfl
theorem kw8_69 : (Jvm.Cond.methodLink "PillarSaintsModel" (440 : Nat) ({ cls := "PillarSaintsModel", name := "shareOf", desc := "(II)I" } : Jvm.MethodName)) ∈ xTs := xTs_of (xt_8 (xnth_mem 69 rfl)) rfl
theorem kw8_71 : (Jvm.Cond.instanceMethod ({ cls := "PillarSaintsModel", name := "shareOf", desc := "(II)I" } : Jvm.MethodName)) ∈ xTs := xTs_of (xt_8 (xnth_mem 71 rfl)) rfl
theorem kw8_72 : (Jvm.Cond.code ({ cls := "PillarSaintsModel", name := "shareOf", desc := "(II)I" } : Jvm.MethodName) prog_14_method_119_code (6 : Nat) (Option.some Jvm.ClassFile.FieldType.int)) ∈ xTs := xTs_of (xt_8 (xnth_mem 72 rfl)) rfl
theorem kw8_73 : (Jvm.Cond.methodLink "PillarSaintsLaw" (132 : Nat) ({ cls := "PillarSaintsModel", name := "lap", desc := "(IIII)I" } : Jvm.MethodName)) ∈ xTs := xTs_of (xt_8 (xnth_mem 73 rfl)) rfl
theorem kw8_74 : (Jvm.Cond.instanceMethod ({ cls := "PillarSaintsModel", name := "lap", desc := "(IIII)I" } : Jvm.MethodName)) ∈ xTs := xTs_of (xt_8 (xnth_mem 74 rfl)) rfl
theorem kw8_75 : (Jvm.Cond.selects "PillarSaintsModel" ({ cls := "PillarSaintsModel", name := "lap", desc := "(IIII)I" } : Jvm.MethodName) ({ cls := "PillarSaintsModel", name := "lap", desc := "(IIII)I" } : Jvm.MethodName)) ∈ xTs := xTs_of (xt_8 (xnth_mem 75 rfl)) rfl
theorem kw8_76 : (Jvm.Cond.code ({ cls := "PillarSaintsModel", name := "lap", desc := "(IIII)I" } : Jvm.MethodName) prog_14_method_124_code (9 : Nat) (Option.some Jvm.ClassFile.FieldType.int)) ∈ xTs := xTs_of (xt_8 (xnth_mem 76 rfl)) rfl
theorem kw8_77 : (Jvm.Cond.methodLink "PillarSaintsModel" (447 : Nat) ({ cls := "PillarSaintsModel", name := "canStep", desc := "(III)Z" } : Jvm.MethodName)) ∈ xTs := xTs_of (xt_8 (xnth_mem 77 rfl)) rfl
theorem kw8_79 : (Jvm.Cond.instanceMethod ({ cls := "PillarSaintsModel", name := "canStep", desc := "(III)Z" } : Jvm.MethodName)) ∈ xTs := xTs_of (xt_8 (xnth_mem 79 rfl)) rfl
theorem kw8_80 : (Jvm.Cond.code ({ cls := "PillarSaintsModel", name := "canStep", desc := "(III)Z" } : Jvm.MethodName) prog_14_method_123_code (4 : Nat) (Option.some Jvm.ClassFile.FieldType.boolean)) ∈ xTs := xTs_of (xt_8 (xnth_mem 80 rfl)) rfl
theorem kw8_81 : (Jvm.Cond.methodLink "PillarSaintsModel" (450 : Nat) ({ cls := "PillarSaintsModel", name := "added", desc := "(II)I" } : Jvm.MethodName)) ∈ xTs := xTs_of (xt_8 (xnth_mem 81 rfl)) rfl
theorem kw8_83 : (Jvm.Cond.instanceMethod ({ cls := "PillarSaintsModel", name := "added", desc := "(II)I" } : Jvm.MethodName)) ∈ xTs := xTs_of (xt_8 (xnth_mem 83 rfl)) rfl
theorem kw8_84 : (Jvm.Cond.code ({ cls := "PillarSaintsModel", name := "added", desc := "(II)I" } : Jvm.MethodName) prog_14_method_122_code (3 : Nat) (Option.some Jvm.ClassFile.FieldType.int)) ∈ xTs := xTs_of (xt_8 (xnth_mem 84 rfl)) rfl
theorem kw8_85 : (Jvm.Cond.constant "PillarSaintsModel" (446 : Nat) (1000000007 : Int32)) ∈ xTs := xTs_of (xt_8 (xnth_mem 85 rfl)) rfl
theorem kw8_86 : (Jvm.Cond.methodLink "PillarSaintsLaw" (136 : Nat) ({ cls := "PillarSaintsModel", name := "game", desc := "(I)I" } : Jvm.MethodName)) ∈ xTs := xTs_of (xt_8 (xnth_mem 86 rfl)) rfl
theorem kw8_87 : (Jvm.Cond.instanceMethod ({ cls := "PillarSaintsModel", name := "game", desc := "(I)I" } : Jvm.MethodName)) ∈ xTs := xTs_of (xt_8 (xnth_mem 87 rfl)) rfl
theorem kw8_88 : (Jvm.Cond.selects "PillarSaintsModel" ({ cls := "PillarSaintsModel", name := "game", desc := "(I)I" } : Jvm.MethodName) ({ cls := "PillarSaintsModel", name := "game", desc := "(I)I" } : Jvm.MethodName)) ∈ xTs := xTs_of (xt_8 (xnth_mem 88 rfl)) rfl
theorem kw8_89 : (Jvm.Cond.code ({ cls := "PillarSaintsModel", name := "game", desc := "(I)I" } : Jvm.MethodName) prog_14_method_126_code (7 : Nat) (Option.some Jvm.ClassFile.FieldType.int)) ∈ xTs := xTs_of (xt_8 (xnth_mem 89 rfl)) rfl
theorem kw8_90 : (Jvm.Cond.methodLink "PillarSaintsModel" (453 : Nat) ({ cls := "PillarSaintsModel", name := "heapOf", desc := "(I)I" } : Jvm.MethodName)) ∈ xTs := xTs_of (xt_8 (xnth_mem 90 rfl)) rfl
theorem kw8_92 : (Jvm.Cond.instanceMethod ({ cls := "PillarSaintsModel", name := "heapOf", desc := "(I)I" } : Jvm.MethodName)) ∈ xTs := xTs_of (xt_8 (xnth_mem 92 rfl)) rfl
theorem kw8_93 : (Jvm.Cond.code ({ cls := "PillarSaintsModel", name := "heapOf", desc := "(I)I" } : Jvm.MethodName) prog_14_method_125_code (2 : Nat) (Option.some Jvm.ClassFile.FieldType.int)) ∈ xTs := xTs_of (xt_8 (xnth_mem 93 rfl)) rfl
theorem kw8_94 : (Jvm.Cond.methodLink "PillarSaintsLaw" (146 : Nat) ({ cls := "PillarSaintsModel", name := "image", desc := "(Z)Z" } : Jvm.MethodName)) ∈ xTs := xTs_of (xt_8 (xnth_mem 94 rfl)) rfl
theorem kw8_95 : (Jvm.Cond.instanceMethod ({ cls := "PillarSaintsModel", name := "image", desc := "(Z)Z" } : Jvm.MethodName)) ∈ xTs := xTs_of (xt_8 (xnth_mem 95 rfl)) rfl
theorem kw8_96 : (Jvm.Cond.selects "PillarSaintsModel" ({ cls := "PillarSaintsModel", name := "image", desc := "(Z)Z" } : Jvm.MethodName) ({ cls := "PillarSaintsModel", name := "image", desc := "(Z)Z" } : Jvm.MethodName)) ∈ xTs := xTs_of (xt_8 (xnth_mem 96 rfl)) rfl
theorem kw8_97 : (Jvm.Cond.code ({ cls := "PillarSaintsModel", name := "image", desc := "(Z)Z" } : Jvm.MethodName) prog_14_method_130_code (3 : Nat) (Option.some Jvm.ClassFile.FieldType.boolean)) ∈ xTs := xTs_of (xt_8 (xnth_mem 97 rfl)) rfl
theorem kw8_98 : (Jvm.Cond.methodLink "PillarSaintsModel" (462 : Nat) ({ cls := "PillarSaintsModel", name := "keeps", desc := "(I)I" } : Jvm.MethodName)) ∈ xTs := xTs_of (xt_8 (xnth_mem 98 rfl)) rfl
theorem kw8_100 : (Jvm.Cond.instanceMethod ({ cls := "PillarSaintsModel", name := "keeps", desc := "(I)I" } : Jvm.MethodName)) ∈ xTs := xTs_of (xt_8 (xnth_mem 100 rfl)) rfl
theorem kw8_101 : (Jvm.Cond.code ({ cls := "PillarSaintsModel", name := "keeps", desc := "(I)I" } : Jvm.MethodName) prog_14_method_127_code (2 : Nat) (Option.some Jvm.ClassFile.FieldType.int)) ∈ xTs := xTs_of (xt_8 (xnth_mem 101 rfl)) rfl
theorem kw8_102 : (Jvm.Cond.methodLink "PillarSaintsModel" (468 : Nat) ({ cls := "PillarSaintsModel", name := "keepsTold", desc := "()V" } : Jvm.MethodName)) ∈ xTs := xTs_of (xt_8 (xnth_mem 102 rfl)) rfl
theorem kw8_104 : (Jvm.Cond.instanceMethod ({ cls := "PillarSaintsModel", name := "keepsTold", desc := "()V" } : Jvm.MethodName)) ∈ xTs := xTs_of (xt_8 (xnth_mem 104 rfl)) rfl
theorem kw8_105 : (Jvm.Cond.code ({ cls := "PillarSaintsModel", name := "keepsTold", desc := "()V" } : Jvm.MethodName) prog_14_method_129_code (2 : Nat) (Option.none : Option Jvm.ClassFile.FieldType)) ∈ xTs := xTs_of (xt_8 (xnth_mem 105 rfl)) rfl
theorem kw8_106 : (Jvm.Cond.methodLink "PillarSaintsModel" (471 : Nat) ({ cls := "PillarSaintsModel", name := "keepsLaw", desc := "()V" } : Jvm.MethodName)) ∈ xTs := xTs_of (xt_8 (xnth_mem 106 rfl)) rfl
theorem kw8_108 : (Jvm.Cond.instanceMethod ({ cls := "PillarSaintsModel", name := "keepsLaw", desc := "()V" } : Jvm.MethodName)) ∈ xTs := xTs_of (xt_8 (xnth_mem 108 rfl)) rfl
theorem kw8_109 : (Jvm.Cond.code ({ cls := "PillarSaintsModel", name := "keepsLaw", desc := "()V" } : Jvm.MethodName) prog_14_method_128_code (2 : Nat) (Option.none : Option Jvm.ClassFile.FieldType)) ∈ xTs := xTs_of (xt_8 (xnth_mem 109 rfl)) rfl
theorem kw8_110 : (Jvm.Cond.methodLink "PillarSaintsLaw" (150 : Nat) ({ cls := "PillarSaintsModel", name := "look", desc := "(I)I" } : Jvm.MethodName)) ∈ xTs := xTs_of (xt_8 (xnth_mem 110 rfl)) rfl
theorem kw8_111 : (Jvm.Cond.instanceMethod ({ cls := "PillarSaintsModel", name := "look", desc := "(I)I" } : Jvm.MethodName)) ∈ xTs := xTs_of (xt_8 (xnth_mem 111 rfl)) rfl
theorem kw8_112 : (Jvm.Cond.selects "PillarSaintsModel" ({ cls := "PillarSaintsModel", name := "look", desc := "(I)I" } : Jvm.MethodName) ({ cls := "PillarSaintsModel", name := "look", desc := "(I)I" } : Jvm.MethodName)) ∈ xTs := xTs_of (xt_8 (xnth_mem 112 rfl)) rfl
theorem kw8_113 : (Jvm.Cond.code ({ cls := "PillarSaintsModel", name := "look", desc := "(I)I" } : Jvm.MethodName) prog_14_method_131_code (2 : Nat) (Option.some Jvm.ClassFile.FieldType.int)) ∈ xTs := xTs_of (xt_8 (xnth_mem 113 rfl)) rfl
theorem kw8_114 : (Jvm.Cond.fieldLink "java/lang/String" (9 : Nat) "java/lang/String" "value" "[B") ∈ xTs := xTs_of (xt_8 (xnth_mem 114 rfl)) rfl
theorem kw8_115 : (Jvm.Cond.fieldLink "java/lang/String" (15 : Nat) "java/lang/String" "coder" "B") ∈ xTs := xTs_of (xt_8 (xnth_mem 115 rfl)) rfl
