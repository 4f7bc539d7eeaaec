def Tb : List Cond := lw_tbl.filter goodWord
theorem tb_of {w : Cond} (h : w ∈ tables_1) (g : goodWord w = true) : w ∈ Tb := List.mem_filter.mpr ⟨List.mem_append_right _ h, g⟩
theorem tb1 {i : Nat} {w : Cond} (h : tables_1_1[i]? = some w) (g : goodWord w = true) : w ∈ Tb := tb_of (List.mem_append_left _ (List.mem_of_getElem? h)) g
theorem tb2 {i : Nat} {w : Cond} (h : tables_1_2[i]? = some w) (g : goodWord w = true) : w ∈ Tb := tb_of (List.mem_append_right _ (List.mem_append_left _ (List.mem_of_getElem? h))) g
theorem tb3 {i : Nat} {w : Cond} (h : tables_1_3[i]? = some w) (g : goodWord w = true) : w ∈ Tb := tb_of (List.mem_append_right _ (List.mem_append_right _ (List.mem_append_left _ (List.mem_of_getElem? h)))) g
theorem tb4 {i : Nat} {w : Cond} (h : tables_1_4[i]? = some w) (g : goodWord w = true) : w ∈ Tb := tb_of (List.mem_append_right _ (List.mem_append_right _ (List.mem_append_right _ (List.mem_append_left _ (List.mem_of_getElem? h))))) g
theorem tb5 {i : Nat} {w : Cond} (h : tables_1_5[i]? = some w) (g : goodWord w = true) : w ∈ Tb := tb_of (List.mem_append_right _ (List.mem_append_right _ (List.mem_append_right _ (List.mem_append_right _ (List.mem_append_left _ (List.mem_of_getElem? h)))))) g
theorem tb6 {i : Nat} {w : Cond} (h : tables_1_6[i]? = some w) (g : goodWord w = true) : w ∈ Tb := tb_of (List.mem_append_right _ (List.mem_append_right _ (List.mem_append_right _ (List.mem_append_right _ (List.mem_append_right _ (List.mem_append_left _ (List.mem_of_getElem? h))))))) g
theorem tb7 {i : Nat} {w : Cond} (h : tables_1_7[i]? = some w) (g : goodWord w = true) : w ∈ Tb := tb_of (List.mem_append_right _ (List.mem_append_right _ (List.mem_append_right _ (List.mem_append_right _ (List.mem_append_right _ (List.mem_append_right _ (List.mem_append_left _ (List.mem_of_getElem? h)))))))) g
theorem tb8 {i : Nat} {w : Cond} (h : tables_1_8[i]? = some w) (g : goodWord w = true) : w ∈ Tb := tb_of (List.mem_append_right _ (List.mem_append_right _ (List.mem_append_right _ (List.mem_append_right _ (List.mem_append_right _ (List.mem_append_right _ (List.mem_append_right _ (List.mem_of_getElem? h)))))))) g
theorem tbs {i n : Nat} {y : MethodName} (h : lw_privs[i]? = some (y, n)) : Cond.selects y.cls y y ∈ Tb := List.mem_filter.mpr ⟨List.mem_append_left _ (List.mem_map.mpr ⟨(y, n), List.mem_of_getElem? h, rfl⟩), rfl⟩
theorem t1_0 : Cond.initialized "SewnYearLaw" ∈ Tb := tb1 (i := 0) (by decide +kernel) rfl
theorem t1_1 : Cond.initialized "SewnYear" ∈ Tb := tb1 (i := 1) (by decide +kernel) rfl
theorem t1_2 : Cond.initialized "SewnYear$Told" ∈ Tb := tb1 (i := 2) (by decide +kernel) rfl
theorem t1_3 : Cond.initialized "SewnYear$Coat" ∈ Tb := tb1 (i := 3) (by decide +kernel) rfl
theorem t1_4 : Cond.initialized "SewnYear$Life" ∈ Tb := tb1 (i := 4) (by decide +kernel) rfl
theorem t1_5 : Cond.initialized "SewnYear$Town" ∈ Tb := tb1 (i := 5) (by decide +kernel) rfl
theorem t1_6 : Cond.initialized "SewnYear$Sight" ∈ Tb := tb1 (i := 6) (by decide +kernel) rfl
theorem t1_7 : Cond.initialized "SewnYear$Reader" ∈ Tb := tb1 (i := 7) (by decide +kernel) rfl
theorem t1_8 : Cond.initialized "SewnYear$Wear" ∈ Tb := tb1 (i := 8) (by decide +kernel) rfl
theorem t1_9 : Cond.initialized "SewnYear$Sewing" ∈ Tb := tb1 (i := 9) (by decide +kernel) rfl
theorem t1_10 : Cond.initialized "SewnYear$Walk" ∈ Tb := tb1 (i := 10) (by decide +kernel) rfl
theorem t1_11 : Cond.initialized "SewnYearModel" ∈ Tb := tb1 (i := 11) (by decide +kernel) rfl
theorem t1_12 : Cond.initialized "java/lang/Math" ∈ Tb := tb1 (i := 12) (by decide +kernel) rfl
theorem t1_13 : Cond.initialized "java/util/Arrays" ∈ Tb := tb1 (i := 13) (by decide +kernel) rfl
theorem t1_14 : Cond.initialized "java/lang/String" ∈ Tb := tb1 (i := 14) (by decide +kernel) rfl
theorem t1_15 : Cond.initialized "java/lang/StringLatin1" ∈ Tb := tb1 (i := 15) (by decide +kernel) rfl
theorem t1_16 : Cond.initialized "jdk/internal/util/Preconditions" ∈ Tb := tb1 (i := 16) (by decide +kernel) rfl
theorem t1_17 : Cond.initialized "java/lang/StringUTF16" ∈ Tb := tb1 (i := 17) (by decide +kernel) rfl
theorem t1_18 : Cond.initialized "java/lang/System" ∈ Tb := tb1 (i := 18) (by decide +kernel) rfl
theorem t1_19 : Cond.initialized "java/lang/Integer" ∈ Tb := tb1 (i := 19) (by decide +kernel) rfl
theorem t1_20 : Cond.classLink "SewnYearLaw" 7 "SewnYear" ∈ Tb := tb1 (i := 20) (by decide +kernel) rfl
theorem t1_21 : Cond.instantiable "SewnYear" 6 ∈ Tb := tb1 (i := 21) (by decide +kernel) rfl
theorem t1_22 : Cond.methodLink "SewnYearLaw" 9 yX9_init ∈ Tb := tb1 (i := 22) (by decide +kernel) rfl
theorem t1_23 : Cond.instanceMethod yX9_init ∈ Tb := tb1 (i := 23) (by decide +kernel) rfl
theorem t1_24 : Cond.code yX9_init prog_1_method_1_code 1 (none : Option Jvm.ClassFile.FieldType) ∈ Tb := tb1 (i := 24) (by decide +kernel) rfl
theorem t1_25 : Cond.methodLink "SewnYear" 3 ⟨"java/lang/Object", "<init>", "()V"⟩ ∈ Tb := tb1 (i := 25) (by decide +kernel) rfl
theorem t1_26 : Cond.instanceMethod ⟨"java/lang/Object", "<init>", "()V"⟩ ∈ Tb := tb1 (i := 26) (by decide +kernel) rfl
theorem t1_27 : Cond.code ⟨"java/lang/Object", "<init>", "()V"⟩ object_method_1_code 1 (none : Option Jvm.ClassFile.FieldType) ∈ Tb := tb1 (i := 27) (by decide +kernel) rfl
theorem t1_28 : Cond.classLink "SewnYear" 9 "SewnYear$Told" ∈ Tb := tb1 (i := 28) (by decide +kernel) rfl
theorem t1_29 : Cond.instantiable "SewnYear$Told" 9 ∈ Tb := tb1 (i := 29) (by decide +kernel) rfl
theorem t1_31 : Cond.instanceMethod yX5_init ∈ Tb := tb1 (i := 31) (by decide +kernel) rfl
theorem t1_32 : Cond.code yX5_init prog_7_method_1_code 1 (none : Option Jvm.ClassFile.FieldType) ∈ Tb := tb1 (i := 32) (by decide +kernel) rfl
theorem t1_33 : Cond.methodLink "SewnYear$Told" 3 ⟨"java/lang/Object", "<init>", "()V"⟩ ∈ Tb := tb1 (i := 33) (by decide +kernel) rfl
theorem t1_34 : Cond.classLink "SewnYear$Told" 23 "SewnYear$Coat" ∈ Tb := tb1 (i := 34) (by decide +kernel) rfl
theorem t1_36 : Cond.instantiable "SewnYear$Coat" 7 ∈ Tb := tb1 (i := 36) (by decide +kernel) rfl
theorem t1_38 : Cond.instanceMethod yX0_init ∈ Tb := tb1 (i := 38) (by decide +kernel) rfl
theorem t1_39 : Cond.code yX0_init prog_2_method_1_code 1 (none : Option Jvm.ClassFile.FieldType) ∈ Tb := tb1 (i := 39) (by decide +kernel) rfl
theorem t1_40 : Cond.methodLink "SewnYear$Coat" 3 ⟨"java/lang/Object", "<init>", "()V"⟩ ∈ Tb := tb1 (i := 40) (by decide +kernel) rfl
theorem t1_41 : Cond.fieldLink "SewnYear$Coat" 31 "SewnYear$Coat" "seams" "I" ∈ Tb := tb1 (i := 41) (by decide +kernel) rfl
theorem t1_42 : Cond.fieldLink "SewnYear$Sewing" 43 "SewnYear$Coat" "seams" "I" ∈ Tb := tb1 (i := 42) (by decide +kernel) rfl
theorem t1_43 : Cond.fieldLink "SewnYear$Reader" 92 "SewnYear$Coat" "seams" "I" ∈ Tb := tb1 (i := 43) (by decide +kernel) rfl
theorem t1_44 : Cond.fieldLink "SewnYear$Wear" 82 "SewnYear$Coat" "seams" "I" ∈ Tb := tb1 (i := 44) (by decide +kernel) rfl
theorem t1_45 : Cond.fieldLink "SewnYear" 123 "SewnYear$Coat" "seams" "I" ∈ Tb := tb1 (i := 45) (by decide +kernel) rfl
theorem t1_46 : Cond.fieldLink "SewnYear$Coat" 9 "SewnYear$Coat" "pace" "I" ∈ Tb := tb1 (i := 46) (by decide +kernel) rfl
theorem t1_47 : Cond.fieldLink "SewnYear$Reader" 194 "SewnYear$Coat" "pace" "I" ∈ Tb := tb1 (i := 47) (by decide +kernel) rfl
theorem t1_48 : Cond.fieldLink "SewnYear$Wear" 109 "SewnYear$Coat" "pace" "I" ∈ Tb := tb1 (i := 48) (by decide +kernel) rfl
theorem t1_49 : Cond.fieldLink "SewnYear$Sewing" 120 "SewnYear$Coat" "pace" "I" ∈ Tb := tb1 (i := 49) (by decide +kernel) rfl
theorem t1_50 : Cond.fieldLink "SewnYear" 150 "SewnYear$Coat" "pace" "I" ∈ Tb := tb1 (i := 50) (by decide +kernel) rfl
theorem t1_51 : Cond.fieldLink "SewnYear$Coat" 15 "SewnYear$Coat" "stitches" "[I" ∈ Tb := tb1 (i := 51) (by decide +kernel) rfl
theorem t1_52 : Cond.fieldLink "SewnYear$Wear" 126 "SewnYear$Coat" "stitches" "[I" ∈ Tb := tb1 (i := 52) (by decide +kernel) rfl
theorem t1_53 : Cond.fieldLink "SewnYear$Sewing" 140 "SewnYear$Coat" "stitches" "[I" ∈ Tb := tb1 (i := 53) (by decide +kernel) rfl
theorem t1_54 : Cond.fieldLink "SewnYear$Coat" 19 "SewnYear$Coat" "colours" "[I" ∈ Tb := tb1 (i := 54) (by decide +kernel) rfl
theorem t1_55 : Cond.fieldLink "SewnYear$Sewing" 137 "SewnYear$Coat" "colours" "[I" ∈ Tb := tb1 (i := 55) (by decide +kernel) rfl
theorem t1_56 : Cond.fieldLink "SewnYear$Coat" 22 "SewnYear$Coat" "eases" "[I" ∈ Tb := tb1 (i := 56) (by decide +kernel) rfl
theorem t1_57 : Cond.fieldLink "SewnYear$Wear" 123 "SewnYear$Coat" "eases" "[I" ∈ Tb := tb1 (i := 57) (by decide +kernel) rfl
theorem t1_58 : Cond.fieldLink "SewnYear$Sewing" 126 "SewnYear$Coat" "eases" "[I" ∈ Tb := tb1 (i := 58) (by decide +kernel) rfl
theorem t1_59 : Cond.fieldLink "SewnYear$Coat" 25 "SewnYear$Coat" "afters" "[I" ∈ Tb := tb1 (i := 59) (by decide +kernel) rfl
theorem t1_60 : Cond.fieldLink "SewnYear$Sewing" 48 "SewnYear$Coat" "afters" "[I" ∈ Tb := tb1 (i := 60) (by decide +kernel) rfl
theorem t1_61 : Cond.fieldLink "SewnYear$Reader" 188 "SewnYear$Coat" "afters" "[I" ∈ Tb := tb1 (i := 61) (by decide +kernel) rfl
theorem t1_62 : Cond.fieldLink "SewnYear$Wear" 112 "SewnYear$Coat" "afters" "[I" ∈ Tb := tb1 (i := 62) (by decide +kernel) rfl
theorem t1_63 : Cond.fieldLink "SewnYear$Coat" 28 "SewnYear$Coat" "growths" "[I" ∈ Tb := tb1 (i := 63) (by decide +kernel) rfl
theorem t1_64 : Cond.fieldLink "SewnYear$Wear" 29 "SewnYear$Coat" "growths" "[I" ∈ Tb := tb1 (i := 64) (by decide +kernel) rfl
theorem t1_65 : Cond.fieldLink "SewnYear$Reader" 191 "SewnYear$Coat" "growths" "[I" ∈ Tb := tb1 (i := 65) (by decide +kernel) rfl
theorem t1_66 : Cond.fieldLink "SewnYear$Sewing" 114 "SewnYear$Coat" "growths" "[I" ∈ Tb := tb1 (i := 66) (by decide +kernel) rfl
theorem t1_67 : Cond.fieldLink "SewnYear" 265 "SewnYear$Coat" "growths" "[I" ∈ Tb := tb1 (i := 67) (by decide +kernel) rfl
theorem t1_83 : Cond.arrayClass .byte ∈ Tb := tb1 (i := 83) (by decide +kernel) rfl
theorem t1_84 : Cond.arrayClass .int ∈ Tb := tb1 (i := 84) (by decide +kernel) rfl
theorem t1_85 : Cond.classLink "SewnYear$Told" 30 "SewnYear$Life" ∈ Tb := tb1 (i := 85) (by decide +kernel) rfl
theorem t1_87 : Cond.instantiable "SewnYear$Life" 3 ∈ Tb := tb1 (i := 87) (by decide +kernel) rfl
theorem t1_89 : Cond.instanceMethod yX1_init ∈ Tb := tb1 (i := 89) (by decide +kernel) rfl
theorem t1_90 : Cond.code yX1_init prog_3_method_1_code 1 (none : Option Jvm.ClassFile.FieldType) ∈ Tb := tb1 (i := 90) (by decide +kernel) rfl
theorem t1_91 : Cond.methodLink "SewnYear$Life" 3 ⟨"java/lang/Object", "<init>", "()V"⟩ ∈ Tb := tb1 (i := 91) (by decide +kernel) rfl
theorem t1_92 : Cond.fieldLink "SewnYear$Life" 18 "SewnYear$Life" "deeds" "I" ∈ Tb := tb1 (i := 92) (by decide +kernel) rfl
theorem t1_93 : Cond.fieldLink "SewnYear$Reader" 75 "SewnYear$Life" "deeds" "I" ∈ Tb := tb1 (i := 93) (by decide +kernel) rfl
theorem t1_94 : Cond.fieldLink "SewnYear$Wear" 54 "SewnYear$Life" "deeds" "I" ∈ Tb := tb1 (i := 94) (by decide +kernel) rfl
theorem t1_95 : Cond.fieldLink "SewnYear" 102 "SewnYear$Life" "deeds" "I" ∈ Tb := tb1 (i := 95) (by decide +kernel) rfl
theorem t1_96 : Cond.fieldLink "SewnYear$Life" 9 "SewnYear$Life" "kinds" "[I" ∈ Tb := tb1 (i := 96) (by decide +kernel) rfl
theorem t1_97 : Cond.fieldLink "SewnYear$Wear" 59 "SewnYear$Life" "kinds" "[I" ∈ Tb := tb1 (i := 97) (by decide +kernel) rfl
theorem t1_98 : Cond.fieldLink "SewnYear$Life" 15 "SewnYear$Life" "numbers" "[I" ∈ Tb := tb1 (i := 98) (by decide +kernel) rfl
theorem t1_99 : Cond.fieldLink "SewnYear$Wear" 62 "SewnYear$Life" "numbers" "[I" ∈ Tb := tb1 (i := 99) (by decide +kernel) rfl
theorem t1_107 : Cond.classLink "SewnYear$Told" 37 "SewnYear$Town" ∈ Tb := tb1 (i := 107) (by decide +kernel) rfl
theorem t1_109 : Cond.instantiable "SewnYear$Town" 11 ∈ Tb := tb1 (i := 109) (by decide +kernel) rfl
theorem t1_111 : Cond.instanceMethod yX6_init ∈ Tb := tb1 (i := 111) (by decide +kernel) rfl
theorem t1_112 : Cond.code yX6_init prog_8_method_1_code 1 (none : Option Jvm.ClassFile.FieldType) ∈ Tb := tb1 (i := 112) (by decide +kernel) rfl
theorem t1_113 : Cond.methodLink "SewnYear$Town" 3 ⟨"java/lang/Object", "<init>", "()V"⟩ ∈ Tb := tb1 (i := 113) (by decide +kernel) rfl
theorem t1_114 : Cond.fieldLink "SewnYear$Town" 37 "SewnYear$Town" "x" "I" ∈ Tb := tb1 (i := 114) (by decide +kernel) rfl
theorem t1_115 : Cond.fieldLink "SewnYear$Reader" 203 "SewnYear$Town" "x" "I" ∈ Tb := tb1 (i := 115) (by decide +kernel) rfl
theorem t1_116 : Cond.fieldLink "SewnYear" 168 "SewnYear$Town" "x" "I" ∈ Tb := tb1 (i := 116) (by decide +kernel) rfl
theorem t1_117 : Cond.fieldLink "SewnYear$Town" 40 "SewnYear$Town" "y" "I" ∈ Tb := tb1 (i := 117) (by decide +kernel) rfl
theorem t1_118 : Cond.fieldLink "SewnYear$Reader" 206 "SewnYear$Town" "y" "I" ∈ Tb := tb1 (i := 118) (by decide +kernel) rfl
theorem t1_119 : Cond.fieldLink "SewnYear" 171 "SewnYear$Town" "y" "I" ∈ Tb := tb1 (i := 119) (by decide +kernel) rfl
theorem t1_120 : Cond.fieldLink "SewnYear$Town" 9 "SewnYear$Town" "speed" "I" ∈ Tb := tb1 (i := 120) (by decide +kernel) rfl
theorem t1_121 : Cond.fieldLink "SewnYear$Reader" 199 "SewnYear$Town" "speed" "I" ∈ Tb := tb1 (i := 121) (by decide +kernel) rfl
theorem t1_122 : Cond.fieldLink "SewnYear$Town" 15 "SewnYear$Town" "miles" "I" ∈ Tb := tb1 (i := 122) (by decide +kernel) rfl
theorem t1_123 : Cond.fieldLink "SewnYear$Reader" 201 "SewnYear$Town" "miles" "I" ∈ Tb := tb1 (i := 123) (by decide +kernel) rfl
theorem t1_124 : Cond.fieldLink "SewnYear$Town" 43 "SewnYear$Town" "wearers" "I" ∈ Tb := tb1 (i := 124) (by decide +kernel) rfl
theorem t1_125 : Cond.fieldLink "SewnYear$Walk" 47 "SewnYear$Town" "wearers" "I" ∈ Tb := tb1 (i := 125) (by decide +kernel) rfl
theorem t1_126 : Cond.fieldLink "SewnYear$Reader" 95 "SewnYear$Town" "wearers" "I" ∈ Tb := tb1 (i := 126) (by decide +kernel) rfl
theorem t1_127 : Cond.fieldLink "SewnYear" 190 "SewnYear$Town" "wearers" "I" ∈ Tb := tb1 (i := 127) (by decide +kernel) rfl
theorem t1_128 : Cond.fieldLink "SewnYear$Town" 18 "SewnYear$Town" "xs" "[I" ∈ Tb := tb1 (i := 128) (by decide +kernel) rfl
theorem t1_129 : Cond.fieldLink "SewnYear$Walk" 58 "SewnYear$Town" "xs" "[I" ∈ Tb := tb1 (i := 129) (by decide +kernel) rfl
theorem t1_130 : Cond.fieldLink "SewnYear" 271 "SewnYear$Town" "xs" "[I" ∈ Tb := tb1 (i := 130) (by decide +kernel) rfl
theorem t1_131 : Cond.fieldLink "SewnYear$Town" 22 "SewnYear$Town" "ys" "[I" ∈ Tb := tb1 (i := 131) (by decide +kernel) rfl
theorem t1_132 : Cond.fieldLink "SewnYear$Walk" 61 "SewnYear$Town" "ys" "[I" ∈ Tb := tb1 (i := 132) (by decide +kernel) rfl
theorem t1_133 : Cond.fieldLink "SewnYear" 274 "SewnYear$Town" "ys" "[I" ∈ Tb := tb1 (i := 133) (by decide +kernel) rfl
theorem t1_134 : Cond.fieldLink "SewnYear$Town" 25 "SewnYear$Town" "stitches" "[I" ∈ Tb := tb1 (i := 134) (by decide +kernel) rfl
theorem t1_135 : Cond.fieldLink "SewnYear$Town" 28 "SewnYear$Town" "dues" "[I" ∈ Tb := tb1 (i := 135) (by decide +kernel) rfl
theorem t1_136 : Cond.fieldLink "SewnYear$Walk" 79 "SewnYear$Town" "dues" "[I" ∈ Tb := tb1 (i := 136) (by decide +kernel) rfl
theorem t1_137 : Cond.fieldLink "SewnYear$Town" 31 "SewnYear$Town" "froms" "[I" ∈ Tb := tb1 (i := 137) (by decide +kernel) rfl
theorem t1_138 : Cond.fieldLink "SewnYear$Reader" 213 "SewnYear$Town" "froms" "[I" ∈ Tb := tb1 (i := 138) (by decide +kernel) rfl
theorem t1_139 : Cond.fieldLink "SewnYear$Town" 34 "SewnYear$Town" "upTos" "[I" ∈ Tb := tb1 (i := 139) (by decide +kernel) rfl
theorem t1_140 : Cond.fieldLink "SewnYear$Reader" 216 "SewnYear$Town" "upTos" "[I" ∈ Tb := tb1 (i := 140) (by decide +kernel) rfl
theorem t1_164 : Cond.classLink "SewnYear$Told" 44 "SewnYear$Sight" ∈ Tb := tb1 (i := 164) (by decide +kernel) rfl
theorem t1_166 : Cond.instantiable "SewnYear$Sight" 4 ∈ Tb := tb1 (i := 166) (by decide +kernel) rfl
theorem t1_168 : Cond.instanceMethod yX4_init ∈ Tb := tb1 (i := 168) (by decide +kernel) rfl
theorem t1_169 : Cond.code yX4_init prog_6_method_1_code 1 (none : Option Jvm.ClassFile.FieldType) ∈ Tb := tb1 (i := 169) (by decide +kernel) rfl
theorem t1_170 : Cond.methodLink "SewnYear$Sight" 3 ⟨"java/lang/Object", "<init>", "()V"⟩ ∈ Tb := tb1 (i := 170) (by decide +kernel) rfl
theorem t1_171 : Cond.fieldLink "SewnYear$Sight" 21 "SewnYear$Sight" "facts" "I" ∈ Tb := tb1 (i := 171) (by decide +kernel) rfl
theorem t1_172 : Cond.fieldLink "SewnYear$Reader" 79 "SewnYear$Sight" "facts" "I" ∈ Tb := tb1 (i := 172) (by decide +kernel) rfl
theorem t1_173 : Cond.fieldLink "SewnYear$Sewing" 63 "SewnYear$Sight" "facts" "I" ∈ Tb := tb1 (i := 173) (by decide +kernel) rfl
theorem t1_174 : Cond.fieldLink "SewnYear$Sight" 9 "SewnYear$Sight" "kinds" "[I" ∈ Tb := tb1 (i := 174) (by decide +kernel) rfl
theorem t1_175 : Cond.fieldLink "SewnYear$Sewing" 74 "SewnYear$Sight" "kinds" "[I" ∈ Tb := tb1 (i := 175) (by decide +kernel) rfl
theorem t1_176 : Cond.fieldLink "SewnYear$Sight" 15 "SewnYear$Sight" "firsts" "[I" ∈ Tb := tb1 (i := 176) (by decide +kernel) rfl
theorem t1_177 : Cond.fieldLink "SewnYear$Sewing" 68 "SewnYear$Sight" "firsts" "[I" ∈ Tb := tb1 (i := 177) (by decide +kernel) rfl
theorem t1_178 : Cond.fieldLink "SewnYear$Sight" 18 "SewnYear$Sight" "seconds" "[I" ∈ Tb := tb1 (i := 178) (by decide +kernel) rfl
theorem t1_179 : Cond.fieldLink "SewnYear$Sewing" 71 "SewnYear$Sight" "seconds" "[I" ∈ Tb := tb1 (i := 179) (by decide +kernel) rfl
theorem t1_189 : Cond.fieldLink "SewnYear$Told" 9 "SewnYear$Told" "tape" "[B" ∈ Tb := tb1 (i := 189) (by decide +kernel) rfl
theorem t1_190 : Cond.fieldLink "SewnYear" 64 "SewnYear$Told" "tape" "[B" ∈ Tb := tb1 (i := 190) (by decide +kernel) rfl
theorem t1_191 : Cond.fieldLink "SewnYear" 48 "SewnYear$Told" "length" "I" ∈ Tb := tb1 (i := 191) (by decide +kernel) rfl
theorem t1_192 : Cond.fieldLink "SewnYear$Told" 51 "SewnYear$Told" "length" "I" ∈ Tb := tb1 (i := 192) (by decide +kernel) rfl
theorem t1_193 : Cond.fieldLink "SewnYear$Told" 54 "SewnYear$Told" "fault" "I" ∈ Tb := tb1 (i := 193) (by decide +kernel) rfl
theorem t1_194 : Cond.fieldLink "SewnYear" 82 "SewnYear$Told" "fault" "I" ∈ Tb := tb1 (i := 194) (by decide +kernel) rfl
theorem t1_195 : Cond.fieldLink "SewnYear$Told" 15 "SewnYear$Told" "place" "I" ∈ Tb := tb1 (i := 195) (by decide +kernel) rfl
theorem t1_196 : Cond.fieldLink "SewnYear" 83 "SewnYear$Told" "place" "I" ∈ Tb := tb1 (i := 196) (by decide +kernel) rfl
theorem t1_197 : Cond.fieldLink "SewnYear$Told" 19 "SewnYear$Told" "counts" "[I" ∈ Tb := tb1 (i := 197) (by decide +kernel) rfl
theorem t1_198 : Cond.fieldLink "SewnYear" 281 "SewnYear$Told" "counts" "[I" ∈ Tb := tb1 (i := 198) (by decide +kernel) rfl
theorem t1_199 : Cond.fieldLink "SewnYear$Told" 26 "SewnYear$Told" "coats" "[LSewnYear$Coat;" ∈ Tb := tb1 (i := 199) (by decide +kernel) rfl
theorem t1_200 : Cond.fieldLink "SewnYear" 290 "SewnYear$Told" "coats" "[LSewnYear$Coat;" ∈ Tb := tb1 (i := 200) (by decide +kernel) rfl
theorem t1_201 : Cond.fieldLink "SewnYear$Told" 33 "SewnYear$Told" "lives" "[LSewnYear$Life;" ∈ Tb := tb1 (i := 201) (by decide +kernel) rfl
theorem t1_202 : Cond.fieldLink "SewnYear" 294 "SewnYear$Told" "lives" "[LSewnYear$Life;" ∈ Tb := tb1 (i := 202) (by decide +kernel) rfl
theorem t1_203 : Cond.fieldLink "SewnYear$Told" 40 "SewnYear$Told" "towns" "[LSewnYear$Town;" ∈ Tb := tb1 (i := 203) (by decide +kernel) rfl
theorem t1_204 : Cond.fieldLink "SewnYear" 298 "SewnYear$Told" "towns" "[LSewnYear$Town;" ∈ Tb := tb1 (i := 204) (by decide +kernel) rfl
theorem t1_205 : Cond.fieldLink "SewnYear$Told" 47 "SewnYear$Told" "sights" "[LSewnYear$Sight;" ∈ Tb := tb1 (i := 205) (by decide +kernel) rfl
theorem t1_206 : Cond.fieldLink "SewnYear" 302 "SewnYear$Told" "sights" "[LSewnYear$Sight;" ∈ Tb := tb1 (i := 206) (by decide +kernel) rfl
theorem t1_227 : Cond.classLink "SewnYear" 20 "SewnYear$Reader" ∈ Tb := tb1 (i := 227) (by decide +kernel) rfl
theorem t1_228 : Cond.instantiable "SewnYear$Reader" 14 ∈ Tb := tb1 (i := 228) (by decide +kernel) rfl
theorem t1_230 : Cond.instanceMethod yX2_init ∈ Tb := tb1 (i := 230) (by decide +kernel) rfl
theorem t1_231 : Cond.code yX2_init prog_4_method_1_code 1 (none : Option Jvm.ClassFile.FieldType) ∈ Tb := tb1 (i := 231) (by decide +kernel) rfl
theorem t1_232 : Cond.methodLink "SewnYear$Reader" 3 ⟨"java/lang/Object", "<init>", "()V"⟩ ∈ Tb := tb1 (i := 232) (by decide +kernel) rfl
theorem t1_233 : Cond.classLink "SewnYear$Reader" 9 "SewnYear$Coat" ∈ Tb := tb1 (i := 233) (by decide +kernel) rfl
theorem t1_235 : Cond.classLink "SewnYear$Reader" 18 "SewnYear$Life" ∈ Tb := tb1 (i := 235) (by decide +kernel) rfl
theorem t1_237 : Cond.classLink "SewnYear$Reader" 25 "SewnYear$Town" ∈ Tb := tb1 (i := 237) (by decide +kernel) rfl
theorem t1_239 : Cond.classLink "SewnYear$Reader" 32 "SewnYear$Sight" ∈ Tb := tb1 (i := 239) (by decide +kernel) rfl
theorem t2_1 : Cond.fieldLink "SewnYear$Reader" 12 "SewnYear$Reader" "coat" "LSewnYear$Coat;" ∈ Tb := tb2 (i := 1) (by decide +kernel) rfl
theorem t2_2 : Cond.fieldLink "SewnYear$Told" 57 "SewnYear$Reader" "coat" "LSewnYear$Coat;" ∈ Tb := tb2 (i := 2) (by decide +kernel) rfl
theorem t2_3 : Cond.fieldLink "SewnYear$Reader" 21 "SewnYear$Reader" "life" "LSewnYear$Life;" ∈ Tb := tb2 (i := 3) (by decide +kernel) rfl
theorem t2_4 : Cond.fieldLink "SewnYear$Told" 67 "SewnYear$Reader" "life" "LSewnYear$Life;" ∈ Tb := tb2 (i := 4) (by decide +kernel) rfl
theorem t2_5 : Cond.fieldLink "SewnYear$Reader" 28 "SewnYear$Reader" "town" "LSewnYear$Town;" ∈ Tb := tb2 (i := 5) (by decide +kernel) rfl
theorem t2_6 : Cond.fieldLink "SewnYear$Told" 74 "SewnYear$Reader" "town" "LSewnYear$Town;" ∈ Tb := tb2 (i := 6) (by decide +kernel) rfl
theorem t2_7 : Cond.fieldLink "SewnYear$Reader" 35 "SewnYear$Reader" "sight" "LSewnYear$Sight;" ∈ Tb := tb2 (i := 7) (by decide +kernel) rfl
theorem t2_8 : Cond.fieldLink "SewnYear$Told" 81 "SewnYear$Reader" "sight" "LSewnYear$Sight;" ∈ Tb := tb2 (i := 8) (by decide +kernel) rfl
theorem t2_9 : Cond.fieldLink "SewnYear$Reader" 39 "SewnYear$Reader" "numbers" "[I" ∈ Tb := tb2 (i := 9) (by decide +kernel) rfl
theorem t2_10 : Cond.fieldLink "SewnYear$Reader" 43 "SewnYear$Reader" "places" "[I" ∈ Tb := tb2 (i := 10) (by decide +kernel) rfl
theorem t2_11 : Cond.fieldLink "SewnYear$Reader" 46 "SewnYear$Reader" "bytes" "[B" ∈ Tb := tb2 (i := 11) (by decide +kernel) rfl
theorem t2_12 : Cond.fieldLink "SewnYear$Reader" 56 "SewnYear$Reader" "length" "I" ∈ Tb := tb2 (i := 12) (by decide +kernel) rfl
theorem t2_13 : Cond.fieldLink "SewnYear$Reader" 85 "SewnYear$Reader" "token" "I" ∈ Tb := tb2 (i := 13) (by decide +kernel) rfl
theorem t2_14 : Cond.fieldLink "SewnYear$Reader" 102 "SewnYear$Reader" "from" "I" ∈ Tb := tb2 (i := 14) (by decide +kernel) rfl
theorem t2_15 : Cond.fieldLink "SewnYear$Reader" 60 "SewnYear$Reader" "to" "I" ∈ Tb := tb2 (i := 15) (by decide +kernel) rfl
theorem t2_16 : Cond.fieldLink "SewnYear$Reader" 63 "SewnYear$Reader" "toldOf" "I" ∈ Tb := tb2 (i := 16) (by decide +kernel) rfl
theorem t2_17 : Cond.fieldLink "SewnYear$Reader" 66 "SewnYear$Reader" "fault" "I" ∈ Tb := tb2 (i := 17) (by decide +kernel) rfl
theorem t2_18 : Cond.fieldLink "SewnYear" 72 "SewnYear$Reader" "fault" "I" ∈ Tb := tb2 (i := 18) (by decide +kernel) rfl
theorem t2_19 : Cond.fieldLink "SewnYear$Reader" 69 "SewnYear$Reader" "place" "I" ∈ Tb := tb2 (i := 19) (by decide +kernel) rfl
theorem t2_20 : Cond.fieldLink "SewnYear" 75 "SewnYear$Reader" "place" "I" ∈ Tb := tb2 (i := 20) (by decide +kernel) rfl
theorem t2_50 : Cond.classLink "SewnYear" 27 "SewnYear$Wear" ∈ Tb := tb2 (i := 50) (by decide +kernel) rfl
theorem t2_51 : Cond.instantiable "SewnYear$Wear" 9 ∈ Tb := tb2 (i := 51) (by decide +kernel) rfl
theorem t2_53 : Cond.instanceMethod yX8_init ∈ Tb := tb2 (i := 53) (by decide +kernel) rfl
theorem t2_54 : Cond.code yX8_init prog_10_method_1_code 1 (none : Option Jvm.ClassFile.FieldType) ∈ Tb := tb2 (i := 54) (by decide +kernel) rfl
theorem t2_55 : Cond.methodLink "SewnYear$Wear" 3 ⟨"java/lang/Object", "<init>", "()V"⟩ ∈ Tb := tb2 (i := 55) (by decide +kernel) rfl
theorem t2_56 : Cond.classLink "SewnYear$Wear" 9 "SewnYear$Coat" ∈ Tb := tb2 (i := 56) (by decide +kernel) rfl
theorem t2_58 : Cond.fieldLink "SewnYear$Wear" 12 "SewnYear$Wear" "coat" "LSewnYear$Coat;" ∈ Tb := tb2 (i := 58) (by decide +kernel) rfl
theorem t2_59 : Cond.fieldLink "SewnYear$Wear" 25 "SewnYear$Wear" "day" "I" ∈ Tb := tb2 (i := 59) (by decide +kernel) rfl
theorem t2_60 : Cond.fieldLink "SewnYear$Wear" 32 "SewnYear$Wear" "girth" "I" ∈ Tb := tb2 (i := 60) (by decide +kernel) rfl
theorem t2_61 : Cond.fieldLink "SewnYear$Wear" 35 "SewnYear$Wear" "sewnToday" "I" ∈ Tb := tb2 (i := 61) (by decide +kernel) rfl
theorem t2_62 : Cond.fieldLink "SewnYear$Wear" 38 "SewnYear$Wear" "bursts" "I" ∈ Tb := tb2 (i := 62) (by decide +kernel) rfl
theorem t2_63 : Cond.fieldLink "SewnYear$Wear" 41 "SewnYear$Wear" "waste" "I" ∈ Tb := tb2 (i := 63) (by decide +kernel) rfl
theorem t2_64 : Cond.fieldLink "SewnYear$Wear" 75 "SewnYear$Wear" "seed" "I" ∈ Tb := tb2 (i := 64) (by decide +kernel) rfl
theorem t2_65 : Cond.fieldLink "SewnYear$Wear" 18 "SewnYear$Wear" "has" "[I" ∈ Tb := tb2 (i := 65) (by decide +kernel) rfl
theorem t2_66 : Cond.fieldLink "SewnYear$Wear" 22 "SewnYear$Wear" "fitted" "[I" ∈ Tb := tb2 (i := 66) (by decide +kernel) rfl
theorem t2_86 : Cond.classLink "SewnYear" 34 "SewnYear$Sewing" ∈ Tb := tb2 (i := 86) (by decide +kernel) rfl
theorem t2_87 : Cond.instantiable "SewnYear$Sewing" 10 ∈ Tb := tb2 (i := 87) (by decide +kernel) rfl
theorem t2_89 : Cond.instanceMethod yX3_init ∈ Tb := tb2 (i := 89) (by decide +kernel) rfl
theorem t2_90 : Cond.code yX3_init prog_5_method_1_code 1 (none : Option Jvm.ClassFile.FieldType) ∈ Tb := tb2 (i := 90) (by decide +kernel) rfl
theorem t2_91 : Cond.methodLink "SewnYear$Sewing" 3 ⟨"java/lang/Object", "<init>", "()V"⟩ ∈ Tb := tb2 (i := 91) (by decide +kernel) rfl
theorem t2_92 : Cond.classLink "SewnYear$Sewing" 9 "SewnYear$Coat" ∈ Tb := tb2 (i := 92) (by decide +kernel) rfl
theorem t2_94 : Cond.fieldLink "SewnYear$Sewing" 12 "SewnYear$Sewing" "coat" "LSewnYear$Coat;" ∈ Tb := tb2 (i := 94) (by decide +kernel) rfl
theorem t2_95 : Cond.fieldLink "SewnYear$Sewing" 47 "SewnYear$Sewing" "seams" "I" ∈ Tb := tb2 (i := 95) (by decide +kernel) rfl
theorem t2_96 : Cond.fieldLink "SewnYear$Sewing" 18 "SewnYear$Sewing" "before" "[I" ∈ Tb := tb2 (i := 96) (by decide +kernel) rfl
theorem t2_97 : Cond.fieldLink "SewnYear$Sewing" 22 "SewnYear$Sewing" "places" "[I" ∈ Tb := tb2 (i := 97) (by decide +kernel) rfl
theorem t2_98 : Cond.fieldLink "SewnYear$Sewing" 25 "SewnYear$Sewing" "row" "[I" ∈ Tb := tb2 (i := 98) (by decide +kernel) rfl
theorem t2_99 : Cond.fieldLink "SewnYear" 126 "SewnYear$Sewing" "row" "[I" ∈ Tb := tb2 (i := 99) (by decide +kernel) rfl
theorem t2_100 : Cond.fieldLink "SewnYear$Sewing" 28 "SewnYear$Sewing" "ends" "[I" ∈ Tb := tb2 (i := 100) (by decide +kernel) rfl
theorem t2_101 : Cond.fieldLink "SewnYear$Sewing" 31 "SewnYear$Sewing" "free" "[I" ∈ Tb := tb2 (i := 101) (by decide +kernel) rfl
theorem t2_102 : Cond.fieldLink "SewnYear$Sewing" 34 "SewnYear$Sewing" "behind" "[I" ∈ Tb := tb2 (i := 102) (by decide +kernel) rfl
theorem t2_103 : Cond.fieldLink "SewnYear$Sewing" 37 "SewnYear$Sewing" "table" "[I" ∈ Tb := tb2 (i := 103) (by decide +kernel) rfl
theorem t2_104 : Cond.fieldLink "SewnYear$Sewing" 40 "SewnYear$Sewing" "changes" "[I" ∈ Tb := tb2 (i := 104) (by decide +kernel) rfl
theorem t2_126 : Cond.classLink "SewnYear" 41 "SewnYear$Walk" ∈ Tb := tb2 (i := 126) (by decide +kernel) rfl
theorem t2_127 : Cond.instantiable "SewnYear$Walk" 10 ∈ Tb := tb2 (i := 127) (by decide +kernel) rfl
theorem t2_129 : Cond.instanceMethod yX7_init ∈ Tb := tb2 (i := 129) (by decide +kernel) rfl
theorem t2_130 : Cond.code yX7_init prog_9_method_1_code 1 (none : Option Jvm.ClassFile.FieldType) ∈ Tb := tb2 (i := 130) (by decide +kernel) rfl
theorem t2_131 : Cond.methodLink "SewnYear$Walk" 3 ⟨"java/lang/Object", "<init>", "()V"⟩ ∈ Tb := tb2 (i := 131) (by decide +kernel) rfl
theorem t2_132 : Cond.classLink "SewnYear$Walk" 9 "SewnYear$Town" ∈ Tb := tb2 (i := 132) (by decide +kernel) rfl
theorem t2_134 : Cond.fieldLink "SewnYear$Walk" 12 "SewnYear$Walk" "town" "LSewnYear$Town;" ∈ Tb := tb2 (i := 134) (by decide +kernel) rfl
theorem t2_135 : Cond.fieldLink "SewnYear$Walk" 31 "SewnYear$Walk" "x" "I" ∈ Tb := tb2 (i := 135) (by decide +kernel) rfl
theorem t2_136 : Cond.fieldLink "SewnYear$Walk" 35 "SewnYear$Walk" "y" "I" ∈ Tb := tb2 (i := 136) (by decide +kernel) rfl
theorem t2_137 : Cond.fieldLink "SewnYear$Walk" 38 "SewnYear$Walk" "length" "I" ∈ Tb := tb2 (i := 137) (by decide +kernel) rfl
theorem t2_138 : Cond.fieldLink "SewnYear$Walk" 41 "SewnYear$Walk" "used" "I" ∈ Tb := tb2 (i := 138) (by decide +kernel) rfl
theorem t2_139 : Cond.fieldLink "SewnYear$Walk" 44 "SewnYear$Walk" "unsewn" "I" ∈ Tb := tb2 (i := 139) (by decide +kernel) rfl
theorem t2_140 : Cond.fieldLink "SewnYear$Walk" 18 "SewnYear$Walk" "row" "[I" ∈ Tb := tb2 (i := 140) (by decide +kernel) rfl
theorem t2_141 : Cond.fieldLink "SewnYear$Walk" 22 "SewnYear$Walk" "days" "[I" ∈ Tb := tb2 (i := 141) (by decide +kernel) rfl
theorem t2_142 : Cond.fieldLink "SewnYear" 181 "SewnYear$Walk" "days" "[I" ∈ Tb := tb2 (i := 142) (by decide +kernel) rfl
theorem t2_143 : Cond.fieldLink "SewnYear$Walk" 25 "SewnYear$Walk" "lates" "[I" ∈ Tb := tb2 (i := 143) (by decide +kernel) rfl
theorem t2_144 : Cond.fieldLink "SewnYear$Walk" 28 "SewnYear$Walk" "best" "[I" ∈ Tb := tb2 (i := 144) (by decide +kernel) rfl
theorem t2_145 : Cond.fieldLink "SewnYear" 187 "SewnYear$Walk" "best" "[I" ∈ Tb := tb2 (i := 145) (by decide +kernel) rfl
theorem t2_167 : Cond.fieldLink "SewnYear" 12 "SewnYear" "now" "LSewnYear$Told;" ∈ Tb := tb2 (i := 167) (by decide +kernel) rfl
theorem t2_168 : Cond.fieldLink "SewnYear" 16 "SewnYear" "images" "[LSewnYear$Told;" ∈ Tb := tb2 (i := 168) (by decide +kernel) rfl
theorem t2_169 : Cond.fieldLink "SewnYear" 23 "SewnYear" "reader" "LSewnYear$Reader;" ∈ Tb := tb2 (i := 169) (by decide +kernel) rfl
theorem t2_170 : Cond.fieldLink "SewnYear" 30 "SewnYear" "wear" "LSewnYear$Wear;" ∈ Tb := tb2 (i := 170) (by decide +kernel) rfl
theorem t2_171 : Cond.fieldLink "SewnYear" 37 "SewnYear" "sewing" "LSewnYear$Sewing;" ∈ Tb := tb2 (i := 171) (by decide +kernel) rfl
theorem t2_172 : Cond.fieldLink "SewnYear" 44 "SewnYear" "walk" "LSewnYear$Walk;" ∈ Tb := tb2 (i := 172) (by decide +kernel) rfl
theorem t2_186 : Cond.methodLink "SewnYearLaw" 13 yX9_feed ∈ Tb := tb2 (i := 186) (by decide +kernel) rfl
theorem t2_187 : Cond.instanceMethod yX9_feed ∈ Tb := tb2 (i := 187) (by decide +kernel) rfl
theorem t2_188 : Cond.selects "SewnYear" yX9_feed yX9_feed ∈ Tb := tb2 (i := 188) (by decide +kernel) rfl
theorem t2_189 : Cond.code yX9_feed prog_1_method_2_code 6 (some .int) ∈ Tb := tb2 (i := 189) (by decide +kernel) rfl
theorem t2_190 : Cond.methodLink "SewnYear" 52 yX5_put ∈ Tb := tb2 (i := 190) (by decide +kernel) rfl
theorem t2_191 : Cond.instanceMethod yX5_put ∈ Tb := tb2 (i := 191) (by decide +kernel) rfl
theorem t2_192 : Cond.selects "SewnYear$Told" yX5_put yX5_put ∈ Tb := tb2 (i := 192) (by decide +kernel) rfl
theorem t2_193 : Cond.code yX5_put prog_7_method_2_code 3 (none : Option Jvm.ClassFile.FieldType) ∈ Tb := tb2 (i := 193) (by decide +kernel) rfl
theorem t2_194 : Cond.methodLink "SewnYearLaw" 18 yX9_end ∈ Tb := tb2 (i := 194) (by decide +kernel) rfl
theorem t2_195 : Cond.instanceMethod yX9_end ∈ Tb := tb2 (i := 195) (by decide +kernel) rfl
theorem t2_196 : Cond.selects "SewnYear" yX9_end yX9_end ∈ Tb := tb2 (i := 196) (by decide +kernel) rfl
theorem t2_197 : Cond.code yX9_end prog_1_method_3_code 2 (some .int) ∈ Tb := tb2 (i := 197) (by decide +kernel) rfl
theorem t2_198 : Cond.methodLink "SewnYearLaw" 23 yX9_text ∈ Tb := tb2 (i := 198) (by decide +kernel) rfl
theorem t2_199 : Cond.instanceMethod yX9_text ∈ Tb := tb2 (i := 199) (by decide +kernel) rfl
theorem t2_200 : Cond.selects "SewnYear" yX9_text yX9_text ∈ Tb := tb2 (i := 200) (by decide +kernel) rfl
theorem t2_201 : Cond.code yX9_text prog_1_method_4_code 7 (some .int) ∈ Tb := tb2 (i := 201) (by decide +kernel) rfl
theorem t2_202 : Cond.methodLink "SewnYear" 56 yX9_count ∈ Tb := tb2 (i := 202) (by decide +kernel) rfl
theorem t2_203 : Cond.instanceMethod yX9_count ∈ Tb := tb2 (i := 203) (by decide +kernel) rfl
theorem t2_204 : Cond.selects "SewnYear" yX9_count yX9_count ∈ Tb := tb2 (i := 204) (by decide +kernel) rfl
theorem t2_205 : Cond.code yX9_count prog_1_method_29_code 2 (some .int) ∈ Tb := tb2 (i := 205) (by decide +kernel) rfl
theorem t2_206 : Cond.methodLink "SewnYear" 60 yX5_close ∈ Tb := tb2 (i := 206) (by decide +kernel) rfl
theorem t2_207 : Cond.instanceMethod yX5_close ∈ Tb := tb2 (i := 207) (by decide +kernel) rfl
theorem t2_208 : Cond.selects "SewnYear$Told" yX5_close yX5_close ∈ Tb := tb2 (i := 208) (by decide +kernel) rfl
theorem t2_209 : Cond.code yX5_close prog_7_method_3_code 3 (none : Option Jvm.ClassFile.FieldType) ∈ Tb := tb2 (i := 209) (by decide +kernel) rfl
theorem t2_210 : Cond.methodLink "SewnYear" 68 yX2_read ∈ Tb := tb2 (i := 210) (by decide +kernel) rfl
theorem t2_211 : Cond.instanceMethod yX2_read ∈ Tb := tb2 (i := 211) (by decide +kernel) rfl
theorem t2_212 : Cond.selects "SewnYear$Reader" yX2_read yX2_read ∈ Tb := tb2 (i := 212) (by decide +kernel) rfl
theorem t2_213 : Cond.code yX2_read prog_4_method_2_code 5 (none : Option Jvm.ClassFile.FieldType) ∈ Tb := tb2 (i := 213) (by decide +kernel) rfl
theorem t2_214 : Cond.methodLink "SewnYear$Reader" 50 yJ9_min_7cf53 ∈ Tb := tb2 (i := 214) (by decide +kernel) rfl
theorem t2_215 : Cond.static yJ9_min_7cf53 ∈ Tb := tb2 (i := 215) (by decide +kernel) rfl
theorem t2_216 : Cond.code yJ9_min_7cf53 prog_14_method_69_code 2 (some .int) ∈ Tb := tb2 (i := 216) (by decide +kernel) rfl
theorem t2_217 : Cond.methodLink "SewnYear$Reader" 72 yX0_clear ∈ Tb := tb2 (i := 217) (by decide +kernel) rfl
theorem t2_218 : Cond.instanceMethod yX0_clear ∈ Tb := tb2 (i := 218) (by decide +kernel) rfl
theorem t2_219 : Cond.selects "SewnYear$Coat" yX0_clear yX0_clear ∈ Tb := tb2 (i := 219) (by decide +kernel) rfl
theorem t2_220 : Cond.code yX0_clear prog_2_method_2_code 1 (none : Option Jvm.ClassFile.FieldType) ∈ Tb := tb2 (i := 220) (by decide +kernel) rfl
theorem t2_221 : Cond.methodLink "SewnYear$Coat" 34 yJ7_fill_53178 ∈ Tb := tb2 (i := 221) (by decide +kernel) rfl
theorem t2_222 : Cond.static yJ7_fill_53178 ∈ Tb := tb2 (i := 222) (by decide +kernel) rfl
theorem t2_223 : Cond.code yJ7_fill_53178 prog_19_method_103_code 4 (none : Option Jvm.ClassFile.FieldType) ∈ Tb := tb2 (i := 223) (by decide +kernel) rfl
theorem t2_224 : Cond.methodLink "SewnYear$Reader" 78 yX6_clear ∈ Tb := tb2 (i := 224) (by decide +kernel) rfl
theorem t2_225 : Cond.instanceMethod yX6_clear ∈ Tb := tb2 (i := 225) (by decide +kernel) rfl
theorem t2_226 : Cond.selects "SewnYear$Town" yX6_clear yX6_clear ∈ Tb := tb2 (i := 226) (by decide +kernel) rfl
theorem t2_227 : Cond.code yX6_clear prog_8_method_2_code 1 (none : Option Jvm.ClassFile.FieldType) ∈ Tb := tb2 (i := 227) (by decide +kernel) rfl
theorem t2_228 : Cond.methodLink "SewnYear$Town" 46 yJ7_fill_53178 ∈ Tb := tb2 (i := 228) (by decide +kernel) rfl
theorem t2_229 : Cond.methodLink "SewnYear$Reader" 82 yX2_step ∈ Tb := tb2 (i := 229) (by decide +kernel) rfl
theorem t2_230 : Cond.instanceMethod yX2_step ∈ Tb := tb2 (i := 230) (by decide +kernel) rfl
theorem t2_231 : Cond.selects "SewnYear$Reader" yX2_step yX2_step ∈ Tb := tb2 (i := 231) (by decide +kernel) rfl
theorem t2_232 : Cond.code yX2_step prog_4_method_16_code 2 (none : Option Jvm.ClassFile.FieldType) ∈ Tb := tb2 (i := 232) (by decide +kernel) rfl
theorem t2_233 : Cond.methodLink "SewnYear$Reader" 222 yX2_isBlank ∈ Tb := tb2 (i := 233) (by decide +kernel) rfl
theorem t2_234 : Cond.static yX2_isBlank ∈ Tb := tb2 (i := 234) (by decide +kernel) rfl
theorem t2_235 : Cond.code yX2_isBlank prog_4_method_19_code 1 (some .boolean) ∈ Tb := tb2 (i := 235) (by decide +kernel) rfl
theorem t2_236 : Cond.methodLink "SewnYear$Reader" 225 yX2_isLetter ∈ Tb := tb2 (i := 236) (by decide +kernel) rfl
theorem t2_237 : Cond.static yX2_isLetter ∈ Tb := tb2 (i := 237) (by decide +kernel) rfl
theorem t2_238 : Cond.code yX2_isLetter prog_4_method_20_code 1 (some .boolean) ∈ Tb := tb2 (i := 238) (by decide +kernel) rfl
theorem t2_239 : Cond.methodLink "SewnYear$Reader" 228 yX2_isDigit ∈ Tb := tb2 (i := 239) (by decide +kernel) rfl
theorem t3_0 : Cond.static yX2_isDigit ∈ Tb := tb3 (i := 0) (by decide +kernel) rfl
theorem t3_1 : Cond.code yX2_isDigit prog_4_method_21_code 1 (some .boolean) ∈ Tb := tb3 (i := 1) (by decide +kernel) rfl
theorem t3_2 : Cond.methodLink "SewnYear$Reader" 88 yX2_line ∈ Tb := tb3 (i := 2) (by decide +kernel) rfl
theorem t3_3 : Cond.instanceMethod yX2_line ∈ Tb := tb3 (i := 3) (by decide +kernel) rfl
theorem t3_4 : Cond.selects "SewnYear$Reader" yX2_line yX2_line ∈ Tb := tb3 (i := 4) (by decide +kernel) rfl
theorem t3_5 : Cond.code yX2_line prog_4_method_3_code 6 (none : Option Jvm.ClassFile.FieldType) ∈ Tb := tb3 (i := 5) (by decide +kernel) rfl
theorem t3_6 : Cond.methodLink "SewnYear$Reader" 105 yX2_wordOf ∈ Tb := tb3 (i := 6) (by decide +kernel) rfl
theorem t3_7 : Cond.instanceMethod yX2_wordOf ∈ Tb := tb3 (i := 7) (by decide +kernel) rfl
theorem t3_8 : Cond.selects "SewnYear$Reader" yX2_wordOf yX2_wordOf ∈ Tb := tb3 (i := 8) (by decide +kernel) rfl
theorem t3_9 : Cond.code yX2_wordOf prog_4_method_4_code 2 (some .int) ∈ Tb := tb3 (i := 9) (by decide +kernel) rfl
theorem t3_11 : Cond.methodLink "SewnYear$Reader" 133 yX2_is ∈ Tb := tb3 (i := 11) (by decide +kernel) rfl
theorem t3_12 : Cond.instanceMethod yX2_is ∈ Tb := tb3 (i := 12) (by decide +kernel) rfl
theorem t3_13 : Cond.selects "SewnYear$Reader" yX2_is yX2_is ∈ Tb := tb3 (i := 13) (by decide +kernel) rfl
theorem t3_14 : Cond.code yX2_is prog_4_method_18_code 3 (some .boolean) ∈ Tb := tb3 (i := 14) (by decide +kernel) rfl
theorem t3_15 : Cond.methodLink "SewnYear$Reader" 231 yJ0_length_8abf5 ∈ Tb := tb3 (i := 15) (by decide +kernel) rfl
theorem t3_16 : Cond.instanceMethod yJ0_length_8abf5 ∈ Tb := tb3 (i := 16) (by decide +kernel) rfl
theorem t3_17 : Cond.selects "java/lang/String" yJ0_length_8abf5 yJ0_length_8abf5 ∈ Tb := tb3 (i := 17) (by decide +kernel) rfl
theorem t3_18 : Cond.code yJ0_length_8abf5 prog_15_method_54_code 1 (some .int) ∈ Tb := tb3 (i := 18) (by decide +kernel) rfl
theorem t3_19 : Cond.methodLink "java/lang/String" 335 yJ0_coder_7d493 ∈ Tb := tb3 (i := 19) (by decide +kernel) rfl
theorem t3_20 : Cond.instanceMethod yJ0_coder_7d493 ∈ Tb := tb3 (i := 20) (by decide +kernel) rfl
theorem t3_21 : Cond.selects "java/lang/String" yJ0_coder_7d493 yJ0_coder_7d493 ∈ Tb := tb3 (i := 21) (by decide +kernel) rfl
theorem t3_22 : Cond.code yJ0_coder_7d493 prog_15_method_152_code 1 (some .byte) ∈ Tb := tb3 (i := 22) (by decide +kernel) rfl
theorem t3_23 : Cond.fieldLink "java/lang/String" 38 "java/lang/String" "COMPACT_STRINGS" "Z" ∈ Tb := tb3 (i := 23) (by decide +kernel) rfl
theorem t3_25 : Cond.methodLink "SewnYear$Reader" 235 yJ0_charAt_5068e ∈ Tb := tb3 (i := 25) (by decide +kernel) rfl
theorem t3_26 : Cond.instanceMethod yJ0_charAt_5068e ∈ Tb := tb3 (i := 26) (by decide +kernel) rfl
theorem t3_27 : Cond.selects "java/lang/String" yJ0_charAt_5068e yJ0_charAt_5068e ∈ Tb := tb3 (i := 27) (by decide +kernel) rfl
theorem t3_28 : Cond.code yJ0_charAt_5068e prog_15_method_56_code 2 (some .char) ∈ Tb := tb3 (i := 28) (by decide +kernel) rfl
theorem t3_29 : Cond.methodLink "java/lang/String" 492 yJ0_isLatin1_aae02 ∈ Tb := tb3 (i := 29) (by decide +kernel) rfl
theorem t3_30 : Cond.instanceMethod yJ0_isLatin1_aae02 ∈ Tb := tb3 (i := 30) (by decide +kernel) rfl
theorem t3_31 : Cond.selects "java/lang/String" yJ0_isLatin1_aae02 yJ0_isLatin1_aae02 ∈ Tb := tb3 (i := 31) (by decide +kernel) rfl
theorem t3_32 : Cond.code yJ0_isLatin1_aae02 prog_15_method_154_code 1 (some .boolean) ∈ Tb := tb3 (i := 32) (by decide +kernel) rfl
theorem t3_33 : Cond.methodLink "java/lang/String" 495 yJ1_charAt_3b067 ∈ Tb := tb3 (i := 33) (by decide +kernel) rfl
theorem t3_34 : Cond.static yJ1_charAt_3b067 ∈ Tb := tb3 (i := 34) (by decide +kernel) rfl
theorem t3_35 : Cond.code yJ1_charAt_3b067 prog_16_method_2_code 2 (some .char) ∈ Tb := tb3 (i := 35) (by decide +kernel) rfl
theorem t3_36 : Cond.methodLink "java/lang/StringLatin1" 9 yJ0_checkIndex_df160 ∈ Tb := tb3 (i := 36) (by decide +kernel) rfl
theorem t3_37 : Cond.static yJ0_checkIndex_df160 ∈ Tb := tb3 (i := 37) (by decide +kernel) rfl
theorem t3_38 : Cond.code yJ0_checkIndex_df160 prog_15_method_155_code 2 (none : Option Jvm.ClassFile.FieldType) ∈ Tb := tb3 (i := 38) (by decide +kernel) rfl
theorem t3_39 : Cond.fieldLink "java/lang/String" 1053 "jdk/internal/util/Preconditions" "SIOOBE_FORMATTER" "Ljava/util/function/BiFunction;" ∈ Tb := tb3 (i := 39) (by decide +kernel) rfl
theorem t3_41 : Cond.methodLink "java/lang/String" 1059 yJ3_checkIndex_8e157 ∈ Tb := tb3 (i := 41) (by decide +kernel) rfl
theorem t3_42 : Cond.static yJ3_checkIndex_8e157 ∈ Tb := tb3 (i := 42) (by decide +kernel) rfl
theorem t3_43 : Cond.code yJ3_checkIndex_8e157 prog_20_method_11_code 3 (some .int) ∈ Tb := tb3 (i := 43) (by decide +kernel) rfl
theorem t3_44 : Cond.methodLink "java/lang/String" 498 yJ2_charAt_3b067 ∈ Tb := tb3 (i := 44) (by decide +kernel) rfl
theorem t3_45 : Cond.static yJ2_charAt_3b067 ∈ Tb := tb3 (i := 45) (by decide +kernel) rfl
theorem t3_46 : Cond.code yJ2_charAt_3b067 prog_17_method_83_code 2 (some .char) ∈ Tb := tb3 (i := 46) (by decide +kernel) rfl
theorem t3_47 : Cond.methodLink "java/lang/StringUTF16" 67 yJ2_checkIndex_2214a ∈ Tb := tb3 (i := 47) (by decide +kernel) rfl
theorem t3_48 : Cond.static yJ2_checkIndex_2214a ∈ Tb := tb3 (i := 48) (by decide +kernel) rfl
theorem t3_49 : Cond.code yJ2_checkIndex_2214a prog_17_method_91_code 2 (none : Option Jvm.ClassFile.FieldType) ∈ Tb := tb3 (i := 49) (by decide +kernel) rfl
theorem t3_50 : Cond.methodLink "java/lang/StringUTF16" 48 yJ2_length_9d52b ∈ Tb := tb3 (i := 50) (by decide +kernel) rfl
theorem t3_51 : Cond.static yJ2_length_9d52b ∈ Tb := tb3 (i := 51) (by decide +kernel) rfl
theorem t3_52 : Cond.code yJ2_length_9d52b prog_17_method_6_code 1 (some .int) ∈ Tb := tb3 (i := 52) (by decide +kernel) rfl
theorem t3_53 : Cond.methodLink "java/lang/StringUTF16" 414 yJ0_checkIndex_df160 ∈ Tb := tb3 (i := 53) (by decide +kernel) rfl
theorem t3_54 : Cond.methodLink "java/lang/StringUTF16" 71 yJ2_getChar_3b067 ∈ Tb := tb3 (i := 54) (by decide +kernel) rfl
theorem t3_55 : Cond.static yJ2_getChar_3b067 ∈ Tb := tb3 (i := 55) (by decide +kernel) rfl
theorem t3_56 : Cond.code yJ2_getChar_3b067 prog_17_method_5_code 2 (some .char) ∈ Tb := tb3 (i := 56) (by decide +kernel) rfl
theorem t3_57 : Cond.fieldLink "java/lang/StringUTF16" 44 "java/lang/StringUTF16" "$assertionsDisabled" "Z" ∈ Tb := tb3 (i := 57) (by decide +kernel) rfl
theorem t3_59 : Cond.fieldLink "java/lang/StringUTF16" 59 "java/lang/StringUTF16" "HI_BYTE_SHIFT" "I" ∈ Tb := tb3 (i := 59) (by decide +kernel) rfl
theorem t3_61 : Cond.fieldLink "java/lang/StringUTF16" 63 "java/lang/StringUTF16" "LO_BYTE_SHIFT" "I" ∈ Tb := tb3 (i := 61) (by decide +kernel) rfl
theorem t3_80 : Cond.methodLink "SewnYear$Reader" 109 yX2_breakOff ∈ Tb := tb3 (i := 80) (by decide +kernel) rfl
theorem t3_81 : Cond.instanceMethod yX2_breakOff ∈ Tb := tb3 (i := 81) (by decide +kernel) rfl
theorem t3_82 : Cond.selects "SewnYear$Reader" yX2_breakOff yX2_breakOff ∈ Tb := tb3 (i := 82) (by decide +kernel) rfl
theorem t3_83 : Cond.code yX2_breakOff prog_4_method_15_code 1 (none : Option Jvm.ClassFile.FieldType) ∈ Tb := tb3 (i := 83) (by decide +kernel) rfl
theorem t3_84 : Cond.methodLink "SewnYear$Reader" 112 yX2_numbersOf ∈ Tb := tb3 (i := 84) (by decide +kernel) rfl
theorem t3_85 : Cond.static yX2_numbersOf ∈ Tb := tb3 (i := 85) (by decide +kernel) rfl
theorem t3_86 : Cond.code yX2_numbersOf prog_4_method_5_code 2 (some .int) ∈ Tb := tb3 (i := 86) (by decide +kernel) rfl
theorem t3_87 : Cond.methodLink "SewnYear$Reader" 115 yX2_numberOfToken ∈ Tb := tb3 (i := 87) (by decide +kernel) rfl
theorem t3_88 : Cond.instanceMethod yX2_numberOfToken ∈ Tb := tb3 (i := 88) (by decide +kernel) rfl
theorem t3_89 : Cond.selects "SewnYear$Reader" yX2_numberOfToken yX2_numberOfToken ∈ Tb := tb3 (i := 89) (by decide +kernel) rfl
theorem t3_90 : Cond.code yX2_numberOfToken prog_4_method_17_code 3 (some .int) ∈ Tb := tb3 (i := 90) (by decide +kernel) rfl
theorem t3_91 : Cond.methodLink "SewnYear$Reader" 119 yX2_lineOfCoat ∈ Tb := tb3 (i := 91) (by decide +kernel) rfl
theorem t3_92 : Cond.instanceMethod yX2_lineOfCoat ∈ Tb := tb3 (i := 92) (by decide +kernel) rfl
theorem t3_93 : Cond.selects "SewnYear$Reader" yX2_lineOfCoat yX2_lineOfCoat ∈ Tb := tb3 (i := 93) (by decide +kernel) rfl
theorem t3_94 : Cond.code yX2_lineOfCoat prog_4_method_6_code 3 (none : Option Jvm.ClassFile.FieldType) ∈ Tb := tb3 (i := 94) (by decide +kernel) rfl
theorem t3_95 : Cond.methodLink "SewnYear$Reader" 171 yX2_leaveRoom ∈ Tb := tb3 (i := 95) (by decide +kernel) rfl
theorem t3_96 : Cond.instanceMethod yX2_leaveRoom ∈ Tb := tb3 (i := 96) (by decide +kernel) rfl
theorem t3_97 : Cond.selects "SewnYear$Reader" yX2_leaveRoom yX2_leaveRoom ∈ Tb := tb3 (i := 97) (by decide +kernel) rfl
theorem t3_98 : Cond.code yX2_leaveRoom prog_4_method_13_code 4 (none : Option Jvm.ClassFile.FieldType) ∈ Tb := tb3 (i := 98) (by decide +kernel) rfl
theorem t3_99 : Cond.methodLink "SewnYear$Reader" 98 yX2_note ∈ Tb := tb3 (i := 99) (by decide +kernel) rfl
theorem t3_100 : Cond.instanceMethod yX2_note ∈ Tb := tb3 (i := 100) (by decide +kernel) rfl
theorem t3_101 : Cond.selects "SewnYear$Reader" yX2_note yX2_note ∈ Tb := tb3 (i := 101) (by decide +kernel) rfl
theorem t3_102 : Cond.code yX2_note prog_4_method_14_code 3 (none : Option Jvm.ClassFile.FieldType) ∈ Tb := tb3 (i := 102) (by decide +kernel) rfl
theorem t3_103 : Cond.methodLink "SewnYear$Reader" 175 yX2_bound ∈ Tb := tb3 (i := 103) (by decide +kernel) rfl
theorem t3_104 : Cond.instanceMethod yX2_bound ∈ Tb := tb3 (i := 104) (by decide +kernel) rfl
theorem t3_105 : Cond.selects "SewnYear$Reader" yX2_bound yX2_bound ∈ Tb := tb3 (i := 105) (by decide +kernel) rfl
theorem t3_106 : Cond.code yX2_bound prog_4_method_12_code 4 (none : Option Jvm.ClassFile.FieldType) ∈ Tb := tb3 (i := 106) (by decide +kernel) rfl
theorem t3_107 : Cond.methodLink "SewnYear$Reader" 178 yX0_addSeam ∈ Tb := tb3 (i := 107) (by decide +kernel) rfl
theorem t3_108 : Cond.instanceMethod yX0_addSeam ∈ Tb := tb3 (i := 108) (by decide +kernel) rfl
theorem t3_109 : Cond.selects "SewnYear$Coat" yX0_addSeam yX0_addSeam ∈ Tb := tb3 (i := 109) (by decide +kernel) rfl
theorem t3_110 : Cond.code yX0_addSeam prog_2_method_4_code 4 (none : Option Jvm.ClassFile.FieldType) ∈ Tb := tb3 (i := 110) (by decide +kernel) rfl
theorem t3_111 : Cond.methodLink "SewnYear$Reader" 181 yX2_boundCouple ∈ Tb := tb3 (i := 111) (by decide +kernel) rfl
theorem t3_112 : Cond.instanceMethod yX2_boundCouple ∈ Tb := tb3 (i := 112) (by decide +kernel) rfl
theorem t3_113 : Cond.selects "SewnYear$Reader" yX2_boundCouple yX2_boundCouple ∈ Tb := tb3 (i := 113) (by decide +kernel) rfl
theorem t3_114 : Cond.code yX2_boundCouple prog_4_method_11_code 1 (none : Option Jvm.ClassFile.FieldType) ∈ Tb := tb3 (i := 114) (by decide +kernel) rfl
theorem t3_115 : Cond.methodLink "SewnYear$Reader" 184 yX2_isSeam ∈ Tb := tb3 (i := 115) (by decide +kernel) rfl
theorem t3_116 : Cond.static yX2_isSeam ∈ Tb := tb3 (i := 116) (by decide +kernel) rfl
theorem t3_117 : Cond.code yX2_isSeam prog_4_method_10_code 1 (some .boolean) ∈ Tb := tb3 (i := 117) (by decide +kernel) rfl
theorem t3_118 : Cond.methodLink "SewnYear$Reader" 122 yX2_lineOfLife ∈ Tb := tb3 (i := 118) (by decide +kernel) rfl
theorem t3_119 : Cond.instanceMethod yX2_lineOfLife ∈ Tb := tb3 (i := 119) (by decide +kernel) rfl
theorem t3_120 : Cond.selects "SewnYear$Reader" yX2_lineOfLife yX2_lineOfLife ∈ Tb := tb3 (i := 120) (by decide +kernel) rfl
theorem t3_121 : Cond.code yX2_lineOfLife prog_4_method_7_code 3 (none : Option Jvm.ClassFile.FieldType) ∈ Tb := tb3 (i := 121) (by decide +kernel) rfl
theorem t3_122 : Cond.methodLink "SewnYear$Reader" 196 yX1_addDeed ∈ Tb := tb3 (i := 122) (by decide +kernel) rfl
theorem t3_123 : Cond.instanceMethod yX1_addDeed ∈ Tb := tb3 (i := 123) (by decide +kernel) rfl
theorem t3_124 : Cond.selects "SewnYear$Life" yX1_addDeed yX1_addDeed ∈ Tb := tb3 (i := 124) (by decide +kernel) rfl
theorem t3_125 : Cond.code yX1_addDeed prog_3_method_3_code 3 (none : Option Jvm.ClassFile.FieldType) ∈ Tb := tb3 (i := 125) (by decide +kernel) rfl
theorem t3_126 : Cond.methodLink "SewnYear$Reader" 125 yX2_lineOfTown ∈ Tb := tb3 (i := 126) (by decide +kernel) rfl
theorem t3_127 : Cond.instanceMethod yX2_lineOfTown ∈ Tb := tb3 (i := 127) (by decide +kernel) rfl
theorem t3_128 : Cond.selects "SewnYear$Reader" yX2_lineOfTown yX2_lineOfTown ∈ Tb := tb3 (i := 128) (by decide +kernel) rfl
theorem t3_129 : Cond.code yX2_lineOfTown prog_4_method_8_code 3 (none : Option Jvm.ClassFile.FieldType) ∈ Tb := tb3 (i := 129) (by decide +kernel) rfl
theorem t3_130 : Cond.methodLink "SewnYear$Reader" 209 yX6_addWearer ∈ Tb := tb3 (i := 130) (by decide +kernel) rfl
theorem t3_131 : Cond.instanceMethod yX6_addWearer ∈ Tb := tb3 (i := 131) (by decide +kernel) rfl
theorem t3_132 : Cond.selects "SewnYear$Town" yX6_addWearer yX6_addWearer ∈ Tb := tb3 (i := 132) (by decide +kernel) rfl
theorem t3_133 : Cond.code yX6_addWearer prog_8_method_4_code 5 (none : Option Jvm.ClassFile.FieldType) ∈ Tb := tb3 (i := 133) (by decide +kernel) rfl
theorem t3_134 : Cond.methodLink "SewnYear$Reader" 128 yX2_lineOfSight ∈ Tb := tb3 (i := 134) (by decide +kernel) rfl
theorem t3_135 : Cond.instanceMethod yX2_lineOfSight ∈ Tb := tb3 (i := 135) (by decide +kernel) rfl
theorem t3_136 : Cond.selects "SewnYear$Reader" yX2_lineOfSight yX2_lineOfSight ∈ Tb := tb3 (i := 136) (by decide +kernel) rfl
theorem t3_137 : Cond.code yX2_lineOfSight prog_4_method_9_code 3 (none : Option Jvm.ClassFile.FieldType) ∈ Tb := tb3 (i := 137) (by decide +kernel) rfl
theorem t3_138 : Cond.methodLink "SewnYear$Reader" 219 yX4_addFact ∈ Tb := tb3 (i := 138) (by decide +kernel) rfl
theorem t3_139 : Cond.instanceMethod yX4_addFact ∈ Tb := tb3 (i := 139) (by decide +kernel) rfl
theorem t3_140 : Cond.selects "SewnYear$Sight" yX4_addFact yX4_addFact ∈ Tb := tb3 (i := 140) (by decide +kernel) rfl
theorem t3_141 : Cond.code yX4_addFact prog_6_method_3_code 4 (none : Option Jvm.ClassFile.FieldType) ∈ Tb := tb3 (i := 141) (by decide +kernel) rfl
theorem t3_142 : Cond.methodLink "SewnYear" 78 yX5_keep ∈ Tb := tb3 (i := 142) (by decide +kernel) rfl
theorem t3_143 : Cond.instanceMethod yX5_keep ∈ Tb := tb3 (i := 143) (by decide +kernel) rfl
theorem t3_144 : Cond.selects "SewnYear$Told" yX5_keep yX5_keep ∈ Tb := tb3 (i := 144) (by decide +kernel) rfl
theorem t3_145 : Cond.code yX5_keep prog_7_method_5_code 4 (none : Option Jvm.ClassFile.FieldType) ∈ Tb := tb3 (i := 145) (by decide +kernel) rfl
theorem t3_146 : Cond.methodLink "SewnYear$Told" 63 yX0_take ∈ Tb := tb3 (i := 146) (by decide +kernel) rfl
theorem t3_147 : Cond.instanceMethod yX0_take ∈ Tb := tb3 (i := 147) (by decide +kernel) rfl
theorem t3_148 : Cond.selects "SewnYear$Coat" yX0_take yX0_take ∈ Tb := tb3 (i := 148) (by decide +kernel) rfl
theorem t3_149 : Cond.code yX0_take prog_2_method_3_code 2 (none : Option Jvm.ClassFile.FieldType) ∈ Tb := tb3 (i := 149) (by decide +kernel) rfl
theorem t3_150 : Cond.methodLink "SewnYear$Coat" 40 ⟨"java/lang/System", "arraycopy", "(Ljava/lang/Object;ILjava/lang/Object;II)V"⟩ ∈ Tb := tb3 (i := 150) (by decide +kernel) rfl
theorem t3_151 : Cond.static ⟨"java/lang/System", "arraycopy", "(Ljava/lang/Object;ILjava/lang/Object;II)V"⟩ ∈ Tb := tb3 (i := 151) (by decide +kernel) rfl
theorem t3_152 : Cond.native ⟨"java/lang/System", "arraycopy", "(Ljava/lang/Object;ILjava/lang/Object;II)V"⟩ ∈ Tb := tb3 (i := 152) (by decide +kernel) rfl
theorem t3_153 : Cond.methodLink "SewnYear$Told" 71 yX1_take ∈ Tb := tb3 (i := 153) (by decide +kernel) rfl
theorem t3_154 : Cond.instanceMethod yX1_take ∈ Tb := tb3 (i := 154) (by decide +kernel) rfl
theorem t3_155 : Cond.selects "SewnYear$Life" yX1_take yX1_take ∈ Tb := tb3 (i := 155) (by decide +kernel) rfl
theorem t3_156 : Cond.code yX1_take prog_3_method_2_code 2 (none : Option Jvm.ClassFile.FieldType) ∈ Tb := tb3 (i := 156) (by decide +kernel) rfl
theorem t3_157 : Cond.methodLink "SewnYear$Life" 22 ⟨"java/lang/System", "arraycopy", "(Ljava/lang/Object;ILjava/lang/Object;II)V"⟩ ∈ Tb := tb3 (i := 157) (by decide +kernel) rfl
theorem t3_158 : Cond.methodLink "SewnYear$Told" 78 yX6_take ∈ Tb := tb3 (i := 158) (by decide +kernel) rfl
theorem t3_159 : Cond.instanceMethod yX6_take ∈ Tb := tb3 (i := 159) (by decide +kernel) rfl
theorem t3_160 : Cond.selects "SewnYear$Town" yX6_take yX6_take ∈ Tb := tb3 (i := 160) (by decide +kernel) rfl
theorem t3_161 : Cond.code yX6_take prog_8_method_3_code 2 (none : Option Jvm.ClassFile.FieldType) ∈ Tb := tb3 (i := 161) (by decide +kernel) rfl
theorem t3_162 : Cond.methodLink "SewnYear$Town" 52 ⟨"java/lang/System", "arraycopy", "(Ljava/lang/Object;ILjava/lang/Object;II)V"⟩ ∈ Tb := tb3 (i := 162) (by decide +kernel) rfl
theorem t3_163 : Cond.methodLink "SewnYear$Told" 85 yX4_take ∈ Tb := tb3 (i := 163) (by decide +kernel) rfl
theorem t3_164 : Cond.instanceMethod yX4_take ∈ Tb := tb3 (i := 164) (by decide +kernel) rfl
theorem t3_165 : Cond.selects "SewnYear$Sight" yX4_take yX4_take ∈ Tb := tb3 (i := 165) (by decide +kernel) rfl
theorem t3_166 : Cond.code yX4_take prog_6_method_2_code 2 (none : Option Jvm.ClassFile.FieldType) ∈ Tb := tb3 (i := 166) (by decide +kernel) rfl
theorem t3_167 : Cond.methodLink "SewnYear$Sight" 25 ⟨"java/lang/System", "arraycopy", "(Ljava/lang/Object;ILjava/lang/Object;II)V"⟩ ∈ Tb := tb3 (i := 167) (by decide +kernel) rfl
theorem t3_168 : Cond.methodLink "SewnYear$Told" 88 yJ9_max_7cf53 ∈ Tb := tb3 (i := 168) (by decide +kernel) rfl
theorem t3_169 : Cond.static yJ9_max_7cf53 ∈ Tb := tb3 (i := 169) (by decide +kernel) rfl
theorem t3_170 : Cond.code yJ9_max_7cf53 prog_14_method_65_code 2 (some .int) ∈ Tb := tb3 (i := 170) (by decide +kernel) rfl
theorem t3_171 : Cond.methodLink "SewnYearLaw" 28 yX9_fault ∈ Tb := tb3 (i := 171) (by decide +kernel) rfl
theorem t3_172 : Cond.instanceMethod yX9_fault ∈ Tb := tb3 (i := 172) (by decide +kernel) rfl
theorem t3_173 : Cond.selects "SewnYear" yX9_fault yX9_fault ∈ Tb := tb3 (i := 173) (by decide +kernel) rfl
theorem t3_174 : Cond.code yX9_fault prog_1_method_5_code 2 (some .int) ∈ Tb := tb3 (i := 174) (by decide +kernel) rfl
theorem t3_175 : Cond.methodLink "SewnYearLaw" 32 yX9_coat ∈ Tb := tb3 (i := 175) (by decide +kernel) rfl
theorem t3_176 : Cond.instanceMethod yX9_coat ∈ Tb := tb3 (i := 176) (by decide +kernel) rfl
theorem t3_177 : Cond.selects "SewnYear" yX9_coat yX9_coat ∈ Tb := tb3 (i := 177) (by decide +kernel) rfl
theorem t3_178 : Cond.code yX9_coat prog_1_method_6_code 4 (some .int) ∈ Tb := tb3 (i := 178) (by decide +kernel) rfl
theorem t3_179 : Cond.methodLink "SewnYear" 84 yX9_coatAt ∈ Tb := tb3 (i := 179) (by decide +kernel) rfl
theorem t3_181 : Cond.instanceMethod yX9_coatAt ∈ Tb := tb3 (i := 181) (by decide +kernel) rfl
theorem t3_182 : Cond.code yX9_coatAt prog_1_method_32_code 2 (some (.object "SewnYear$Coat")) ∈ Tb := tb3 (i := 182) (by decide +kernel) rfl
theorem t3_183 : Cond.methodLink "SewnYear" 287 yX5_has ∈ Tb := tb3 (i := 183) (by decide +kernel) rfl
theorem t3_184 : Cond.instanceMethod yX5_has ∈ Tb := tb3 (i := 184) (by decide +kernel) rfl
theorem t3_185 : Cond.selects "SewnYear$Told" yX5_has yX5_has ∈ Tb := tb3 (i := 185) (by decide +kernel) rfl
theorem t3_186 : Cond.code yX5_has prog_7_method_4_code 3 (some .boolean) ∈ Tb := tb3 (i := 186) (by decide +kernel) rfl
theorem t3_187 : Cond.methodLink "SewnYear" 88 yX0_tell ∈ Tb := tb3 (i := 187) (by decide +kernel) rfl
theorem t3_188 : Cond.instanceMethod yX0_tell ∈ Tb := tb3 (i := 188) (by decide +kernel) rfl
theorem t3_189 : Cond.selects "SewnYear$Coat" yX0_tell yX0_tell ∈ Tb := tb3 (i := 189) (by decide +kernel) rfl
theorem t3_190 : Cond.code yX0_tell prog_2_method_6_code 3 (some .int) ∈ Tb := tb3 (i := 190) (by decide +kernel) rfl
theorem t3_191 : Cond.methodLink "SewnYear$Coat" 46 yX0_hasSeam ∈ Tb := tb3 (i := 191) (by decide +kernel) rfl
theorem t3_192 : Cond.instanceMethod yX0_hasSeam ∈ Tb := tb3 (i := 192) (by decide +kernel) rfl
theorem t3_193 : Cond.selects "SewnYear$Coat" yX0_hasSeam yX0_hasSeam ∈ Tb := tb3 (i := 193) (by decide +kernel) rfl
theorem t3_194 : Cond.code yX0_hasSeam prog_2_method_5_code 2 (some .boolean) ∈ Tb := tb3 (i := 194) (by decide +kernel) rfl
theorem t3_195 : Cond.methodLink "SewnYearLaw" 36 yX9_deed ∈ Tb := tb3 (i := 195) (by decide +kernel) rfl
theorem t3_196 : Cond.instanceMethod yX9_deed ∈ Tb := tb3 (i := 196) (by decide +kernel) rfl
theorem t3_197 : Cond.selects "SewnYear" yX9_deed yX9_deed ∈ Tb := tb3 (i := 197) (by decide +kernel) rfl
theorem t3_198 : Cond.code yX9_deed prog_1_method_7_code 5 (some .int) ∈ Tb := tb3 (i := 198) (by decide +kernel) rfl
theorem t3_199 : Cond.methodLink "SewnYear" 93 yX9_lifeAt ∈ Tb := tb3 (i := 199) (by decide +kernel) rfl
theorem t3_201 : Cond.instanceMethod yX9_lifeAt ∈ Tb := tb3 (i := 201) (by decide +kernel) rfl
theorem t3_202 : Cond.code yX9_lifeAt prog_1_method_33_code 2 (some (.object "SewnYear$Life")) ∈ Tb := tb3 (i := 202) (by decide +kernel) rfl
theorem t3_203 : Cond.methodLink "SewnYear" 97 yX1_tell ∈ Tb := tb3 (i := 203) (by decide +kernel) rfl
theorem t3_204 : Cond.instanceMethod yX1_tell ∈ Tb := tb3 (i := 204) (by decide +kernel) rfl
theorem t3_205 : Cond.selects "SewnYear$Life" yX1_tell yX1_tell ∈ Tb := tb3 (i := 205) (by decide +kernel) rfl
theorem t3_206 : Cond.code yX1_tell prog_3_method_4_code 3 (some .int) ∈ Tb := tb3 (i := 206) (by decide +kernel) rfl
theorem t3_207 : Cond.methodLink "SewnYearLaw" 41 yX9_stop ∈ Tb := tb3 (i := 207) (by decide +kernel) rfl
theorem t3_208 : Cond.instanceMethod yX9_stop ∈ Tb := tb3 (i := 208) (by decide +kernel) rfl
theorem t3_209 : Cond.selects "SewnYear" yX9_stop yX9_stop ∈ Tb := tb3 (i := 209) (by decide +kernel) rfl
theorem t3_210 : Cond.code yX9_stop prog_1_method_8_code 5 (some .int) ∈ Tb := tb3 (i := 210) (by decide +kernel) rfl
theorem t3_211 : Cond.methodLink "SewnYear" 105 yX8_lead ∈ Tb := tb3 (i := 211) (by decide +kernel) rfl
theorem t3_212 : Cond.instanceMethod yX8_lead ∈ Tb := tb3 (i := 212) (by decide +kernel) rfl
theorem t3_213 : Cond.selects "SewnYear$Wear" yX8_lead yX8_lead ∈ Tb := tb3 (i := 213) (by decide +kernel) rfl
theorem t3_214 : Cond.code yX8_lead prog_10_method_3_code 5 (some .int) ∈ Tb := tb3 (i := 214) (by decide +kernel) rfl
theorem t3_215 : Cond.methodLink "SewnYear$Wear" 50 yX8_begin ∈ Tb := tb3 (i := 215) (by decide +kernel) rfl
theorem t3_216 : Cond.instanceMethod yX8_begin ∈ Tb := tb3 (i := 216) (by decide +kernel) rfl
theorem t3_217 : Cond.selects "SewnYear$Wear" yX8_begin yX8_begin ∈ Tb := tb3 (i := 217) (by decide +kernel) rfl
theorem t3_218 : Cond.code yX8_begin prog_10_method_2_code 2 (none : Option Jvm.ClassFile.FieldType) ∈ Tb := tb3 (i := 218) (by decide +kernel) rfl
theorem t3_219 : Cond.methodLink "SewnYear$Wear" 44 yJ7_fill_53178 ∈ Tb := tb3 (i := 219) (by decide +kernel) rfl
theorem t3_220 : Cond.methodLink "SewnYear$Wear" 65 yX8_act ∈ Tb := tb3 (i := 220) (by decide +kernel) rfl
theorem t3_221 : Cond.instanceMethod yX8_act ∈ Tb := tb3 (i := 221) (by decide +kernel) rfl
theorem t3_222 : Cond.selects "SewnYear$Wear" yX8_act yX8_act ∈ Tb := tb3 (i := 222) (by decide +kernel) rfl
theorem t3_223 : Cond.code yX8_act prog_10_method_6_code 3 (some .boolean) ∈ Tb := tb3 (i := 223) (by decide +kernel) rfl
theorem t3_224 : Cond.methodLink "SewnYear$Wear" 86 yX8_stitch ∈ Tb := tb3 (i := 224) (by decide +kernel) rfl
theorem t3_225 : Cond.instanceMethod yX8_stitch ∈ Tb := tb3 (i := 225) (by decide +kernel) rfl
theorem t3_226 : Cond.selects "SewnYear$Wear" yX8_stitch yX8_stitch ∈ Tb := tb3 (i := 226) (by decide +kernel) rfl
theorem t3_227 : Cond.code yX8_stitch prog_10_method_7_code 2 (some .boolean) ∈ Tb := tb3 (i := 227) (by decide +kernel) rfl
theorem t3_228 : Cond.methodLink "SewnYear$Wear" 103 yX0_hasSeam ∈ Tb := tb3 (i := 228) (by decide +kernel) rfl
theorem t3_229 : Cond.methodLink "SewnYear$Wear" 106 yX8_isWhole ∈ Tb := tb3 (i := 229) (by decide +kernel) rfl
theorem t3_230 : Cond.instanceMethod yX8_isWhole ∈ Tb := tb3 (i := 230) (by decide +kernel) rfl
theorem t3_231 : Cond.selects "SewnYear$Wear" yX8_isWhole yX8_isWhole ∈ Tb := tb3 (i := 231) (by decide +kernel) rfl
theorem t3_232 : Cond.code yX8_isWhole prog_10_method_13_code 2 (some .boolean) ∈ Tb := tb3 (i := 232) (by decide +kernel) rfl
theorem t3_233 : Cond.methodLink "SewnYear$Wear" 115 yX8_wholeOnes ∈ Tb := tb3 (i := 233) (by decide +kernel) rfl
theorem t3_234 : Cond.instanceMethod yX8_wholeOnes ∈ Tb := tb3 (i := 234) (by decide +kernel) rfl
theorem t3_235 : Cond.selects "SewnYear$Wear" yX8_wholeOnes yX8_wholeOnes ∈ Tb := tb3 (i := 235) (by decide +kernel) rfl
theorem t3_236 : Cond.code yX8_wholeOnes prog_10_method_14_code 3 (some .int) ∈ Tb := tb3 (i := 236) (by decide +kernel) rfl
theorem t3_237 : Cond.methodLink "SewnYear$Wear" 90 yX8_unpick ∈ Tb := tb3 (i := 237) (by decide +kernel) rfl
theorem t3_238 : Cond.instanceMethod yX8_unpick ∈ Tb := tb3 (i := 238) (by decide +kernel) rfl
theorem t3_239 : Cond.selects "SewnYear$Wear" yX8_unpick yX8_unpick ∈ Tb := tb3 (i := 239) (by decide +kernel) rfl
theorem t4_0 : Cond.code yX8_unpick prog_10_method_8_code 3 (some .boolean) ∈ Tb := tb4 (i := 0) (by decide +kernel) rfl
theorem t4_1 : Cond.methodLink "SewnYear$Wear" 69 yJ9_min_7cf53 ∈ Tb := tb4 (i := 1) (by decide +kernel) rfl
theorem t4_2 : Cond.methodLink "SewnYear$Wear" 119 yX8_lose ∈ Tb := tb4 (i := 2) (by decide +kernel) rfl
theorem t4_3 : Cond.instanceMethod yX8_lose ∈ Tb := tb4 (i := 3) (by decide +kernel) rfl
theorem t4_4 : Cond.selects "SewnYear$Wear" yX8_lose yX8_lose ∈ Tb := tb4 (i := 4) (by decide +kernel) rfl
theorem t4_5 : Cond.code yX8_lose prog_10_method_12_code 3 (none : Option Jvm.ClassFile.FieldType) ∈ Tb := tb4 (i := 5) (by decide +kernel) rfl
theorem t4_6 : Cond.methodLink "SewnYear$Wear" 93 yX8_tear ∈ Tb := tb4 (i := 6) (by decide +kernel) rfl
theorem t4_7 : Cond.instanceMethod yX8_tear ∈ Tb := tb4 (i := 7) (by decide +kernel) rfl
theorem t4_8 : Cond.selects "SewnYear$Wear" yX8_tear yX8_tear ∈ Tb := tb4 (i := 8) (by decide +kernel) rfl
theorem t4_9 : Cond.code yX8_tear prog_10_method_9_code 2 (some .boolean) ∈ Tb := tb4 (i := 9) (by decide +kernel) rfl
theorem t4_10 : Cond.methodLink "SewnYear$Wear" 96 yX8_widen ∈ Tb := tb4 (i := 10) (by decide +kernel) rfl
theorem t4_11 : Cond.instanceMethod yX8_widen ∈ Tb := tb4 (i := 11) (by decide +kernel) rfl
theorem t4_12 : Cond.selects "SewnYear$Wear" yX8_widen yX8_widen ∈ Tb := tb4 (i := 12) (by decide +kernel) rfl
theorem t4_13 : Cond.code yX8_widen prog_10_method_11_code 3 (some .boolean) ∈ Tb := tb4 (i := 13) (by decide +kernel) rfl
theorem t4_14 : Cond.methodLink "SewnYear$Wear" 99 yX8_sleep ∈ Tb := tb4 (i := 14) (by decide +kernel) rfl
theorem t4_15 : Cond.instanceMethod yX8_sleep ∈ Tb := tb4 (i := 15) (by decide +kernel) rfl
theorem t4_16 : Cond.selects "SewnYear$Wear" yX8_sleep yX8_sleep ∈ Tb := tb4 (i := 16) (by decide +kernel) rfl
theorem t4_17 : Cond.code yX8_sleep prog_10_method_10_code 1 (some .boolean) ∈ Tb := tb4 (i := 17) (by decide +kernel) rfl
theorem t4_18 : Cond.methodLink "SewnYearLaw" 45 yX9_state ∈ Tb := tb4 (i := 18) (by decide +kernel) rfl
theorem t4_19 : Cond.instanceMethod yX9_state ∈ Tb := tb4 (i := 19) (by decide +kernel) rfl
theorem t4_20 : Cond.selects "SewnYear" yX9_state yX9_state ∈ Tb := tb4 (i := 20) (by decide +kernel) rfl
theorem t4_21 : Cond.code yX9_state prog_1_method_9_code 7 (some .int) ∈ Tb := tb4 (i := 21) (by decide +kernel) rfl
theorem t4_22 : Cond.methodLink "SewnYear" 109 yX8_tell ∈ Tb := tb4 (i := 22) (by decide +kernel) rfl
theorem t4_23 : Cond.instanceMethod yX8_tell ∈ Tb := tb4 (i := 23) (by decide +kernel) rfl
theorem t4_24 : Cond.selects "SewnYear$Wear" yX8_tell yX8_tell ∈ Tb := tb4 (i := 24) (by decide +kernel) rfl
theorem t4_25 : Cond.code yX8_tell prog_10_method_15_code 3 (some .int) ∈ Tb := tb4 (i := 25) (by decide +kernel) rfl
theorem t4_26 : Cond.methodLink "SewnYearLaw" 50 yX9_orders ∈ Tb := tb4 (i := 26) (by decide +kernel) rfl
theorem t4_27 : Cond.instanceMethod yX9_orders ∈ Tb := tb4 (i := 27) (by decide +kernel) rfl
theorem t4_28 : Cond.selects "SewnYear" yX9_orders yX9_orders ∈ Tb := tb4 (i := 28) (by decide +kernel) rfl
theorem t4_29 : Cond.code yX9_orders prog_1_method_10_code 3 (some .long) ∈ Tb := tb4 (i := 29) (by decide +kernel) rfl
theorem t4_30 : Cond.constantLong "SewnYear" 110 (-1) ∈ Tb := tb4 (i := 30) (by decide +kernel) rfl
theorem t4_31 : Cond.methodLink "SewnYear" 112 yX3_take ∈ Tb := tb4 (i := 31) (by decide +kernel) rfl
theorem t4_32 : Cond.instanceMethod yX3_take ∈ Tb := tb4 (i := 32) (by decide +kernel) rfl
theorem t4_33 : Cond.selects "SewnYear$Sewing" yX3_take yX3_take ∈ Tb := tb4 (i := 33) (by decide +kernel) rfl
theorem t4_34 : Cond.code yX3_take prog_5_method_2_code 2 (none : Option Jvm.ClassFile.FieldType) ∈ Tb := tb4 (i := 34) (by decide +kernel) rfl
theorem t4_35 : Cond.methodLink "SewnYear$Sewing" 51 ⟨"java/lang/System", "arraycopy", "(Ljava/lang/Object;ILjava/lang/Object;II)V"⟩ ∈ Tb := tb4 (i := 35) (by decide +kernel) rfl
theorem t4_36 : Cond.methodLink "SewnYear$Sewing" 57 yJ7_fill_53178 ∈ Tb := tb4 (i := 36) (by decide +kernel) rfl
theorem t4_37 : Cond.methodLink "SewnYear" 116 yX3_ways ∈ Tb := tb4 (i := 37) (by decide +kernel) rfl
theorem t4_38 : Cond.instanceMethod yX3_ways ∈ Tb := tb4 (i := 38) (by decide +kernel) rfl
theorem t4_39 : Cond.selects "SewnYear$Sewing" yX3_ways yX3_ways ∈ Tb := tb4 (i := 39) (by decide +kernel) rfl
theorem t4_40 : Cond.code yX3_ways prog_5_method_5_code 4 (some .int) ∈ Tb := tb4 (i := 40) (by decide +kernel) rfl
theorem t4_41 : Cond.methodLink "SewnYear$Sewing" 83 yX3_mayCome ∈ Tb := tb4 (i := 41) (by decide +kernel) rfl
theorem t4_42 : Cond.instanceMethod yX3_mayCome ∈ Tb := tb4 (i := 42) (by decide +kernel) rfl
theorem t4_43 : Cond.selects "SewnYear$Sewing" yX3_mayCome yX3_mayCome ∈ Tb := tb4 (i := 43) (by decide +kernel) rfl
theorem t4_44 : Cond.code yX3_mayCome prog_5_method_4_code 3 (some .boolean) ∈ Tb := tb4 (i := 44) (by decide +kernel) rfl
theorem t4_45 : Cond.methodLink "SewnYear$Sewing" 77 yJ6_bitCount_0f7a4 ∈ Tb := tb4 (i := 45) (by decide +kernel) rfl
theorem t4_46 : Cond.static yJ6_bitCount_0f7a4 ∈ Tb := tb4 (i := 46) (by decide +kernel) rfl
theorem t4_47 : Cond.code yJ6_bitCount_0f7a4 prog_13_method_49_code 1 (some .int) ∈ Tb := tb4 (i := 47) (by decide +kernel) rfl
theorem t4_48 : Cond.constant "java/lang/Integer" 265 (1431655765) ∈ Tb := tb4 (i := 48) (by decide +kernel) rfl
theorem t4_49 : Cond.constant "java/lang/Integer" 266 (858993459) ∈ Tb := tb4 (i := 49) (by decide +kernel) rfl
theorem t4_50 : Cond.constant "java/lang/Integer" 267 (252645135) ∈ Tb := tb4 (i := 50) (by decide +kernel) rfl
theorem t4_51 : Cond.methodLink "SewnYearLaw" 55 yX9_order ∈ Tb := tb4 (i := 51) (by decide +kernel) rfl
theorem t4_52 : Cond.instanceMethod yX9_order ∈ Tb := tb4 (i := 52) (by decide +kernel) rfl
theorem t4_53 : Cond.selects "SewnYear" yX9_order yX9_order ∈ Tb := tb4 (i := 53) (by decide +kernel) rfl
theorem t4_54 : Cond.code yX9_order prog_1_method_11_code 5 (some .int) ∈ Tb := tb4 (i := 54) (by decide +kernel) rfl
theorem t4_55 : Cond.methodLink "SewnYear" 120 yX9_orderedAt ∈ Tb := tb4 (i := 55) (by decide +kernel) rfl
theorem t4_57 : Cond.instanceMethod yX9_orderedAt ∈ Tb := tb4 (i := 57) (by decide +kernel) rfl
theorem t4_58 : Cond.code yX9_orderedAt prog_1_method_36_code 3 (some (.object "SewnYear$Coat")) ∈ Tb := tb4 (i := 58) (by decide +kernel) rfl
theorem t4_59 : Cond.methodLink "SewnYear" 306 yX3_layFirst ∈ Tb := tb4 (i := 59) (by decide +kernel) rfl
theorem t4_60 : Cond.instanceMethod yX3_layFirst ∈ Tb := tb4 (i := 60) (by decide +kernel) rfl
theorem t4_61 : Cond.selects "SewnYear$Sewing" yX3_layFirst yX3_layFirst ∈ Tb := tb4 (i := 61) (by decide +kernel) rfl
theorem t4_62 : Cond.code yX3_layFirst prog_5_method_9_code 4 (some .boolean) ∈ Tb := tb4 (i := 62) (by decide +kernel) rfl
theorem t4_63 : Cond.methodLink "SewnYear" 130 yX0_needs ∈ Tb := tb4 (i := 63) (by decide +kernel) rfl
theorem t4_64 : Cond.instanceMethod yX0_needs ∈ Tb := tb4 (i := 64) (by decide +kernel) rfl
theorem t4_65 : Cond.selects "SewnYear$Coat" yX0_needs yX0_needs ∈ Tb := tb4 (i := 65) (by decide +kernel) rfl
theorem t4_66 : Cond.code yX0_needs prog_2_method_10_code 5 (some .int) ∈ Tb := tb4 (i := 66) (by decide +kernel) rfl
theorem t4_67 : Cond.methodLink "SewnYear" 133 yJ6_bitCount_0f7a4 ∈ Tb := tb4 (i := 67) (by decide +kernel) rfl
theorem t4_68 : Cond.methodLink "SewnYear" 138 yX0_leans ∈ Tb := tb4 (i := 68) (by decide +kernel) rfl
theorem t4_69 : Cond.instanceMethod yX0_leans ∈ Tb := tb4 (i := 69) (by decide +kernel) rfl
theorem t4_70 : Cond.selects "SewnYear$Coat" yX0_leans yX0_leans ∈ Tb := tb4 (i := 70) (by decide +kernel) rfl
theorem t4_71 : Cond.code yX0_leans prog_2_method_11_code 4 (some .int) ∈ Tb := tb4 (i := 71) (by decide +kernel) rfl
theorem t4_72 : Cond.methodLink "SewnYear$Coat" 56 yX0_needs ∈ Tb := tb4 (i := 72) (by decide +kernel) rfl
theorem t4_73 : Cond.methodLink "SewnYear" 141 yX3_fewestBursts ∈ Tb := tb4 (i := 73) (by decide +kernel) rfl
theorem t4_74 : Cond.instanceMethod yX3_fewestBursts ∈ Tb := tb4 (i := 74) (by decide +kernel) rfl
theorem t4_75 : Cond.selects "SewnYear$Sewing" yX3_fewestBursts yX3_fewestBursts ∈ Tb := tb4 (i := 75) (by decide +kernel) rfl
theorem t4_76 : Cond.code yX3_fewestBursts prog_5_method_10_code 5 (some .int) ∈ Tb := tb4 (i := 76) (by decide +kernel) rfl
theorem t4_77 : Cond.methodLink "SewnYear$Sewing" 105 yX3_sumGrowthBehind ∈ Tb := tb4 (i := 77) (by decide +kernel) rfl
theorem t4_78 : Cond.instanceMethod yX3_sumGrowthBehind ∈ Tb := tb4 (i := 78) (by decide +kernel) rfl
theorem t4_79 : Cond.selects "SewnYear$Sewing" yX3_sumGrowthBehind yX3_sumGrowthBehind ∈ Tb := tb4 (i := 79) (by decide +kernel) rfl
theorem t4_80 : Cond.code yX3_sumGrowthBehind prog_5_method_11_code 3 (none : Option Jvm.ClassFile.FieldType) ∈ Tb := tb4 (i := 80) (by decide +kernel) rfl
theorem t4_81 : Cond.constant "SewnYear$Sewing" 99 (1000000) ∈ Tb := tb4 (i := 81) (by decide +kernel) rfl
theorem t4_82 : Cond.methodLink "SewnYear$Sewing" 108 yX3_burstsFrom ∈ Tb := tb4 (i := 82) (by decide +kernel) rfl
theorem t4_83 : Cond.instanceMethod yX3_burstsFrom ∈ Tb := tb4 (i := 83) (by decide +kernel) rfl
theorem t4_84 : Cond.selects "SewnYear$Sewing" yX3_burstsFrom yX3_burstsFrom ∈ Tb := tb4 (i := 84) (by decide +kernel) rfl
theorem t4_85 : Cond.code yX3_burstsFrom prog_5_method_12_code 6 (some .int) ∈ Tb := tb4 (i := 85) (by decide +kernel) rfl
theorem t4_86 : Cond.methodLink "SewnYear$Sewing" 117 yX0_stitchesOf ∈ Tb := tb4 (i := 86) (by decide +kernel) rfl
theorem t4_87 : Cond.instanceMethod yX0_stitchesOf ∈ Tb := tb4 (i := 87) (by decide +kernel) rfl
theorem t4_88 : Cond.selects "SewnYear$Coat" yX0_stitchesOf yX0_stitchesOf ∈ Tb := tb4 (i := 88) (by decide +kernel) rfl
theorem t4_89 : Cond.code yX0_stitchesOf prog_2_method_7_code 4 (some .int) ∈ Tb := tb4 (i := 89) (by decide +kernel) rfl
theorem t4_91 : Cond.static yX9_begun ∈ Tb := tb4 (i := 91) (by decide +kernel) rfl
theorem t4_92 : Cond.code yX9_begun prog_1_method_40_code 2 (some .int) ∈ Tb := tb4 (i := 92) (by decide +kernel) rfl
theorem t4_93 : Cond.methodLink "SewnYear$Sewing" 111 yJ9_min_7cf53 ∈ Tb := tb4 (i := 93) (by decide +kernel) rfl
theorem t4_94 : Cond.methodLink "SewnYear" 144 yX3_fewestChanges ∈ Tb := tb4 (i := 94) (by decide +kernel) rfl
theorem t4_95 : Cond.instanceMethod yX3_fewestChanges ∈ Tb := tb4 (i := 95) (by decide +kernel) rfl
theorem t4_96 : Cond.selects "SewnYear$Sewing" yX3_fewestChanges yX3_fewestChanges ∈ Tb := tb4 (i := 96) (by decide +kernel) rfl
theorem t4_97 : Cond.code yX3_fewestChanges prog_5_method_13_code 6 (some .int) ∈ Tb := tb4 (i := 97) (by decide +kernel) rfl
theorem t4_98 : Cond.methodLink "SewnYear$Sewing" 129 yX3_changesFrom ∈ Tb := tb4 (i := 98) (by decide +kernel) rfl
theorem t4_99 : Cond.instanceMethod yX3_changesFrom ∈ Tb := tb4 (i := 99) (by decide +kernel) rfl
theorem t4_100 : Cond.selects "SewnYear$Sewing" yX3_changesFrom yX3_changesFrom ∈ Tb := tb4 (i := 100) (by decide +kernel) rfl
theorem t4_101 : Cond.code yX3_changesFrom prog_5_method_15_code 6 (some .int) ∈ Tb := tb4 (i := 101) (by decide +kernel) rfl
theorem t4_102 : Cond.methodLink "SewnYear$Sewing" 133 yX3_layThreaded ∈ Tb := tb4 (i := 102) (by decide +kernel) rfl
theorem t4_103 : Cond.instanceMethod yX3_layThreaded ∈ Tb := tb4 (i := 103) (by decide +kernel) rfl
theorem t4_104 : Cond.selects "SewnYear$Sewing" yX3_layThreaded yX3_layThreaded ∈ Tb := tb4 (i := 104) (by decide +kernel) rfl
theorem t4_105 : Cond.code yX3_layThreaded prog_5_method_14_code 7 (none : Option Jvm.ClassFile.FieldType) ∈ Tb := tb4 (i := 105) (by decide +kernel) rfl
theorem t4_106 : Cond.methodLink "SewnYearLaw" 59 yX9_sewn ∈ Tb := tb4 (i := 106) (by decide +kernel) rfl
theorem t4_107 : Cond.instanceMethod yX9_sewn ∈ Tb := tb4 (i := 107) (by decide +kernel) rfl
theorem t4_108 : Cond.selects "SewnYear" yX9_sewn yX9_sewn ∈ Tb := tb4 (i := 108) (by decide +kernel) rfl
theorem t4_109 : Cond.code yX9_sewn prog_1_method_12_code 4 (some .int) ∈ Tb := tb4 (i := 109) (by decide +kernel) rfl
theorem t4_110 : Cond.methodLink "SewnYear" 147 yX3_longest ∈ Tb := tb4 (i := 110) (by decide +kernel) rfl
theorem t4_111 : Cond.instanceMethod yX3_longest ∈ Tb := tb4 (i := 111) (by decide +kernel) rfl
theorem t4_112 : Cond.selects "SewnYear$Sewing" yX3_longest yX3_longest ∈ Tb := tb4 (i := 112) (by decide +kernel) rfl
theorem t4_113 : Cond.code yX3_longest prog_5_method_16_code 7 (some .int) ∈ Tb := tb4 (i := 113) (by decide +kernel) rfl
theorem t4_114 : Cond.methodLink "SewnYear$Sewing" 100 yJ9_max_7cf53 ∈ Tb := tb4 (i := 114) (by decide +kernel) rfl
theorem t4_115 : Cond.methodLink "SewnYearLaw" 63 yX9_parted ∈ Tb := tb4 (i := 115) (by decide +kernel) rfl
theorem t4_116 : Cond.instanceMethod yX9_parted ∈ Tb := tb4 (i := 116) (by decide +kernel) rfl
theorem t4_117 : Cond.selects "SewnYear" yX9_parted yX9_parted ∈ Tb := tb4 (i := 117) (by decide +kernel) rfl
theorem t4_118 : Cond.code yX9_parted prog_1_method_13_code 10 (some .int) ∈ Tb := tb4 (i := 118) (by decide +kernel) rfl
theorem t4_119 : Cond.methodLink "SewnYear" 153 yX0_hasSeam ∈ Tb := tb4 (i := 119) (by decide +kernel) rfl
theorem t4_120 : Cond.constant "SewnYear" 157 (1000000) ∈ Tb := tb4 (i := 120) (by decide +kernel) rfl
theorem t4_121 : Cond.methodLink "SewnYear" 158 yX0_cut ∈ Tb := tb4 (i := 121) (by decide +kernel) rfl
theorem t4_122 : Cond.instanceMethod yX0_cut ∈ Tb := tb4 (i := 122) (by decide +kernel) rfl
theorem t4_123 : Cond.selects "SewnYear$Coat" yX0_cut yX0_cut ∈ Tb := tb4 (i := 123) (by decide +kernel) rfl
theorem t4_124 : Cond.code yX0_cut prog_2_method_12_code 6 (some .int) ∈ Tb := tb4 (i := 124) (by decide +kernel) rfl
theorem t4_125 : Cond.methodLink "SewnYearLaw" 68 yX9_town ∈ Tb := tb4 (i := 125) (by decide +kernel) rfl
theorem t4_126 : Cond.instanceMethod yX9_town ∈ Tb := tb4 (i := 126) (by decide +kernel) rfl
theorem t4_127 : Cond.selects "SewnYear" yX9_town yX9_town ∈ Tb := tb4 (i := 127) (by decide +kernel) rfl
theorem t4_128 : Cond.code yX9_town prog_1_method_14_code 4 (some .int) ∈ Tb := tb4 (i := 128) (by decide +kernel) rfl
theorem t4_129 : Cond.methodLink "SewnYear" 161 yX9_townAt ∈ Tb := tb4 (i := 129) (by decide +kernel) rfl
theorem t4_131 : Cond.instanceMethod yX9_townAt ∈ Tb := tb4 (i := 131) (by decide +kernel) rfl
theorem t4_132 : Cond.code yX9_townAt prog_1_method_34_code 2 (some (.object "SewnYear$Town")) ∈ Tb := tb4 (i := 132) (by decide +kernel) rfl
theorem t4_133 : Cond.methodLink "SewnYear" 165 yX6_tell ∈ Tb := tb4 (i := 133) (by decide +kernel) rfl
theorem t4_134 : Cond.instanceMethod yX6_tell ∈ Tb := tb4 (i := 134) (by decide +kernel) rfl
theorem t4_135 : Cond.selects "SewnYear$Town" yX6_tell yX6_tell ∈ Tb := tb4 (i := 135) (by decide +kernel) rfl
theorem t4_136 : Cond.code yX6_tell prog_8_method_6_code 3 (some .int) ∈ Tb := tb4 (i := 136) (by decide +kernel) rfl
theorem t4_137 : Cond.methodLink "SewnYear$Town" 58 yX6_hasWearer ∈ Tb := tb4 (i := 137) (by decide +kernel) rfl
theorem t4_138 : Cond.instanceMethod yX6_hasWearer ∈ Tb := tb4 (i := 138) (by decide +kernel) rfl
theorem t4_139 : Cond.selects "SewnYear$Town" yX6_hasWearer yX6_hasWearer ∈ Tb := tb4 (i := 139) (by decide +kernel) rfl
theorem t4_140 : Cond.code yX6_hasWearer prog_8_method_5_code 2 (some .boolean) ∈ Tb := tb4 (i := 140) (by decide +kernel) rfl
theorem t4_141 : Cond.methodLink "SewnYearLaw" 72 yX9_done ∈ Tb := tb4 (i := 141) (by decide +kernel) rfl
theorem t4_142 : Cond.instanceMethod yX9_done ∈ Tb := tb4 (i := 142) (by decide +kernel) rfl
theorem t4_143 : Cond.selects "SewnYear" yX9_done yX9_done ∈ Tb := tb4 (i := 143) (by decide +kernel) rfl
theorem t4_144 : Cond.code yX9_done prog_1_method_15_code 8 (some .int) ∈ Tb := tb4 (i := 144) (by decide +kernel) rfl
theorem t4_145 : Cond.methodLink "SewnYear" 174 yX7_begin ∈ Tb := tb4 (i := 145) (by decide +kernel) rfl
theorem t4_146 : Cond.instanceMethod yX7_begin ∈ Tb := tb4 (i := 146) (by decide +kernel) rfl
theorem t4_147 : Cond.selects "SewnYear$Walk" yX7_begin yX7_begin ∈ Tb := tb4 (i := 147) (by decide +kernel) rfl
theorem t4_148 : Cond.code yX7_begin prog_9_method_2_code 5 (none : Option Jvm.ClassFile.FieldType) ∈ Tb := tb4 (i := 148) (by decide +kernel) rfl
theorem t4_149 : Cond.methodLink "SewnYear$Walk" 50 yX6_daysOfSewing ∈ Tb := tb4 (i := 149) (by decide +kernel) rfl
theorem t4_150 : Cond.instanceMethod yX6_daysOfSewing ∈ Tb := tb4 (i := 150) (by decide +kernel) rfl
theorem t4_151 : Cond.selects "SewnYear$Town" yX6_daysOfSewing yX6_daysOfSewing ∈ Tb := tb4 (i := 151) (by decide +kernel) rfl
theorem t4_152 : Cond.code yX6_daysOfSewing prog_8_method_8_code 2 (some .int) ∈ Tb := tb4 (i := 152) (by decide +kernel) rfl
theorem t4_154 : Cond.methodLink "SewnYear" 178 yX7_go ∈ Tb := tb4 (i := 154) (by decide +kernel) rfl
theorem t4_155 : Cond.instanceMethod yX7_go ∈ Tb := tb4 (i := 155) (by decide +kernel) rfl
theorem t4_156 : Cond.selects "SewnYear$Walk" yX7_go yX7_go ∈ Tb := tb4 (i := 156) (by decide +kernel) rfl
theorem t4_157 : Cond.code yX7_go prog_9_method_3_code 6 (some .boolean) ∈ Tb := tb4 (i := 157) (by decide +kernel) rfl
theorem t4_158 : Cond.methodLink "SewnYear$Walk" 54 yX6_hasWearer ∈ Tb := tb4 (i := 158) (by decide +kernel) rfl
theorem t4_159 : Cond.methodLink "SewnYear$Walk" 64 yX7_lastDone ∈ Tb := tb4 (i := 159) (by decide +kernel) rfl
theorem t4_160 : Cond.instanceMethod yX7_lastDone ∈ Tb := tb4 (i := 160) (by decide +kernel) rfl
theorem t4_161 : Cond.selects "SewnYear$Walk" yX7_lastDone yX7_lastDone ∈ Tb := tb4 (i := 161) (by decide +kernel) rfl
theorem t4_162 : Cond.code yX7_lastDone prog_9_method_6_code 1 (some .int) ∈ Tb := tb4 (i := 162) (by decide +kernel) rfl
theorem t4_163 : Cond.methodLink "SewnYear$Walk" 68 yX6_daysTo ∈ Tb := tb4 (i := 163) (by decide +kernel) rfl
theorem t4_164 : Cond.instanceMethod yX6_daysTo ∈ Tb := tb4 (i := 164) (by decide +kernel) rfl
theorem t4_165 : Cond.selects "SewnYear$Town" yX6_daysTo yX6_daysTo ∈ Tb := tb4 (i := 165) (by decide +kernel) rfl
theorem t4_166 : Cond.code yX6_daysTo prog_8_method_7_code 4 (some .int) ∈ Tb := tb4 (i := 166) (by decide +kernel) rfl
theorem t4_167 : Cond.methodLink "SewnYear$Town" 62 yJ9_abs_0f7a4 ∈ Tb := tb4 (i := 167) (by decide +kernel) rfl
theorem t4_168 : Cond.static yJ9_abs_0f7a4 ∈ Tb := tb4 (i := 168) (by decide +kernel) rfl
theorem t4_169 : Cond.code yJ9_abs_0f7a4 prog_14_method_59_code 1 (some .int) ∈ Tb := tb4 (i := 169) (by decide +kernel) rfl
theorem t4_170 : Cond.methodLink "SewnYear$Walk" 72 yX6_lastDay ∈ Tb := tb4 (i := 170) (by decide +kernel) rfl
theorem t4_171 : Cond.instanceMethod yX6_lastDay ∈ Tb := tb4 (i := 171) (by decide +kernel) rfl
theorem t4_172 : Cond.selects "SewnYear$Town" yX6_lastDay yX6_lastDay ∈ Tb := tb4 (i := 172) (by decide +kernel) rfl
theorem t4_173 : Cond.code yX6_lastDay prog_8_method_9_code 4 (some .int) ∈ Tb := tb4 (i := 173) (by decide +kernel) rfl
theorem t4_174 : Cond.methodLink "SewnYear$Town" 72 yX6_daysOfSewing ∈ Tb := tb4 (i := 174) (by decide +kernel) rfl
theorem t4_175 : Cond.methodLink "SewnYear$Walk" 76 yX7_lateSum ∈ Tb := tb4 (i := 175) (by decide +kernel) rfl
theorem t4_176 : Cond.instanceMethod yX7_lateSum ∈ Tb := tb4 (i := 176) (by decide +kernel) rfl
theorem t4_177 : Cond.selects "SewnYear$Walk" yX7_lateSum yX7_lateSum ∈ Tb := tb4 (i := 177) (by decide +kernel) rfl
theorem t4_178 : Cond.code yX7_lateSum prog_9_method_7_code 1 (some .int) ∈ Tb := tb4 (i := 178) (by decide +kernel) rfl
theorem t4_179 : Cond.methodLink "SewnYear$Walk" 82 yJ9_max_7cf53 ∈ Tb := tb4 (i := 179) (by decide +kernel) rfl
theorem t4_180 : Cond.methodLink "SewnYearLaw" 76 yX9_rounds ∈ Tb := tb4 (i := 180) (by decide +kernel) rfl
theorem t4_181 : Cond.instanceMethod yX9_rounds ∈ Tb := tb4 (i := 181) (by decide +kernel) rfl
theorem t4_182 : Cond.selects "SewnYear" yX9_rounds yX9_rounds ∈ Tb := tb4 (i := 182) (by decide +kernel) rfl
theorem t4_183 : Cond.code yX9_rounds prog_1_method_16_code 5 (some .int) ∈ Tb := tb4 (i := 183) (by decide +kernel) rfl
theorem t4_184 : Cond.methodLink "SewnYear" 184 yX7_most ∈ Tb := tb4 (i := 184) (by decide +kernel) rfl
theorem t4_185 : Cond.instanceMethod yX7_most ∈ Tb := tb4 (i := 185) (by decide +kernel) rfl
theorem t4_186 : Cond.selects "SewnYear$Walk" yX7_most yX7_most ∈ Tb := tb4 (i := 186) (by decide +kernel) rfl
theorem t4_187 : Cond.code yX7_most prog_9_method_9_code 4 (some .int) ∈ Tb := tb4 (i := 187) (by decide +kernel) rfl
theorem t4_188 : Cond.methodLink "SewnYear$Walk" 99 yX7_turn ∈ Tb := tb4 (i := 188) (by decide +kernel) rfl
theorem t4_189 : Cond.instanceMethod yX7_turn ∈ Tb := tb4 (i := 189) (by decide +kernel) rfl
theorem t4_190 : Cond.selects "SewnYear$Walk" yX7_turn yX7_turn ∈ Tb := tb4 (i := 190) (by decide +kernel) rfl
theorem t4_191 : Cond.code yX7_turn prog_9_method_5_code 5 (some .boolean) ∈ Tb := tb4 (i := 191) (by decide +kernel) rfl
theorem t4_192 : Cond.methodLink "SewnYear$Walk" 87 yX7_back ∈ Tb := tb4 (i := 192) (by decide +kernel) rfl
theorem t4_193 : Cond.instanceMethod yX7_back ∈ Tb := tb4 (i := 193) (by decide +kernel) rfl
theorem t4_194 : Cond.selects "SewnYear$Walk" yX7_back yX7_back ∈ Tb := tb4 (i := 194) (by decide +kernel) rfl
theorem t4_195 : Cond.code yX7_back prog_9_method_4_code 2 (some .int) ∈ Tb := tb4 (i := 195) (by decide +kernel) rfl
theorem t4_196 : Cond.methodLink "SewnYear$Walk" 90 yX7_go ∈ Tb := tb4 (i := 196) (by decide +kernel) rfl
theorem t4_197 : Cond.methodLink "SewnYear$Walk" 103 yX7_keepBest ∈ Tb := tb4 (i := 197) (by decide +kernel) rfl
theorem t4_198 : Cond.instanceMethod yX7_keepBest ∈ Tb := tb4 (i := 198) (by decide +kernel) rfl
theorem t4_199 : Cond.selects "SewnYear$Walk" yX7_keepBest yX7_keepBest ∈ Tb := tb4 (i := 199) (by decide +kernel) rfl
theorem t4_200 : Cond.code yX7_keepBest prog_9_method_8_code 1 (none : Option Jvm.ClassFile.FieldType) ∈ Tb := tb4 (i := 200) (by decide +kernel) rfl
theorem t4_201 : Cond.methodLink "SewnYear$Walk" 93 ⟨"java/lang/System", "arraycopy", "(Ljava/lang/Object;ILjava/lang/Object;II)V"⟩ ∈ Tb := tb4 (i := 201) (by decide +kernel) rfl
theorem t4_202 : Cond.methodLink "SewnYear" 193 yX7_soonest ∈ Tb := tb4 (i := 202) (by decide +kernel) rfl
theorem t4_203 : Cond.instanceMethod yX7_soonest ∈ Tb := tb4 (i := 203) (by decide +kernel) rfl
theorem t4_204 : Cond.selects "SewnYear$Walk" yX7_soonest yX7_soonest ∈ Tb := tb4 (i := 204) (by decide +kernel) rfl
theorem t4_205 : Cond.code yX7_soonest prog_9_method_10_code 6 (some .int) ∈ Tb := tb4 (i := 205) (by decide +kernel) rfl
theorem t4_206 : Cond.methodLink "SewnYear" 196 yX7_leastLate ∈ Tb := tb4 (i := 206) (by decide +kernel) rfl
theorem t4_207 : Cond.instanceMethod yX7_leastLate ∈ Tb := tb4 (i := 207) (by decide +kernel) rfl
theorem t4_208 : Cond.selects "SewnYear$Walk" yX7_leastLate yX7_leastLate ∈ Tb := tb4 (i := 208) (by decide +kernel) rfl
theorem t4_209 : Cond.code yX7_leastLate prog_9_method_11_code 4 (some .int) ∈ Tb := tb4 (i := 209) (by decide +kernel) rfl
theorem t4_210 : Cond.constant "SewnYear$Walk" 106 (1000000) ∈ Tb := tb4 (i := 210) (by decide +kernel) rfl
theorem t4_211 : Cond.methodLink "SewnYear" 199 yX7_lateByDue ∈ Tb := tb4 (i := 211) (by decide +kernel) rfl
theorem t4_212 : Cond.instanceMethod yX7_lateByDue ∈ Tb := tb4 (i := 212) (by decide +kernel) rfl
theorem t4_213 : Cond.selects "SewnYear$Walk" yX7_lateByDue yX7_lateByDue ∈ Tb := tb4 (i := 213) (by decide +kernel) rfl
theorem t4_214 : Cond.code yX7_lateByDue prog_9_method_12_code 5 (some .int) ∈ Tb := tb4 (i := 214) (by decide +kernel) rfl
theorem t4_215 : Cond.methodLink "SewnYearLaw" 80 yX9_cloth ∈ Tb := tb4 (i := 215) (by decide +kernel) rfl
theorem t4_216 : Cond.instanceMethod yX9_cloth ∈ Tb := tb4 (i := 216) (by decide +kernel) rfl
theorem t4_217 : Cond.selects "SewnYear" yX9_cloth yX9_cloth ∈ Tb := tb4 (i := 217) (by decide +kernel) rfl
theorem t4_218 : Cond.code yX9_cloth prog_1_method_17_code 13 (some .long) ∈ Tb := tb4 (i := 218) (by decide +kernel) rfl
theorem t4_219 : Cond.methodLink "SewnYear" 202 yX9_areMonths ∈ Tb := tb4 (i := 219) (by decide +kernel) rfl
theorem t4_220 : Cond.static yX9_areMonths ∈ Tb := tb4 (i := 220) (by decide +kernel) rfl
theorem t4_221 : Cond.code yX9_areMonths prog_1_method_38_code 2 (some .boolean) ∈ Tb := tb4 (i := 221) (by decide +kernel) rfl
theorem t4_222 : Cond.methodLink "SewnYear" 206 yX9_isCost ∈ Tb := tb4 (i := 222) (by decide +kernel) rfl
theorem t4_223 : Cond.static yX9_isCost ∈ Tb := tb4 (i := 223) (by decide +kernel) rfl
theorem t4_224 : Cond.code yX9_isCost prog_1_method_39_code 1 (some .boolean) ∈ Tb := tb4 (i := 224) (by decide +kernel) rfl
theorem t4_225 : Cond.constantLong "SewnYear" 209 (1000000) ∈ Tb := tb4 (i := 225) (by decide +kernel) rfl
theorem t4_226 : Cond.methodLink "SewnYear" 211 yX9_power ∈ Tb := tb4 (i := 226) (by decide +kernel) rfl
theorem t4_227 : Cond.static yX9_power ∈ Tb := tb4 (i := 227) (by decide +kernel) rfl
theorem t4_228 : Cond.code yX9_power prog_1_method_41_code 5 (some .long) ∈ Tb := tb4 (i := 228) (by decide +kernel) rfl
theorem t4_229 : Cond.methodLink "SewnYear" 215 yX9_weight ∈ Tb := tb4 (i := 229) (by decide +kernel) rfl
theorem t4_230 : Cond.static yX9_weight ∈ Tb := tb4 (i := 230) (by decide +kernel) rfl
theorem t4_231 : Cond.code yX9_weight prog_1_method_42_code 6 (some .long) ∈ Tb := tb4 (i := 231) (by decide +kernel) rfl
theorem t4_232 : Cond.methodLink "SewnYear" 219 yX9_inLeastTerms ∈ Tb := tb4 (i := 232) (by decide +kernel) rfl
theorem t4_233 : Cond.static yX9_inLeastTerms ∈ Tb := tb4 (i := 233) (by decide +kernel) rfl
theorem t4_234 : Cond.code yX9_inLeastTerms prog_1_method_43_code 12 (some .long) ∈ Tb := tb4 (i := 234) (by decide +kernel) rfl
theorem t4_235 : Cond.methodLink "SewnYearLaw" 85 yX9_fact ∈ Tb := tb4 (i := 235) (by decide +kernel) rfl
theorem t4_236 : Cond.instanceMethod yX9_fact ∈ Tb := tb4 (i := 236) (by decide +kernel) rfl
theorem t4_237 : Cond.selects "SewnYear" yX9_fact yX9_fact ∈ Tb := tb4 (i := 237) (by decide +kernel) rfl
theorem t4_238 : Cond.code yX9_fact prog_1_method_18_code 5 (some .int) ∈ Tb := tb4 (i := 238) (by decide +kernel) rfl
theorem t4_239 : Cond.methodLink "SewnYear" 223 yX9_sightAt ∈ Tb := tb4 (i := 239) (by decide +kernel) rfl
theorem t5_1 : Cond.instanceMethod yX9_sightAt ∈ Tb := tb5 (i := 1) (by decide +kernel) rfl
theorem t5_2 : Cond.code yX9_sightAt prog_1_method_35_code 2 (some (.object "SewnYear$Sight")) ∈ Tb := tb5 (i := 2) (by decide +kernel) rfl
theorem t5_3 : Cond.methodLink "SewnYear" 227 yX4_tell ∈ Tb := tb5 (i := 3) (by decide +kernel) rfl
theorem t5_4 : Cond.instanceMethod yX4_tell ∈ Tb := tb5 (i := 4) (by decide +kernel) rfl
theorem t5_5 : Cond.selects "SewnYear$Sight" yX4_tell yX4_tell ∈ Tb := tb5 (i := 5) (by decide +kernel) rfl
theorem t5_6 : Cond.code yX4_tell prog_6_method_4_code 3 (some .int) ∈ Tb := tb5 (i := 6) (by decide +kernel) rfl
theorem t5_7 : Cond.methodLink "SewnYearLaw" 89 yX9_fits ∈ Tb := tb5 (i := 7) (by decide +kernel) rfl
theorem t5_8 : Cond.instanceMethod yX9_fits ∈ Tb := tb5 (i := 8) (by decide +kernel) rfl
theorem t5_9 : Cond.selects "SewnYear" yX9_fits yX9_fits ∈ Tb := tb5 (i := 9) (by decide +kernel) rfl
theorem t5_10 : Cond.code yX9_fits prog_1_method_19_code 6 (some .long) ∈ Tb := tb5 (i := 10) (by decide +kernel) rfl
theorem t5_11 : Cond.methodLink "SewnYear" 230 yX9_seenAt ∈ Tb := tb5 (i := 11) (by decide +kernel) rfl
theorem t5_13 : Cond.instanceMethod yX9_seenAt ∈ Tb := tb5 (i := 13) (by decide +kernel) rfl
theorem t5_14 : Cond.code yX9_seenAt prog_1_method_37_code 5 (some (.object "SewnYear$Coat")) ∈ Tb := tb5 (i := 14) (by decide +kernel) rfl
theorem t5_15 : Cond.methodLink "SewnYear" 310 yX4_highestSeam ∈ Tb := tb5 (i := 15) (by decide +kernel) rfl
theorem t5_16 : Cond.instanceMethod yX4_highestSeam ∈ Tb := tb5 (i := 16) (by decide +kernel) rfl
theorem t5_17 : Cond.selects "SewnYear$Sight" yX4_highestSeam yX4_highestSeam ∈ Tb := tb5 (i := 17) (by decide +kernel) rfl
theorem t5_18 : Cond.code yX4_highestSeam prog_6_method_5_code 3 (some .int) ∈ Tb := tb5 (i := 18) (by decide +kernel) rfl
theorem t5_19 : Cond.methodLink "SewnYear$Sight" 31 yJ9_max_7cf53 ∈ Tb := tb5 (i := 19) (by decide +kernel) rfl
theorem t5_20 : Cond.methodLink "SewnYear" 313 yX3_see ∈ Tb := tb5 (i := 20) (by decide +kernel) rfl
theorem t5_21 : Cond.instanceMethod yX3_see ∈ Tb := tb5 (i := 21) (by decide +kernel) rfl
theorem t5_22 : Cond.selects "SewnYear$Sewing" yX3_see yX3_see ∈ Tb := tb5 (i := 22) (by decide +kernel) rfl
theorem t5_23 : Cond.code yX3_see prog_5_method_3_code 5 (none : Option Jvm.ClassFile.FieldType) ∈ Tb := tb5 (i := 23) (by decide +kernel) rfl
theorem t5_24 : Cond.methodLink "SewnYear" 234 yX3_holds ∈ Tb := tb5 (i := 24) (by decide +kernel) rfl
theorem t5_25 : Cond.instanceMethod yX3_holds ∈ Tb := tb5 (i := 25) (by decide +kernel) rfl
theorem t5_26 : Cond.selects "SewnYear$Sewing" yX3_holds yX3_holds ∈ Tb := tb5 (i := 26) (by decide +kernel) rfl
theorem t5_27 : Cond.code yX3_holds prog_5_method_6_code 5 (some .int) ∈ Tb := tb5 (i := 27) (by decide +kernel) rfl
theorem t5_28 : Cond.methodLink "SewnYear$Sewing" 87 yX0_hasSeam ∈ Tb := tb5 (i := 28) (by decide +kernel) rfl
theorem t5_29 : Cond.methodLink "SewnYear$Sewing" 91 yX3_ways ∈ Tb := tb5 (i := 29) (by decide +kernel) rfl
theorem t5_30 : Cond.methodLink "SewnYearLaw" 94 yX9_sure ∈ Tb := tb5 (i := 30) (by decide +kernel) rfl
theorem t5_31 : Cond.instanceMethod yX9_sure ∈ Tb := tb5 (i := 31) (by decide +kernel) rfl
theorem t5_32 : Cond.selects "SewnYear" yX9_sure yX9_sure ∈ Tb := tb5 (i := 32) (by decide +kernel) rfl
theorem t5_33 : Cond.code yX9_sure prog_1_method_20_code 6 (some .int) ∈ Tb := tb5 (i := 33) (by decide +kernel) rfl
theorem t5_34 : Cond.methodLink "SewnYear" 237 yX3_bestAsked ∈ Tb := tb5 (i := 34) (by decide +kernel) rfl
theorem t5_35 : Cond.instanceMethod yX3_bestAsked ∈ Tb := tb5 (i := 35) (by decide +kernel) rfl
theorem t5_36 : Cond.selects "SewnYear$Sewing" yX3_bestAsked yX3_bestAsked ∈ Tb := tb5 (i := 36) (by decide +kernel) rfl
theorem t5_37 : Cond.code yX3_bestAsked prog_5_method_8_code 9 (some .int) ∈ Tb := tb5 (i := 37) (by decide +kernel) rfl
theorem t5_38 : Cond.methodLink "SewnYear" 240 yX3_surelyAt ∈ Tb := tb5 (i := 38) (by decide +kernel) rfl
theorem t5_39 : Cond.instanceMethod yX3_surelyAt ∈ Tb := tb5 (i := 39) (by decide +kernel) rfl
theorem t5_40 : Cond.selects "SewnYear$Sewing" yX3_surelyAt yX3_surelyAt ∈ Tb := tb5 (i := 40) (by decide +kernel) rfl
theorem t5_41 : Cond.code yX3_surelyAt prog_5_method_7_code 4 (some .int) ∈ Tb := tb5 (i := 41) (by decide +kernel) rfl
theorem t5_42 : Cond.methodLink "SewnYear$Sewing" 95 yX3_holds ∈ Tb := tb5 (i := 42) (by decide +kernel) rfl
theorem t5_43 : Cond.methodLink "SewnYearLaw" 98 yX9_drawn ∈ Tb := tb5 (i := 43) (by decide +kernel) rfl
theorem t5_44 : Cond.instanceMethod yX9_drawn ∈ Tb := tb5 (i := 44) (by decide +kernel) rfl
theorem t5_45 : Cond.selects "SewnYear" yX9_drawn yX9_drawn ∈ Tb := tb5 (i := 45) (by decide +kernel) rfl
theorem t5_46 : Cond.code yX9_drawn prog_1_method_21_code 6 (some .int) ∈ Tb := tb5 (i := 46) (by decide +kernel) rfl
theorem t5_47 : Cond.methodLink "SewnYear" 243 yX8_draw ∈ Tb := tb5 (i := 47) (by decide +kernel) rfl
theorem t5_48 : Cond.instanceMethod yX8_draw ∈ Tb := tb5 (i := 48) (by decide +kernel) rfl
theorem t5_49 : Cond.selects "SewnYear$Wear" yX8_draw yX8_draw ∈ Tb := tb5 (i := 49) (by decide +kernel) rfl
theorem t5_50 : Cond.code yX8_draw prog_10_method_4_code 6 (none : Option Jvm.ClassFile.FieldType) ∈ Tb := tb5 (i := 50) (by decide +kernel) rfl
theorem t5_51 : Cond.methodLink "SewnYear$Wear" 78 yX8_next ∈ Tb := tb5 (i := 51) (by decide +kernel) rfl
theorem t5_52 : Cond.instanceMethod yX8_next ∈ Tb := tb5 (i := 52) (by decide +kernel) rfl
theorem t5_53 : Cond.selects "SewnYear$Wear" yX8_next yX8_next ∈ Tb := tb5 (i := 53) (by decide +kernel) rfl
theorem t5_54 : Cond.code yX8_next prog_10_method_5_code 2 (some .int) ∈ Tb := tb5 (i := 54) (by decide +kernel) rfl
theorem t5_55 : Cond.constant "SewnYear$Wear" 85 (1103515245) ∈ Tb := tb5 (i := 55) (by decide +kernel) rfl
theorem t5_56 : Cond.methodLink "SewnYearLaw" 102 yX9_under ∈ Tb := tb5 (i := 56) (by decide +kernel) rfl
theorem t5_57 : Cond.instanceMethod yX9_under ∈ Tb := tb5 (i := 57) (by decide +kernel) rfl
theorem t5_58 : Cond.selects "SewnYear" yX9_under yX9_under ∈ Tb := tb5 (i := 58) (by decide +kernel) rfl
theorem t5_59 : Cond.code yX9_under prog_1_method_22_code 5 (some .int) ∈ Tb := tb5 (i := 59) (by decide +kernel) rfl
theorem t5_60 : Cond.methodLink "SewnYear" 247 yX0_stitchesOf ∈ Tb := tb5 (i := 60) (by decide +kernel) rfl
theorem t5_61 : Cond.methodLink "SewnYear" 250 yX9_begun ∈ Tb := tb5 (i := 61) (by decide +kernel) rfl
theorem t5_62 : Cond.methodLink "SewnYearLaw" 106 yX9_hands ∈ Tb := tb5 (i := 62) (by decide +kernel) rfl
theorem t5_63 : Cond.instanceMethod yX9_hands ∈ Tb := tb5 (i := 63) (by decide +kernel) rfl
theorem t5_64 : Cond.selects "SewnYear" yX9_hands yX9_hands ∈ Tb := tb5 (i := 64) (by decide +kernel) rfl
theorem t5_65 : Cond.code yX9_hands prog_1_method_23_code 4 (some .int) ∈ Tb := tb5 (i := 65) (by decide +kernel) rfl
theorem t5_66 : Cond.methodLink "SewnYear" 253 yX3_daysOfTailors ∈ Tb := tb5 (i := 66) (by decide +kernel) rfl
theorem t5_67 : Cond.instanceMethod yX3_daysOfTailors ∈ Tb := tb5 (i := 67) (by decide +kernel) rfl
theorem t5_68 : Cond.selects "SewnYear$Sewing" yX3_daysOfTailors yX3_daysOfTailors ∈ Tb := tb5 (i := 68) (by decide +kernel) rfl
theorem t5_69 : Cond.code yX3_daysOfTailors prog_5_method_17_code 7 (some .int) ∈ Tb := tb5 (i := 69) (by decide +kernel) rfl
theorem t5_70 : Cond.methodLink "SewnYear$Sewing" 143 yX3_readyOn ∈ Tb := tb5 (i := 70) (by decide +kernel) rfl
theorem t5_71 : Cond.instanceMethod yX3_readyOn ∈ Tb := tb5 (i := 71) (by decide +kernel) rfl
theorem t5_72 : Cond.selects "SewnYear$Sewing" yX3_readyOn yX3_readyOn ∈ Tb := tb5 (i := 72) (by decide +kernel) rfl
theorem t5_73 : Cond.code yX3_readyOn prog_5_method_18_code 5 (some .int) ∈ Tb := tb5 (i := 73) (by decide +kernel) rfl
theorem t5_74 : Cond.methodLink "SewnYearLaw" 110 yX9_spools ∈ Tb := tb5 (i := 74) (by decide +kernel) rfl
theorem t5_75 : Cond.instanceMethod yX9_spools ∈ Tb := tb5 (i := 75) (by decide +kernel) rfl
theorem t5_76 : Cond.selects "SewnYear" yX9_spools yX9_spools ∈ Tb := tb5 (i := 76) (by decide +kernel) rfl
theorem t5_77 : Cond.code yX9_spools prog_1_method_24_code 6 (some .int) ∈ Tb := tb5 (i := 77) (by decide +kernel) rfl
theorem t5_78 : Cond.methodLink "SewnYear" 256 yX0_longestSeam ∈ Tb := tb5 (i := 78) (by decide +kernel) rfl
theorem t5_79 : Cond.instanceMethod yX0_longestSeam ∈ Tb := tb5 (i := 79) (by decide +kernel) rfl
theorem t5_80 : Cond.selects "SewnYear$Coat" yX0_longestSeam yX0_longestSeam ∈ Tb := tb5 (i := 80) (by decide +kernel) rfl
theorem t5_81 : Cond.code yX0_longestSeam prog_2_method_9_code 3 (some .int) ∈ Tb := tb5 (i := 81) (by decide +kernel) rfl
theorem t5_82 : Cond.methodLink "SewnYear$Coat" 50 yJ9_max_7cf53 ∈ Tb := tb5 (i := 82) (by decide +kernel) rfl
theorem t5_83 : Cond.methodLink "SewnYear" 259 yX0_seamsOf ∈ Tb := tb5 (i := 83) (by decide +kernel) rfl
theorem t5_84 : Cond.instanceMethod yX0_seamsOf ∈ Tb := tb5 (i := 84) (by decide +kernel) rfl
theorem t5_85 : Cond.selects "SewnYear$Coat" yX0_seamsOf yX0_seamsOf ∈ Tb := tb5 (i := 85) (by decide +kernel) rfl
theorem t5_86 : Cond.code yX0_seamsOf prog_2_method_8_code 4 (some .int) ∈ Tb := tb5 (i := 86) (by decide +kernel) rfl
theorem t5_87 : Cond.methodLink "SewnYear" 262 yX3_fewestSpools ∈ Tb := tb5 (i := 87) (by decide +kernel) rfl
theorem t5_88 : Cond.instanceMethod yX3_fewestSpools ∈ Tb := tb5 (i := 88) (by decide +kernel) rfl
theorem t5_89 : Cond.selects "SewnYear$Sewing" yX3_fewestSpools yX3_fewestSpools ∈ Tb := tb5 (i := 89) (by decide +kernel) rfl
theorem t5_90 : Cond.code yX3_fewestSpools prog_5_method_19_code 5 (some .int) ∈ Tb := tb5 (i := 90) (by decide +kernel) rfl
theorem t5_91 : Cond.methodLink "SewnYear$Sewing" 146 yX3_wound ∈ Tb := tb5 (i := 91) (by decide +kernel) rfl
theorem t5_92 : Cond.static yX3_wound ∈ Tb := tb5 (i := 92) (by decide +kernel) rfl
theorem t5_93 : Cond.code yX3_wound prog_5_method_20_code 4 (some .int) ∈ Tb := tb5 (i := 93) (by decide +kernel) rfl
theorem t5_94 : Cond.methodLink "SewnYearLaw" 114 yX9_grown ∈ Tb := tb5 (i := 94) (by decide +kernel) rfl
theorem t5_95 : Cond.instanceMethod yX9_grown ∈ Tb := tb5 (i := 95) (by decide +kernel) rfl
theorem t5_96 : Cond.selects "SewnYear" yX9_grown yX9_grown ∈ Tb := tb5 (i := 96) (by decide +kernel) rfl
theorem t5_97 : Cond.code yX9_grown prog_1_method_25_code 6 (some .int) ∈ Tb := tb5 (i := 97) (by decide +kernel) rfl
theorem t5_98 : Cond.methodLink "SewnYearLaw" 118 yX9_home ∈ Tb := tb5 (i := 98) (by decide +kernel) rfl
theorem t5_99 : Cond.instanceMethod yX9_home ∈ Tb := tb5 (i := 99) (by decide +kernel) rfl
theorem t5_100 : Cond.selects "SewnYear" yX9_home yX9_home ∈ Tb := tb5 (i := 100) (by decide +kernel) rfl
theorem t5_101 : Cond.code yX9_home prog_1_method_26_code 8 (some .int) ∈ Tb := tb5 (i := 101) (by decide +kernel) rfl
theorem t5_102 : Cond.methodLink "SewnYearLaw" 123 yX9_way ∈ Tb := tb5 (i := 102) (by decide +kernel) rfl
theorem t5_103 : Cond.instanceMethod yX9_way ∈ Tb := tb5 (i := 103) (by decide +kernel) rfl
theorem t5_104 : Cond.selects "SewnYear" yX9_way yX9_way ∈ Tb := tb5 (i := 104) (by decide +kernel) rfl
theorem t5_105 : Cond.code yX9_way prog_1_method_27_code 5 (some .int) ∈ Tb := tb5 (i := 105) (by decide +kernel) rfl
theorem t5_106 : Cond.methodLink "SewnYear" 268 yX6_hasWearer ∈ Tb := tb5 (i := 106) (by decide +kernel) rfl
theorem t5_107 : Cond.methodLink "SewnYear" 277 yX6_daysTo ∈ Tb := tb5 (i := 107) (by decide +kernel) rfl
theorem t5_108 : Cond.methodLink "SewnYearLaw" 127 yX9_enough ∈ Tb := tb5 (i := 108) (by decide +kernel) rfl
theorem t5_109 : Cond.instanceMethod yX9_enough ∈ Tb := tb5 (i := 109) (by decide +kernel) rfl
theorem t5_110 : Cond.selects "SewnYear" yX9_enough yX9_enough ∈ Tb := tb5 (i := 110) (by decide +kernel) rfl
theorem t5_111 : Cond.code yX9_enough prog_1_method_28_code 8 (some .long) ∈ Tb := tb5 (i := 111) (by decide +kernel) rfl
theorem t5_112 : Cond.methodLink "SewnYearLaw" 132 yX9_count ∈ Tb := tb5 (i := 112) (by decide +kernel) rfl
theorem t5_113 : Cond.methodLink "SewnYearLaw" 136 yX9_image ∈ Tb := tb5 (i := 113) (by decide +kernel) rfl
theorem t5_114 : Cond.instanceMethod yX9_image ∈ Tb := tb5 (i := 114) (by decide +kernel) rfl
theorem t5_115 : Cond.selects "SewnYear" yX9_image yX9_image ∈ Tb := tb5 (i := 115) (by decide +kernel) rfl
theorem t5_116 : Cond.code yX9_image prog_1_method_30_code 2 (some .boolean) ∈ Tb := tb5 (i := 116) (by decide +kernel) rfl
theorem t5_117 : Cond.methodLink "SewnYear" 284 yX5_take ∈ Tb := tb5 (i := 117) (by decide +kernel) rfl
theorem t5_118 : Cond.instanceMethod yX5_take ∈ Tb := tb5 (i := 118) (by decide +kernel) rfl
theorem t5_119 : Cond.selects "SewnYear$Told" yX5_take yX5_take ∈ Tb := tb5 (i := 119) (by decide +kernel) rfl
theorem t5_120 : Cond.code yX5_take prog_7_method_6_code 3 (none : Option Jvm.ClassFile.FieldType) ∈ Tb := tb5 (i := 120) (by decide +kernel) rfl
theorem t5_121 : Cond.methodLink "SewnYear$Told" 94 ⟨"java/lang/System", "arraycopy", "(Ljava/lang/Object;ILjava/lang/Object;II)V"⟩ ∈ Tb := tb5 (i := 121) (by decide +kernel) rfl
theorem t5_122 : Cond.methodLink "SewnYearLaw" 141 yX9_again ∈ Tb := tb5 (i := 122) (by decide +kernel) rfl
theorem t5_123 : Cond.instanceMethod yX9_again ∈ Tb := tb5 (i := 123) (by decide +kernel) rfl
theorem t5_124 : Cond.selects "SewnYear" yX9_again yX9_again ∈ Tb := tb5 (i := 124) (by decide +kernel) rfl
theorem t5_125 : Cond.code yX9_again prog_1_method_31_code 2 (some .boolean) ∈ Tb := tb5 (i := 125) (by decide +kernel) rfl
theorem t5_126 : Cond.classLink "SewnYearLaw" 10 "SewnYearModel" ∈ Tb := tb5 (i := 126) (by decide +kernel) rfl
theorem t5_127 : Cond.instantiable "SewnYearModel" 58 ∈ Tb := tb5 (i := 127) (by decide +kernel) rfl
theorem t5_128 : Cond.methodLink "SewnYearLaw" 12 yX10_init ∈ Tb := tb5 (i := 128) (by decide +kernel) rfl
theorem t5_129 : Cond.instanceMethod yX10_init ∈ Tb := tb5 (i := 129) (by decide +kernel) rfl
theorem t5_130 : Cond.code yX10_init prog_12_method_1_code 1 (none : Option Jvm.ClassFile.FieldType) ∈ Tb := tb5 (i := 130) (by decide +kernel) rfl
theorem t5_131 : Cond.methodLink "SewnYearModel" 1 ⟨"java/lang/Object", "<init>", "()V"⟩ ∈ Tb := tb5 (i := 131) (by decide +kernel) rfl
theorem t5_132 : Cond.fieldLink "SewnYearModel" 94 "SewnYearModel" "code" "I" ∈ Tb := tb5 (i := 132) (by decide +kernel) rfl
theorem t5_133 : Cond.fieldLink "SewnYearModel" 7 "SewnYearModel" "tape" "[B" ∈ Tb := tb5 (i := 133) (by decide +kernel) rfl
theorem t5_134 : Cond.fieldLink "SewnYearModel" 13 "SewnYearModel" "size" "[I" ∈ Tb := tb5 (i := 134) (by decide +kernel) rfl
theorem t5_135 : Cond.fieldLink "SewnYearModel" 17 "SewnYearModel" "fault" "[I" ∈ Tb := tb5 (i := 135) (by decide +kernel) rfl
theorem t5_136 : Cond.fieldLink "SewnYearModel" 20 "SewnYearModel" "faultPlace" "[I" ∈ Tb := tb5 (i := 136) (by decide +kernel) rfl
theorem t5_137 : Cond.fieldLink "SewnYearModel" 23 "SewnYearModel" "many" "[I" ∈ Tb := tb5 (i := 137) (by decide +kernel) rfl
theorem t5_138 : Cond.fieldLink "SewnYearModel" 26 "SewnYearModel" "coats" "[I" ∈ Tb := tb5 (i := 138) (by decide +kernel) rfl
theorem t5_139 : Cond.fieldLink "SewnYearModel" 29 "SewnYearModel" "lives" "[I" ∈ Tb := tb5 (i := 139) (by decide +kernel) rfl
theorem t5_140 : Cond.fieldLink "SewnYearModel" 32 "SewnYearModel" "towns" "[I" ∈ Tb := tb5 (i := 140) (by decide +kernel) rfl
theorem t5_141 : Cond.fieldLink "SewnYearModel" 35 "SewnYearModel" "sights" "[I" ∈ Tb := tb5 (i := 141) (by decide +kernel) rfl
theorem t5_142 : Cond.fieldLink "SewnYearModel" 114 "SewnYearModel" "reached" "I" ∈ Tb := tb5 (i := 142) (by decide +kernel) rfl
theorem t5_143 : Cond.fieldLink "SewnYearModel" 117 "SewnYearModel" "length" "I" ∈ Tb := tb5 (i := 143) (by decide +kernel) rfl
theorem t5_144 : Cond.fieldLink "SewnYearModel" 124 "SewnYearModel" "begins" "I" ∈ Tb := tb5 (i := 144) (by decide +kernel) rfl
theorem t5_145 : Cond.fieldLink "SewnYearModel" 131 "SewnYearModel" "sort" "I" ∈ Tb := tb5 (i := 145) (by decide +kernel) rfl
theorem t5_146 : Cond.fieldLink "SewnYearModel" 134 "SewnYearModel" "value" "I" ∈ Tb := tb5 (i := 146) (by decide +kernel) rfl
theorem t5_147 : Cond.fieldLink "SewnYearModel" 127 "SewnYearModel" "word" "J" ∈ Tb := tb5 (i := 147) (by decide +kernel) rfl
theorem t5_148 : Cond.fieldLink "SewnYearModel" 137 "SewnYearModel" "wrongAt" "I" ∈ Tb := tb5 (i := 148) (by decide +kernel) rfl
theorem t5_149 : Cond.fieldLink "SewnYearModel" 140 "SewnYearModel" "laterFault" "I" ∈ Tb := tb5 (i := 149) (by decide +kernel) rfl
theorem t5_150 : Cond.fieldLink "SewnYearModel" 143 "SewnYearModel" "laterPlace" "I" ∈ Tb := tb5 (i := 150) (by decide +kernel) rfl
theorem t5_151 : Cond.fieldLink "SewnYearModel" 38 "SewnYearModel" "told" "[I" ∈ Tb := tb5 (i := 151) (by decide +kernel) rfl
theorem t5_152 : Cond.fieldLink "SewnYearModel" 41 "SewnYearModel" "read" "[I" ∈ Tb := tb5 (i := 152) (by decide +kernel) rfl
theorem t5_153 : Cond.fieldLink "SewnYearModel" 168 "SewnYearModel" "farOne" "I" ∈ Tb := tb5 (i := 153) (by decide +kernel) rfl
theorem t5_154 : Cond.fieldLink "SewnYearModel" 154 "SewnYearModel" "good" "Z" ∈ Tb := tb5 (i := 154) (by decide +kernel) rfl
theorem t5_155 : Cond.fieldLink "SewnYearModel" 274 "SewnYearModel" "coat" "I" ∈ Tb := tb5 (i := 155) (by decide +kernel) rfl
theorem t5_156 : Cond.fieldLink "SewnYearModel" 281 "SewnYearModel" "seams" "I" ∈ Tb := tb5 (i := 156) (by decide +kernel) rfl
theorem t5_157 : Cond.fieldLink "SewnYearModel" 284 "SewnYearModel" "pace" "I" ∈ Tb := tb5 (i := 157) (by decide +kernel) rfl
theorem t5_158 : Cond.fieldLink "SewnYearModel" 293 "SewnYearModel" "life" "I" ∈ Tb := tb5 (i := 158) (by decide +kernel) rfl
theorem t5_159 : Cond.fieldLink "SewnYearModel" 44 "SewnYearModel" "sewn" "[I" ∈ Tb := tb5 (i := 159) (by decide +kernel) rfl
theorem t5_160 : Cond.fieldLink "SewnYearModel" 47 "SewnYearModel" "fits" "[I" ∈ Tb := tb5 (i := 160) (by decide +kernel) rfl
theorem t5_161 : Cond.fieldLink "SewnYearModel" 305 "SewnYearModel" "day" "I" ∈ Tb := tb5 (i := 161) (by decide +kernel) rfl
theorem t5_162 : Cond.fieldLink "SewnYearModel" 308 "SewnYearModel" "girth" "I" ∈ Tb := tb5 (i := 162) (by decide +kernel) rfl
theorem t5_163 : Cond.fieldLink "SewnYearModel" 311 "SewnYearModel" "today" "I" ∈ Tb := tb5 (i := 163) (by decide +kernel) rfl
theorem t5_164 : Cond.fieldLink "SewnYearModel" 314 "SewnYearModel" "bursts" "I" ∈ Tb := tb5 (i := 164) (by decide +kernel) rfl
theorem t5_165 : Cond.fieldLink "SewnYearModel" 317 "SewnYearModel" "waste" "I" ∈ Tb := tb5 (i := 165) (by decide +kernel) rfl
theorem t5_166 : Cond.fieldLink "SewnYearModel" 50 "SewnYearModel" "rest" "[J" ∈ Tb := tb5 (i := 166) (by decide +kernel) rfl
theorem t5_167 : Cond.fieldLink "SewnYearModel" 362 "SewnYearModel" "all" "I" ∈ Tb := tb5 (i := 167) (by decide +kernel) rfl
theorem t5_168 : Cond.fieldLink "SewnYearModel" 54 "SewnYearModel" "least" "[I" ∈ Tb := tb5 (i := 168) (by decide +kernel) rfl
theorem t5_169 : Cond.fieldLink "SewnYearModel" 57 "SewnYearModel" "changes" "[I" ∈ Tb := tb5 (i := 169) (by decide +kernel) rfl
theorem t5_170 : Cond.fieldLink "SewnYearModel" 60 "SewnYearModel" "reach" "[I" ∈ Tb := tb5 (i := 170) (by decide +kernel) rfl
theorem t5_171 : Cond.fieldLink "SewnYearModel" 423 "SewnYearModel" "town" "I" ∈ Tb := tb5 (i := 171) (by decide +kernel) rfl
theorem t5_172 : Cond.fieldLink "SewnYearModel" 429 "SewnYearModel" "wearers" "I" ∈ Tb := tb5 (i := 172) (by decide +kernel) rfl
theorem t5_173 : Cond.fieldLink "SewnYearModel" 432 "SewnYearModel" "startX" "I" ∈ Tb := tb5 (i := 173) (by decide +kernel) rfl
theorem t5_174 : Cond.fieldLink "SewnYearModel" 435 "SewnYearModel" "startY" "I" ∈ Tb := tb5 (i := 174) (by decide +kernel) rfl
theorem t5_175 : Cond.fieldLink "SewnYearModel" 63 "SewnYearModel" "row" "[I" ∈ Tb := tb5 (i := 175) (by decide +kernel) rfl
theorem t5_176 : Cond.fieldLink "SewnYearModel" 66 "SewnYearModel" "ends" "[I" ∈ Tb := tb5 (i := 176) (by decide +kernel) rfl
theorem t5_177 : Cond.fieldLink "SewnYearModel" 460 "SewnYearModel" "most" "I" ∈ Tb := tb5 (i := 177) (by decide +kernel) rfl
theorem t5_178 : Cond.fieldLink "SewnYearModel" 463 "SewnYearModel" "soon" "I" ∈ Tb := tb5 (i := 178) (by decide +kernel) rfl
theorem t5_179 : Cond.fieldLink "SewnYearModel" 466 "SewnYearModel" "late" "I" ∈ Tb := tb5 (i := 179) (by decide +kernel) rfl
theorem t5_180 : Cond.fieldLink "SewnYearModel" 69 "SewnYearModel" "mostRow" "[I" ∈ Tb := tb5 (i := 180) (by decide +kernel) rfl
theorem t5_181 : Cond.fieldLink "SewnYearModel" 72 "SewnYearModel" "soonRow" "[I" ∈ Tb := tb5 (i := 181) (by decide +kernel) rfl
theorem t5_182 : Cond.fieldLink "SewnYearModel" 505 "SewnYearModel" "sight" "I" ∈ Tb := tb5 (i := 182) (by decide +kernel) rfl
theorem t5_183 : Cond.fieldLink "SewnYearModel" 75 "SewnYearModel" "come" "[J" ∈ Tb := tb5 (i := 183) (by decide +kernel) rfl
theorem t5_184 : Cond.fieldLink "SewnYearModel" 78 "SewnYearModel" "goOn" "[J" ∈ Tb := tb5 (i := 184) (by decide +kernel) rfl
theorem t5_185 : Cond.fieldLink "SewnYearModel" 536 "SewnYearModel" "seed" "I" ∈ Tb := tb5 (i := 185) (by decide +kernel) rfl
theorem t5_186 : Cond.fieldLink "SewnYearModel" 81 "SewnYearModel" "doneOn" "[I" ∈ Tb := tb5 (i := 186) (by decide +kernel) rfl
theorem t5_187 : Cond.fieldLink "SewnYearModel" 84 "SewnYearModel" "freeOn" "[I" ∈ Tb := tb5 (i := 187) (by decide +kernel) rfl
theorem t5_188 : Cond.fieldLink "SewnYearModel" 87 "SewnYearModel" "fewest" "[I" ∈ Tb := tb5 (i := 188) (by decide +kernel) rfl
theorem t5_189 : Cond.fieldLink "SewnYearModel" 90 "SewnYearModel" "kept" "[Z" ∈ Tb := tb5 (i := 189) (by decide +kernel) rfl
theorem t6_67 : Cond.arrayClass .long ∈ Tb := tb6 (i := 67) (by decide +kernel) rfl
theorem t6_68 : Cond.arrayClass .boolean ∈ Tb := tb6 (i := 68) (by decide +kernel) rfl
theorem t6_69 : Cond.methodLink "SewnYearLaw" 17 yX10_feed ∈ Tb := tb6 (i := 69) (by decide +kernel) rfl
theorem t6_70 : Cond.instanceMethod yX10_feed ∈ Tb := tb6 (i := 70) (by decide +kernel) rfl
theorem t6_71 : Cond.selects "SewnYearModel" yX10_feed yX10_feed ∈ Tb := tb6 (i := 71) (by decide +kernel) rfl
theorem t6_72 : Cond.code yX10_feed prog_12_method_12_code 6 (some .int) ∈ Tb := tb6 (i := 72) (by decide +kernel) rfl
theorem t6_73 : Cond.methodLink "SewnYearModel" 110 yX10_four ∈ Tb := tb6 (i := 73) (by decide +kernel) rfl
theorem t6_75 : Cond.instanceMethod yX10_four ∈ Tb := tb6 (i := 75) (by decide +kernel) rfl
theorem t6_76 : Cond.code yX10_four prog_12_method_13_code 3 (none : Option Jvm.ClassFile.FieldType) ∈ Tb := tb6 (i := 76) (by decide +kernel) rfl
theorem t6_77 : Cond.methodLink "SewnYearLaw" 22 yX10_end ∈ Tb := tb6 (i := 77) (by decide +kernel) rfl
theorem t6_78 : Cond.instanceMethod yX10_end ∈ Tb := tb6 (i := 78) (by decide +kernel) rfl
theorem t6_79 : Cond.selects "SewnYearModel" yX10_end yX10_end ∈ Tb := tb6 (i := 79) (by decide +kernel) rfl
theorem t6_80 : Cond.code yX10_end prog_12_method_14_code 2 (some .int) ∈ Tb := tb6 (i := 80) (by decide +kernel) rfl
theorem t6_81 : Cond.methodLink "SewnYearModel" 106 yX10_in ∈ Tb := tb6 (i := 81) (by decide +kernel) rfl
theorem t6_82 : Cond.static yX10_in ∈ Tb := tb6 (i := 82) (by decide +kernel) rfl
theorem t6_83 : Cond.code yX10_in prog_12_method_3_code 3 (some .boolean) ∈ Tb := tb6 (i := 83) (by decide +kernel) rfl
theorem t6_84 : Cond.methodLink "SewnYearLaw" 27 yX10_text ∈ Tb := tb6 (i := 84) (by decide +kernel) rfl
theorem t6_85 : Cond.instanceMethod yX10_text ∈ Tb := tb6 (i := 85) (by decide +kernel) rfl
theorem t6_86 : Cond.selects "SewnYearModel" yX10_text yX10_text ∈ Tb := tb6 (i := 86) (by decide +kernel) rfl
theorem t6_87 : Cond.code yX10_text prog_12_method_39_code 4 (some .int) ∈ Tb := tb6 (i := 87) (by decide +kernel) rfl
theorem t6_88 : Cond.methodLink "SewnYearModel" 265 yX10_is ∈ Tb := tb6 (i := 88) (by decide +kernel) rfl
theorem t6_90 : Cond.instanceMethod yX10_is ∈ Tb := tb6 (i := 90) (by decide +kernel) rfl
theorem t6_91 : Cond.code yX10_is prog_12_method_11_code 3 (some .boolean) ∈ Tb := tb6 (i := 91) (by decide +kernel) rfl
theorem t6_92 : Cond.methodLink "SewnYearModel" 268 yX10_readText ∈ Tb := tb6 (i := 92) (by decide +kernel) rfl
theorem t6_94 : Cond.instanceMethod yX10_readText ∈ Tb := tb6 (i := 94) (by decide +kernel) rfl
theorem t6_95 : Cond.code yX10_readText prog_12_method_36_code 3 (some .boolean) ∈ Tb := tb6 (i := 95) (by decide +kernel) rfl
theorem t6_96 : Cond.methodLink "SewnYearModel" 254 yX10_blank ∈ Tb := tb6 (i := 96) (by decide +kernel) rfl
theorem t6_98 : Cond.instanceMethod yX10_blank ∈ Tb := tb6 (i := 98) (by decide +kernel) rfl
theorem t6_99 : Cond.code yX10_blank prog_12_method_35_code 3 (none : Option Jvm.ClassFile.FieldType) ∈ Tb := tb6 (i := 99) (by decide +kernel) rfl
theorem t6_100 : Cond.methodLink "SewnYearModel" 158 yX10_token ∈ Tb := tb6 (i := 100) (by decide +kernel) rfl
theorem t6_102 : Cond.instanceMethod yX10_token ∈ Tb := tb6 (i := 102) (by decide +kernel) rfl
theorem t6_103 : Cond.code yX10_token prog_12_method_16_code 3 (none : Option Jvm.ClassFile.FieldType) ∈ Tb := tb6 (i := 103) (by decide +kernel) rfl
theorem t6_104 : Cond.methodLink "SewnYearModel" 120 yX10_see ∈ Tb := tb6 (i := 104) (by decide +kernel) rfl
theorem t6_106 : Cond.instanceMethod yX10_see ∈ Tb := tb6 (i := 106) (by decide +kernel) rfl
theorem t6_107 : Cond.code yX10_see prog_12_method_15_code 1 (some .int) ∈ Tb := tb6 (i := 107) (by decide +kernel) rfl
theorem t6_108 : Cond.methodLink "SewnYearModel" 257 yX10_lines ∈ Tb := tb6 (i := 108) (by decide +kernel) rfl
theorem t6_110 : Cond.instanceMethod yX10_lines ∈ Tb := tb6 (i := 110) (by decide +kernel) rfl
theorem t6_111 : Cond.code yX10_lines prog_12_method_34_code 4 (some .boolean) ∈ Tb := tb6 (i := 111) (by decide +kernel) rfl
theorem t6_112 : Cond.methodLink "SewnYearModel" 250 yX10_lineOf ∈ Tb := tb6 (i := 112) (by decide +kernel) rfl
theorem t6_114 : Cond.instanceMethod yX10_lineOf ∈ Tb := tb6 (i := 114) (by decide +kernel) rfl
theorem t6_115 : Cond.code yX10_lineOf prog_12_method_33_code 5 (some .boolean) ∈ Tb := tb6 (i := 115) (by decide +kernel) rfl
theorem t6_116 : Cond.methodLink "SewnYearModel" 237 yX10_coatLine ∈ Tb := tb6 (i := 116) (by decide +kernel) rfl
theorem t6_118 : Cond.instanceMethod yX10_coatLine ∈ Tb := tb6 (i := 118) (by decide +kernel) rfl
theorem t6_119 : Cond.code yX10_coatLine prog_12_method_25_code 4 (some .boolean) ∈ Tb := tb6 (i := 119) (by decide +kernel) rfl
theorem t6_120 : Cond.constantLong "SewnYearModel" 175 (1936023917) ∈ Tb := tb6 (i := 120) (by decide +kernel) rfl
theorem t6_121 : Cond.constantLong "SewnYearModel" 177 (418330731890) ∈ Tb := tb6 (i := 121) (by decide +kernel) rfl
theorem t6_122 : Cond.constantLong "SewnYearModel" 179 (444301539187) ∈ Tb := tb6 (i := 122) (by decide +kernel) rfl
theorem t6_123 : Cond.constantLong "SewnYearModel" 181 (1885430629) ∈ Tb := tb6 (i := 123) (by decide +kernel) rfl
theorem t6_124 : Cond.methodLink "SewnYearModel" 146 yX10_fails ∈ Tb := tb6 (i := 124) (by decide +kernel) rfl
theorem t6_126 : Cond.instanceMethod yX10_fails ∈ Tb := tb6 (i := 126) (by decide +kernel) rfl
theorem t6_127 : Cond.code yX10_fails prog_12_method_17_code 1 (some .boolean) ∈ Tb := tb6 (i := 127) (by decide +kernel) rfl
theorem t6_128 : Cond.methodLink "SewnYearModel" 183 yX10_full ∈ Tb := tb6 (i := 128) (by decide +kernel) rfl
theorem t6_130 : Cond.instanceMethod yX10_full ∈ Tb := tb6 (i := 130) (by decide +kernel) rfl
theorem t6_131 : Cond.code yX10_full prog_12_method_21_code 4 (none : Option Jvm.ClassFile.FieldType) ∈ Tb := tb6 (i := 131) (by decide +kernel) rfl
theorem t6_132 : Cond.methodLink "SewnYearModel" 150 yX10_later ∈ Tb := tb6 (i := 132) (by decide +kernel) rfl
theorem t6_134 : Cond.instanceMethod yX10_later ∈ Tb := tb6 (i := 134) (by decide +kernel) rfl
theorem t6_135 : Cond.code yX10_later prog_12_method_18_code 3 (none : Option Jvm.ClassFile.FieldType) ∈ Tb := tb6 (i := 135) (by decide +kernel) rfl
theorem t6_136 : Cond.methodLink "SewnYearModel" 187 yX10_plainLine ∈ Tb := tb6 (i := 136) (by decide +kernel) rfl
theorem t6_138 : Cond.instanceMethod yX10_plainLine ∈ Tb := tb6 (i := 138) (by decide +kernel) rfl
theorem t6_139 : Cond.code yX10_plainLine prog_12_method_22_code 4 (some .boolean) ∈ Tb := tb6 (i := 139) (by decide +kernel) rfl
theorem t6_140 : Cond.methodLink "SewnYearModel" 165 yX10_take ∈ Tb := tb6 (i := 140) (by decide +kernel) rfl
theorem t6_142 : Cond.instanceMethod yX10_take ∈ Tb := tb6 (i := 142) (by decide +kernel) rfl
theorem t6_143 : Cond.code yX10_take prog_12_method_20_code 4 (some .boolean) ∈ Tb := tb6 (i := 143) (by decide +kernel) rfl
theorem t6_144 : Cond.methodLink "SewnYearModel" 161 yX10_takeBut ∈ Tb := tb6 (i := 144) (by decide +kernel) rfl
theorem t6_146 : Cond.instanceMethod yX10_takeBut ∈ Tb := tb6 (i := 146) (by decide +kernel) rfl
theorem t6_147 : Cond.code yX10_takeBut prog_12_method_19_code 5 (some .boolean) ∈ Tb := tb6 (i := 147) (by decide +kernel) rfl
theorem t6_148 : Cond.methodLink "SewnYearModel" 190 yX10_seamLine ∈ Tb := tb6 (i := 148) (by decide +kernel) rfl
theorem t6_150 : Cond.instanceMethod yX10_seamLine ∈ Tb := tb6 (i := 150) (by decide +kernel) rfl
theorem t6_151 : Cond.code yX10_seamLine prog_12_method_23_code 2 (some .boolean) ∈ Tb := tb6 (i := 151) (by decide +kernel) rfl
theorem t6_152 : Cond.methodLink "SewnYearModel" 193 yX10_afterLine ∈ Tb := tb6 (i := 152) (by decide +kernel) rfl
theorem t6_154 : Cond.instanceMethod yX10_afterLine ∈ Tb := tb6 (i := 154) (by decide +kernel) rfl
theorem t6_155 : Cond.code yX10_afterLine prog_12_method_24_code 1 (some .boolean) ∈ Tb := tb6 (i := 155) (by decide +kernel) rfl
theorem t6_156 : Cond.methodLink "SewnYearModel" 171 yX10_greater ∈ Tb := tb6 (i := 156) (by decide +kernel) rfl
theorem t6_157 : Cond.static yX10_greater ∈ Tb := tb6 (i := 157) (by decide +kernel) rfl
theorem t6_158 : Cond.code yX10_greater prog_12_method_5_code 2 (some .int) ∈ Tb := tb6 (i := 158) (by decide +kernel) rfl
theorem t6_159 : Cond.methodLink "SewnYearModel" 241 yX10_lifeLine ∈ Tb := tb6 (i := 159) (by decide +kernel) rfl
theorem t6_161 : Cond.instanceMethod yX10_lifeLine ∈ Tb := tb6 (i := 161) (by decide +kernel) rfl
theorem t6_162 : Cond.code yX10_lifeLine prog_12_method_28_code 5 (some .boolean) ∈ Tb := tb6 (i := 162) (by decide +kernel) rfl
theorem t6_163 : Cond.methodLink "SewnYearModel" 208 yX10_deedBy ∈ Tb := tb6 (i := 163) (by decide +kernel) rfl
theorem t6_164 : Cond.static yX10_deedBy ∈ Tb := tb6 (i := 164) (by decide +kernel) rfl
theorem t6_165 : Cond.code yX10_deedBy prog_12_method_26_code 2 (some .int) ∈ Tb := tb6 (i := 165) (by decide +kernel) rfl
theorem t6_166 : Cond.constantLong "SewnYearModel" 196 (7562615) ∈ Tb := tb6 (i := 166) (by decide +kernel) rfl
theorem t6_167 : Cond.constantLong "SewnYearModel" 198 (129117192807275) ∈ Tb := tb6 (i := 167) (by decide +kernel) rfl
theorem t6_168 : Cond.constantLong "SewnYearModel" 200 (1952801138) ∈ Tb := tb6 (i := 168) (by decide +kernel) rfl
theorem t6_169 : Cond.constantLong "SewnYearModel" 202 (1735552887) ∈ Tb := tb6 (i := 169) (by decide +kernel) rfl
theorem t6_170 : Cond.constantLong "SewnYearModel" 204 (126892433305195) ∈ Tb := tb6 (i := 170) (by decide +kernel) rfl
theorem t6_171 : Cond.constantLong "SewnYearModel" 206 (6578553) ∈ Tb := tb6 (i := 171) (by decide +kernel) rfl
theorem t6_172 : Cond.methodLink "SewnYearModel" 212 yX10_keep ∈ Tb := tb6 (i := 172) (by decide +kernel) rfl
theorem t6_174 : Cond.instanceMethod yX10_keep ∈ Tb := tb6 (i := 174) (by decide +kernel) rfl
theorem t6_175 : Cond.code yX10_keep prog_12_method_27_code 5 (none : Option Jvm.ClassFile.FieldType) ∈ Tb := tb6 (i := 175) (by decide +kernel) rfl
theorem t6_176 : Cond.methodLink "SewnYearModel" 244 yX10_townLine ∈ Tb := tb6 (i := 176) (by decide +kernel) rfl
theorem t6_178 : Cond.instanceMethod yX10_townLine ∈ Tb := tb6 (i := 178) (by decide +kernel) rfl
theorem t6_179 : Cond.code yX10_townLine prog_12_method_31_code 4 (some .boolean) ∈ Tb := tb6 (i := 179) (by decide +kernel) rfl
theorem t6_180 : Cond.constantLong "SewnYearModel" 215 (495806932324) ∈ Tb := tb6 (i := 180) (by decide +kernel) rfl
theorem t6_181 : Cond.constantLong "SewnYearModel" 217 (469920146803) ∈ Tb := tb6 (i := 181) (by decide +kernel) rfl
theorem t6_182 : Cond.constantLong "SewnYearModel" 219 (127961729363826) ∈ Tb := tb6 (i := 182) (by decide +kernel) rfl
theorem t6_183 : Cond.constantLong "SewnYearModel" 221 (131277310289266) ∈ Tb := tb6 (i := 183) (by decide +kernel) rfl
theorem t6_184 : Cond.constantLong "SewnYearModel" 223 (1635213689) ∈ Tb := tb6 (i := 184) (by decide +kernel) rfl
theorem t6_185 : Cond.methodLink "SewnYearModel" 225 yX10_wearerLine ∈ Tb := tb6 (i := 185) (by decide +kernel) rfl
theorem t6_187 : Cond.instanceMethod yX10_wearerLine ∈ Tb := tb6 (i := 187) (by decide +kernel) rfl
theorem t6_188 : Cond.code yX10_wearerLine prog_12_method_29_code 2 (some .boolean) ∈ Tb := tb6 (i := 188) (by decide +kernel) rfl
theorem t6_189 : Cond.methodLink "SewnYearModel" 228 yX10_awayLine ∈ Tb := tb6 (i := 189) (by decide +kernel) rfl
theorem t6_191 : Cond.instanceMethod yX10_awayLine ∈ Tb := tb6 (i := 191) (by decide +kernel) rfl
theorem t6_192 : Cond.code yX10_awayLine prog_12_method_30_code 1 (some .boolean) ∈ Tb := tb6 (i := 192) (by decide +kernel) rfl
theorem t6_193 : Cond.methodLink "SewnYearModel" 247 yX10_sightLine ∈ Tb := tb6 (i := 193) (by decide +kernel) rfl
theorem t6_195 : Cond.instanceMethod yX10_sightLine ∈ Tb := tb6 (i := 195) (by decide +kernel) rfl
theorem t6_196 : Cond.code yX10_sightLine prog_12_method_32_code 5 (some .boolean) ∈ Tb := tb6 (i := 196) (by decide +kernel) rfl
theorem t6_197 : Cond.constantLong "SewnYearModel" 231 (108187649798757) ∈ Tb := tb6 (i := 197) (by decide +kernel) rfl
theorem t6_198 : Cond.constantLong "SewnYearModel" 233 (24948) ∈ Tb := tb6 (i := 198) (by decide +kernel) rfl
theorem t6_199 : Cond.constantLong "SewnYearModel" 235 (7237492) ∈ Tb := tb6 (i := 199) (by decide +kernel) rfl
theorem t6_200 : Cond.methodLink "SewnYearModel" 271 yX10_storeAll ∈ Tb := tb6 (i := 200) (by decide +kernel) rfl
theorem t6_202 : Cond.instanceMethod yX10_storeAll ∈ Tb := tb6 (i := 202) (by decide +kernel) rfl
theorem t6_203 : Cond.code yX10_storeAll prog_12_method_38_code 3 (none : Option Jvm.ClassFile.FieldType) ∈ Tb := tb6 (i := 203) (by decide +kernel) rfl
theorem t6_204 : Cond.methodLink "SewnYearModel" 261 yX10_store ∈ Tb := tb6 (i := 204) (by decide +kernel) rfl
theorem t6_206 : Cond.instanceMethod yX10_store ∈ Tb := tb6 (i := 206) (by decide +kernel) rfl
theorem t6_207 : Cond.code yX10_store prog_12_method_37_code 5 (none : Option Jvm.ClassFile.FieldType) ∈ Tb := tb6 (i := 207) (by decide +kernel) rfl
theorem t6_208 : Cond.methodLink "SewnYearLaw" 31 yX10_fault ∈ Tb := tb6 (i := 208) (by decide +kernel) rfl
theorem t6_209 : Cond.instanceMethod yX10_fault ∈ Tb := tb6 (i := 209) (by decide +kernel) rfl
theorem t6_210 : Cond.selects "SewnYearModel" yX10_fault yX10_fault ∈ Tb := tb6 (i := 210) (by decide +kernel) rfl
theorem t6_211 : Cond.code yX10_fault prog_12_method_40_code 2 (some .int) ∈ Tb := tb6 (i := 211) (by decide +kernel) rfl
theorem t6_212 : Cond.methodLink "SewnYearLaw" 35 yX10_coat ∈ Tb := tb6 (i := 212) (by decide +kernel) rfl
theorem t6_213 : Cond.instanceMethod yX10_coat ∈ Tb := tb6 (i := 213) (by decide +kernel) rfl
theorem t6_214 : Cond.selects "SewnYearModel" yX10_coat yX10_coat ∈ Tb := tb6 (i := 214) (by decide +kernel) rfl
theorem t6_215 : Cond.code yX10_coat prog_12_method_44_code 3 (some .int) ∈ Tb := tb6 (i := 215) (by decide +kernel) rfl
theorem t6_216 : Cond.methodLink "SewnYearModel" 287 yX10_hand ∈ Tb := tb6 (i := 216) (by decide +kernel) rfl
theorem t6_218 : Cond.instanceMethod yX10_hand ∈ Tb := tb6 (i := 218) (by decide +kernel) rfl
theorem t6_219 : Cond.code yX10_hand prog_12_method_42_code 2 (some .boolean) ∈ Tb := tb6 (i := 219) (by decide +kernel) rfl
theorem t6_220 : Cond.methodLink "SewnYearModel" 277 yX10_of ∈ Tb := tb6 (i := 220) (by decide +kernel) rfl
theorem t6_222 : Cond.instanceMethod yX10_of ∈ Tb := tb6 (i := 222) (by decide +kernel) rfl
theorem t6_223 : Cond.code yX10_of prog_12_method_41_code 2 (some .int) ∈ Tb := tb6 (i := 223) (by decide +kernel) rfl
theorem t6_224 : Cond.methodLink "SewnYearModel" 290 yX10_isSeam ∈ Tb := tb6 (i := 224) (by decide +kernel) rfl
theorem t6_226 : Cond.instanceMethod yX10_isSeam ∈ Tb := tb6 (i := 226) (by decide +kernel) rfl
theorem t6_227 : Cond.code yX10_isSeam prog_12_method_43_code 2 (some .boolean) ∈ Tb := tb6 (i := 227) (by decide +kernel) rfl
theorem t6_228 : Cond.methodLink "SewnYearLaw" 40 yX10_deed ∈ Tb := tb6 (i := 228) (by decide +kernel) rfl
theorem t6_229 : Cond.instanceMethod yX10_deed ∈ Tb := tb6 (i := 229) (by decide +kernel) rfl
theorem t6_230 : Cond.selects "SewnYearModel" yX10_deed yX10_deed ∈ Tb := tb6 (i := 230) (by decide +kernel) rfl
theorem t6_231 : Cond.code yX10_deed prog_12_method_48_code 4 (some .int) ∈ Tb := tb6 (i := 231) (by decide +kernel) rfl
theorem t6_232 : Cond.methodLink "SewnYearModel" 296 yX10_hasLife ∈ Tb := tb6 (i := 232) (by decide +kernel) rfl
theorem t6_234 : Cond.instanceMethod yX10_hasLife ∈ Tb := tb6 (i := 234) (by decide +kernel) rfl
theorem t6_235 : Cond.code yX10_hasLife prog_12_method_47_code 2 (some .boolean) ∈ Tb := tb6 (i := 235) (by decide +kernel) rfl
theorem t6_236 : Cond.methodLink "SewnYearModel" 299 yX10_deeds ∈ Tb := tb6 (i := 236) (by decide +kernel) rfl
theorem t6_238 : Cond.instanceMethod yX10_deeds ∈ Tb := tb6 (i := 238) (by decide +kernel) rfl
theorem t6_239 : Cond.code yX10_deeds prog_12_method_45_code 1 (some .int) ∈ Tb := tb6 (i := 239) (by decide +kernel) rfl
theorem t7_0 : Cond.methodLink "SewnYearModel" 302 yX10_deedOf ∈ Tb := tb7 (i := 0) (by decide +kernel) rfl
theorem t7_2 : Cond.instanceMethod yX10_deedOf ∈ Tb := tb7 (i := 2) (by decide +kernel) rfl
theorem t7_3 : Cond.code yX10_deedOf prog_12_method_46_code 3 (some .int) ∈ Tb := tb7 (i := 3) (by decide +kernel) rfl
theorem t7_4 : Cond.methodLink "SewnYearLaw" 44 yX10_stop ∈ Tb := tb7 (i := 4) (by decide +kernel) rfl
theorem t7_5 : Cond.instanceMethod yX10_stop ∈ Tb := tb7 (i := 5) (by decide +kernel) rfl
theorem t7_6 : Cond.selects "SewnYearModel" yX10_stop yX10_stop ∈ Tb := tb7 (i := 6) (by decide +kernel) rfl
theorem t7_7 : Cond.code yX10_stop prog_12_method_61_code 3 (some .int) ∈ Tb := tb7 (i := 7) (by decide +kernel) rfl
theorem t7_8 : Cond.methodLink "SewnYearModel" 353 yX10_layAll ∈ Tb := tb7 (i := 8) (by decide +kernel) rfl
theorem t7_10 : Cond.instanceMethod yX10_layAll ∈ Tb := tb7 (i := 10) (by decide +kernel) rfl
theorem t7_11 : Cond.code yX10_layAll prog_12_method_60_code 3 (some .boolean) ∈ Tb := tb7 (i := 11) (by decide +kernel) rfl
theorem t7_12 : Cond.methodLink "SewnYearModel" 356 yX10_play ∈ Tb := tb7 (i := 12) (by decide +kernel) rfl
theorem t7_14 : Cond.instanceMethod yX10_play ∈ Tb := tb7 (i := 14) (by decide +kernel) rfl
theorem t7_15 : Cond.code yX10_play prog_12_method_59_code 3 (some .int) ∈ Tb := tb7 (i := 15) (by decide +kernel) rfl
theorem t7_16 : Cond.methodLink "SewnYearModel" 347 yX10_begin ∈ Tb := tb7 (i := 16) (by decide +kernel) rfl
theorem t7_18 : Cond.instanceMethod yX10_begin ∈ Tb := tb7 (i := 18) (by decide +kernel) rfl
theorem t7_19 : Cond.code yX10_begin prog_12_method_49_code 2 (none : Option Jvm.ClassFile.FieldType) ∈ Tb := tb7 (i := 19) (by decide +kernel) rfl
theorem t7_20 : Cond.methodLink "SewnYearModel" 350 yX10_does ∈ Tb := tb7 (i := 20) (by decide +kernel) rfl
theorem t7_22 : Cond.instanceMethod yX10_does ∈ Tb := tb7 (i := 22) (by decide +kernel) rfl
theorem t7_23 : Cond.code yX10_does prog_12_method_58_code 3 (some .boolean) ∈ Tb := tb7 (i := 23) (by decide +kernel) rfl
theorem t7_24 : Cond.methodLink "SewnYearModel" 335 yX10_sews ∈ Tb := tb7 (i := 24) (by decide +kernel) rfl
theorem t7_26 : Cond.instanceMethod yX10_sews ∈ Tb := tb7 (i := 26) (by decide +kernel) rfl
theorem t7_27 : Cond.code yX10_sews prog_12_method_53_code 2 (some .boolean) ∈ Tb := tb7 (i := 27) (by decide +kernel) rfl
theorem t7_28 : Cond.methodLink "SewnYearModel" 320 yX10_isWhole ∈ Tb := tb7 (i := 28) (by decide +kernel) rfl
theorem t7_30 : Cond.instanceMethod yX10_isWhole ∈ Tb := tb7 (i := 30) (by decide +kernel) rfl
theorem t7_31 : Cond.code yX10_isWhole prog_12_method_50_code 2 (some .boolean) ∈ Tb := tb7 (i := 31) (by decide +kernel) rfl
theorem t7_32 : Cond.methodLink "SewnYearModel" 323 yX10_areWhole ∈ Tb := tb7 (i := 32) (by decide +kernel) rfl
theorem t7_34 : Cond.instanceMethod yX10_areWhole ∈ Tb := tb7 (i := 34) (by decide +kernel) rfl
theorem t7_35 : Cond.code yX10_areWhole prog_12_method_51_code 3 (some .boolean) ∈ Tb := tb7 (i := 35) (by decide +kernel) rfl
theorem t7_36 : Cond.methodLink "SewnYearModel" 98 yX10_has ∈ Tb := tb7 (i := 36) (by decide +kernel) rfl
theorem t7_37 : Cond.static yX10_has ∈ Tb := tb7 (i := 37) (by decide +kernel) rfl
theorem t7_38 : Cond.code yX10_has prog_12_method_4_code 2 (some .boolean) ∈ Tb := tb7 (i := 38) (by decide +kernel) rfl
theorem t7_39 : Cond.methodLink "SewnYearModel" 338 yX10_unpicks ∈ Tb := tb7 (i := 39) (by decide +kernel) rfl
theorem t7_41 : Cond.instanceMethod yX10_unpicks ∈ Tb := tb7 (i := 41) (by decide +kernel) rfl
theorem t7_42 : Cond.code yX10_unpicks prog_12_method_54_code 3 (some .boolean) ∈ Tb := tb7 (i := 42) (by decide +kernel) rfl
theorem t7_43 : Cond.methodLink "SewnYearModel" 326 yX10_lesser ∈ Tb := tb7 (i := 43) (by decide +kernel) rfl
theorem t7_44 : Cond.static yX10_lesser ∈ Tb := tb7 (i := 44) (by decide +kernel) rfl
theorem t7_45 : Cond.code yX10_lesser prog_12_method_6_code 2 (some .int) ∈ Tb := tb7 (i := 45) (by decide +kernel) rfl
theorem t7_46 : Cond.methodLink "SewnYearModel" 329 yX10_loses ∈ Tb := tb7 (i := 46) (by decide +kernel) rfl
theorem t7_48 : Cond.instanceMethod yX10_loses ∈ Tb := tb7 (i := 48) (by decide +kernel) rfl
theorem t7_49 : Cond.code yX10_loses prog_12_method_52_code 3 (none : Option Jvm.ClassFile.FieldType) ∈ Tb := tb7 (i := 49) (by decide +kernel) rfl
theorem t7_50 : Cond.methodLink "SewnYearModel" 341 yX10_tears ∈ Tb := tb7 (i := 50) (by decide +kernel) rfl
theorem t7_52 : Cond.instanceMethod yX10_tears ∈ Tb := tb7 (i := 52) (by decide +kernel) rfl
theorem t7_53 : Cond.code yX10_tears prog_12_method_55_code 2 (some .boolean) ∈ Tb := tb7 (i := 53) (by decide +kernel) rfl
theorem t7_54 : Cond.methodLink "SewnYearModel" 332 yX10_grows ∈ Tb := tb7 (i := 54) (by decide +kernel) rfl
theorem t7_56 : Cond.instanceMethod yX10_grows ∈ Tb := tb7 (i := 56) (by decide +kernel) rfl
theorem t7_57 : Cond.code yX10_grows prog_12_method_56_code 3 (none : Option Jvm.ClassFile.FieldType) ∈ Tb := tb7 (i := 57) (by decide +kernel) rfl
theorem t7_58 : Cond.methodLink "SewnYearModel" 344 yX10_goesOn ∈ Tb := tb7 (i := 58) (by decide +kernel) rfl
theorem t7_60 : Cond.instanceMethod yX10_goesOn ∈ Tb := tb7 (i := 60) (by decide +kernel) rfl
theorem t7_61 : Cond.code yX10_goesOn prog_12_method_57_code 1 (some .boolean) ∈ Tb := tb7 (i := 61) (by decide +kernel) rfl
theorem t7_62 : Cond.methodLink "SewnYearLaw" 49 yX10_state ∈ Tb := tb7 (i := 62) (by decide +kernel) rfl
theorem t7_63 : Cond.instanceMethod yX10_state ∈ Tb := tb7 (i := 63) (by decide +kernel) rfl
theorem t7_64 : Cond.selects "SewnYearModel" yX10_state yX10_state ∈ Tb := tb7 (i := 64) (by decide +kernel) rfl
theorem t7_65 : Cond.code yX10_state prog_12_method_63_code 5 (some .int) ∈ Tb := tb7 (i := 65) (by decide +kernel) rfl
theorem t7_66 : Cond.methodLink "SewnYearModel" 359 yX10_ofState ∈ Tb := tb7 (i := 66) (by decide +kernel) rfl
theorem t7_68 : Cond.instanceMethod yX10_ofState ∈ Tb := tb7 (i := 68) (by decide +kernel) rfl
theorem t7_69 : Cond.code yX10_ofState prog_12_method_62_code 4 (some .int) ∈ Tb := tb7 (i := 69) (by decide +kernel) rfl
theorem t7_70 : Cond.methodLink "SewnYearLaw" 54 yX10_orders ∈ Tb := tb7 (i := 70) (by decide +kernel) rfl
theorem t7_71 : Cond.instanceMethod yX10_orders ∈ Tb := tb7 (i := 71) (by decide +kernel) rfl
theorem t7_72 : Cond.selects "SewnYearModel" yX10_orders yX10_orders ∈ Tb := tb7 (i := 72) (by decide +kernel) rfl
theorem t7_73 : Cond.code yX10_orders prog_12_method_66_code 2 (some .long) ∈ Tb := tb7 (i := 73) (by decide +kernel) rfl
theorem t7_74 : Cond.constantLong "SewnYearModel" 368 (-1) ∈ Tb := tb7 (i := 74) (by decide +kernel) rfl
theorem t7_75 : Cond.methodLink "SewnYearModel" 370 yX10_findOrders ∈ Tb := tb7 (i := 75) (by decide +kernel) rfl
theorem t7_77 : Cond.instanceMethod yX10_findOrders ∈ Tb := tb7 (i := 77) (by decide +kernel) rfl
theorem t7_78 : Cond.code yX10_findOrders prog_12_method_65_code 5 (some .boolean) ∈ Tb := tb7 (i := 78) (by decide +kernel) rfl
theorem t7_79 : Cond.methodLink "SewnYearModel" 365 yX10_mayNext ∈ Tb := tb7 (i := 79) (by decide +kernel) rfl
theorem t7_81 : Cond.instanceMethod yX10_mayNext ∈ Tb := tb7 (i := 81) (by decide +kernel) rfl
theorem t7_82 : Cond.code yX10_mayNext prog_12_method_64_code 3 (some .boolean) ∈ Tb := tb7 (i := 82) (by decide +kernel) rfl
theorem t7_83 : Cond.methodLink "SewnYearLaw" 58 yX10_order ∈ Tb := tb7 (i := 83) (by decide +kernel) rfl
theorem t7_84 : Cond.instanceMethod yX10_order ∈ Tb := tb7 (i := 84) (by decide +kernel) rfl
theorem t7_85 : Cond.selects "SewnYearModel" yX10_order yX10_order ∈ Tb := tb7 (i := 85) (by decide +kernel) rfl
theorem t7_86 : Cond.code yX10_order prog_12_method_79_code 4 (some .int) ∈ Tb := tb7 (i := 86) (by decide +kernel) rfl
theorem t7_87 : Cond.methodLink "SewnYearModel" 392 yX10_firstAt ∈ Tb := tb7 (i := 87) (by decide +kernel) rfl
theorem t7_89 : Cond.instanceMethod yX10_firstAt ∈ Tb := tb7 (i := 89) (by decide +kernel) rfl
theorem t7_90 : Cond.code yX10_firstAt prog_12_method_67_code 6 (some .int) ∈ Tb := tb7 (i := 90) (by decide +kernel) rfl
theorem t7_91 : Cond.methodLink "SewnYearModel" 373 yX10_ahead ∈ Tb := tb7 (i := 91) (by decide +kernel) rfl
theorem t7_93 : Cond.instanceMethod yX10_ahead ∈ Tb := tb7 (i := 93) (by decide +kernel) rfl
theorem t7_94 : Cond.code yX10_ahead prog_12_method_68_code 5 (some .int) ∈ Tb := tb7 (i := 94) (by decide +kernel) rfl
theorem t7_95 : Cond.methodLink "SewnYearModel" 395 yX10_ones ∈ Tb := tb7 (i := 95) (by decide +kernel) rfl
theorem t7_96 : Cond.static yX10_ones ∈ Tb := tb7 (i := 96) (by decide +kernel) rfl
theorem t7_97 : Cond.code yX10_ones prog_12_method_7_code 3 (some .int) ∈ Tb := tb7 (i := 97) (by decide +kernel) rfl
theorem t7_98 : Cond.methodLink "SewnYearModel" 398 yX10_behind ∈ Tb := tb7 (i := 98) (by decide +kernel) rfl
theorem t7_100 : Cond.instanceMethod yX10_behind ∈ Tb := tb7 (i := 100) (by decide +kernel) rfl
theorem t7_101 : Cond.code yX10_behind prog_12_method_69_code 4 (some .int) ∈ Tb := tb7 (i := 101) (by decide +kernel) rfl
theorem t7_102 : Cond.methodLink "SewnYearModel" 401 yX10_findLeast ∈ Tb := tb7 (i := 102) (by decide +kernel) rfl
theorem t7_104 : Cond.instanceMethod yX10_findLeast ∈ Tb := tb7 (i := 104) (by decide +kernel) rfl
theorem t7_105 : Cond.code yX10_findLeast prog_12_method_73_code 4 (none : Option Jvm.ClassFile.FieldType) ∈ Tb := tb7 (i := 105) (by decide +kernel) rfl
theorem t7_106 : Cond.constant "SewnYearModel" 382 (1000000) ∈ Tb := tb7 (i := 106) (by decide +kernel) rfl
theorem t7_107 : Cond.methodLink "SewnYearModel" 383 yX10_wouldBurst ∈ Tb := tb7 (i := 107) (by decide +kernel) rfl
theorem t7_109 : Cond.instanceMethod yX10_wouldBurst ∈ Tb := tb7 (i := 109) (by decide +kernel) rfl
theorem t7_110 : Cond.code yX10_wouldBurst prog_12_method_72_code 3 (some .int) ∈ Tb := tb7 (i := 110) (by decide +kernel) rfl
theorem t7_111 : Cond.methodLink "SewnYearModel" 376 yX10_stitches ∈ Tb := tb7 (i := 111) (by decide +kernel) rfl
theorem t7_113 : Cond.instanceMethod yX10_stitches ∈ Tb := tb7 (i := 113) (by decide +kernel) rfl
theorem t7_114 : Cond.code yX10_stitches prog_12_method_70_code 4 (some .int) ∈ Tb := tb7 (i := 114) (by decide +kernel) rfl
theorem t7_115 : Cond.methodLink "SewnYearModel" 379 yX10_growthBehind ∈ Tb := tb7 (i := 115) (by decide +kernel) rfl
theorem t7_117 : Cond.instanceMethod yX10_growthBehind ∈ Tb := tb7 (i := 117) (by decide +kernel) rfl
theorem t7_118 : Cond.code yX10_growthBehind prog_12_method_71_code 4 (some .int) ∈ Tb := tb7 (i := 118) (by decide +kernel) rfl
theorem t7_119 : Cond.methodLink "SewnYearModel" 404 yX10_leastAt ∈ Tb := tb7 (i := 119) (by decide +kernel) rfl
theorem t7_121 : Cond.instanceMethod yX10_leastAt ∈ Tb := tb7 (i := 121) (by decide +kernel) rfl
theorem t7_122 : Cond.code yX10_leastAt prog_12_method_74_code 6 (some .int) ∈ Tb := tb7 (i := 122) (by decide +kernel) rfl
theorem t7_123 : Cond.methodLink "SewnYearModel" 407 yX10_findChanges ∈ Tb := tb7 (i := 123) (by decide +kernel) rfl
theorem t7_125 : Cond.instanceMethod yX10_findChanges ∈ Tb := tb7 (i := 125) (by decide +kernel) rfl
theorem t7_126 : Cond.code yX10_findChanges prog_12_method_76_code 5 (none : Option Jvm.ClassFile.FieldType) ∈ Tb := tb7 (i := 126) (by decide +kernel) rfl
theorem t7_127 : Cond.methodLink "SewnYearModel" 386 yX10_change ∈ Tb := tb7 (i := 127) (by decide +kernel) rfl
theorem t7_129 : Cond.instanceMethod yX10_change ∈ Tb := tb7 (i := 129) (by decide +kernel) rfl
theorem t7_130 : Cond.code yX10_change prog_12_method_75_code 3 (some .int) ∈ Tb := tb7 (i := 130) (by decide +kernel) rfl
theorem t7_131 : Cond.methodLink "SewnYearModel" 410 yX10_threadedAt ∈ Tb := tb7 (i := 131) (by decide +kernel) rfl
theorem t7_133 : Cond.instanceMethod yX10_threadedAt ∈ Tb := tb7 (i := 133) (by decide +kernel) rfl
theorem t7_134 : Cond.code yX10_threadedAt prog_12_method_78_code 7 (some .int) ∈ Tb := tb7 (i := 134) (by decide +kernel) rfl
theorem t7_135 : Cond.methodLink "SewnYearModel" 389 yX10_threads ∈ Tb := tb7 (i := 135) (by decide +kernel) rfl
theorem t7_137 : Cond.instanceMethod yX10_threads ∈ Tb := tb7 (i := 137) (by decide +kernel) rfl
theorem t7_138 : Cond.code yX10_threads prog_12_method_77_code 3 (some .int) ∈ Tb := tb7 (i := 138) (by decide +kernel) rfl
theorem t7_139 : Cond.methodLink "SewnYearLaw" 62 yX10_sewn ∈ Tb := tb7 (i := 139) (by decide +kernel) rfl
theorem t7_140 : Cond.instanceMethod yX10_sewn ∈ Tb := tb7 (i := 140) (by decide +kernel) rfl
theorem t7_141 : Cond.selects "SewnYearModel" yX10_sewn yX10_sewn ∈ Tb := tb7 (i := 141) (by decide +kernel) rfl
theorem t7_142 : Cond.code yX10_sewn prog_12_method_81_code 3 (some .int) ∈ Tb := tb7 (i := 142) (by decide +kernel) rfl
theorem t7_143 : Cond.methodLink "SewnYearModel" 416 yX10_chain ∈ Tb := tb7 (i := 143) (by decide +kernel) rfl
theorem t7_145 : Cond.instanceMethod yX10_chain ∈ Tb := tb7 (i := 145) (by decide +kernel) rfl
theorem t7_146 : Cond.code yX10_chain prog_12_method_80_code 7 (some .int) ∈ Tb := tb7 (i := 146) (by decide +kernel) rfl
theorem t7_147 : Cond.methodLink "SewnYearModel" 413 yX10_upwards ∈ Tb := tb7 (i := 147) (by decide +kernel) rfl
theorem t7_148 : Cond.static yX10_upwards ∈ Tb := tb7 (i := 148) (by decide +kernel) rfl
theorem t7_149 : Cond.code yX10_upwards prog_12_method_8_code 2 (some .int) ∈ Tb := tb7 (i := 149) (by decide +kernel) rfl
theorem t7_150 : Cond.methodLink "SewnYearLaw" 67 yX10_parted ∈ Tb := tb7 (i := 150) (by decide +kernel) rfl
theorem t7_151 : Cond.instanceMethod yX10_parted ∈ Tb := tb7 (i := 151) (by decide +kernel) rfl
theorem t7_152 : Cond.selects "SewnYearModel" yX10_parted yX10_parted ∈ Tb := tb7 (i := 152) (by decide +kernel) rfl
theorem t7_153 : Cond.code yX10_parted prog_12_method_83_code 8 (some .int) ∈ Tb := tb7 (i := 153) (by decide +kernel) rfl
theorem t7_154 : Cond.methodLink "SewnYearModel" 420 yX10_crossing ∈ Tb := tb7 (i := 154) (by decide +kernel) rfl
theorem t7_156 : Cond.instanceMethod yX10_crossing ∈ Tb := tb7 (i := 156) (by decide +kernel) rfl
theorem t7_157 : Cond.code yX10_crossing prog_12_method_82_code 6 (some .int) ∈ Tb := tb7 (i := 157) (by decide +kernel) rfl
theorem t7_158 : Cond.methodLink "SewnYearLaw" 71 yX10_town ∈ Tb := tb7 (i := 158) (by decide +kernel) rfl
theorem t7_159 : Cond.instanceMethod yX10_town ∈ Tb := tb7 (i := 159) (by decide +kernel) rfl
theorem t7_160 : Cond.selects "SewnYearModel" yX10_town yX10_town ∈ Tb := tb7 (i := 160) (by decide +kernel) rfl
theorem t7_161 : Cond.code yX10_town prog_12_method_87_code 3 (some .int) ∈ Tb := tb7 (i := 161) (by decide +kernel) rfl
theorem t7_162 : Cond.methodLink "SewnYearModel" 438 yX10_layTown ∈ Tb := tb7 (i := 162) (by decide +kernel) rfl
theorem t7_164 : Cond.instanceMethod yX10_layTown ∈ Tb := tb7 (i := 164) (by decide +kernel) rfl
theorem t7_165 : Cond.code yX10_layTown prog_12_method_85_code 2 (some .boolean) ∈ Tb := tb7 (i := 165) (by decide +kernel) rfl
theorem t7_166 : Cond.methodLink "SewnYearModel" 426 yX10_townOf ∈ Tb := tb7 (i := 166) (by decide +kernel) rfl
theorem t7_168 : Cond.instanceMethod yX10_townOf ∈ Tb := tb7 (i := 168) (by decide +kernel) rfl
theorem t7_169 : Cond.code yX10_townOf prog_12_method_84_code 2 (some .int) ∈ Tb := tb7 (i := 169) (by decide +kernel) rfl
theorem t7_170 : Cond.methodLink "SewnYearModel" 441 yX10_isWearer ∈ Tb := tb7 (i := 170) (by decide +kernel) rfl
theorem t7_172 : Cond.instanceMethod yX10_isWearer ∈ Tb := tb7 (i := 172) (by decide +kernel) rfl
theorem t7_173 : Cond.code yX10_isWearer prog_12_method_86_code 2 (some .boolean) ∈ Tb := tb7 (i := 173) (by decide +kernel) rfl
theorem t7_174 : Cond.methodLink "SewnYearLaw" 75 yX10_done ∈ Tb := tb7 (i := 174) (by decide +kernel) rfl
theorem t7_175 : Cond.instanceMethod yX10_done ∈ Tb := tb7 (i := 175) (by decide +kernel) rfl
theorem t7_176 : Cond.selects "SewnYearModel" yX10_done yX10_done ∈ Tb := tb7 (i := 176) (by decide +kernel) rfl
theorem t7_177 : Cond.code yX10_done prog_12_method_92_code 8 (some .int) ∈ Tb := tb7 (i := 177) (by decide +kernel) rfl
theorem t7_178 : Cond.methodLink "SewnYearModel" 454 yX10_walk ∈ Tb := tb7 (i := 178) (by decide +kernel) rfl
theorem t7_180 : Cond.instanceMethod yX10_walk ∈ Tb := tb7 (i := 180) (by decide +kernel) rfl
theorem t7_181 : Cond.code yX10_walk prog_12_method_91_code 4 (none : Option Jvm.ClassFile.FieldType) ∈ Tb := tb7 (i := 181) (by decide +kernel) rfl
theorem t7_182 : Cond.methodLink "SewnYearModel" 444 yX10_ways ∈ Tb := tb7 (i := 182) (by decide +kernel) rfl
theorem t7_184 : Cond.instanceMethod yX10_ways ∈ Tb := tb7 (i := 184) (by decide +kernel) rfl
theorem t7_185 : Cond.code yX10_ways prog_12_method_88_code 7 (some .int) ∈ Tb := tb7 (i := 185) (by decide +kernel) rfl
theorem t7_186 : Cond.methodLink "SewnYearModel" 448 yX10_between ∈ Tb := tb7 (i := 186) (by decide +kernel) rfl
theorem t7_188 : Cond.instanceMethod yX10_between ∈ Tb := tb7 (i := 188) (by decide +kernel) rfl
theorem t7_189 : Cond.code yX10_between prog_12_method_89_code 3 (some .int) ∈ Tb := tb7 (i := 189) (by decide +kernel) rfl
theorem t7_190 : Cond.methodLink "SewnYearModel" 451 yX10_doneAt ∈ Tb := tb7 (i := 190) (by decide +kernel) rfl
theorem t7_192 : Cond.instanceMethod yX10_doneAt ∈ Tb := tb7 (i := 192) (by decide +kernel) rfl
theorem t7_193 : Cond.code yX10_doneAt prog_12_method_90_code 5 (some .int) ∈ Tb := tb7 (i := 193) (by decide +kernel) rfl
theorem t7_194 : Cond.methodLink "SewnYearLaw" 79 yX10_rounds ∈ Tb := tb7 (i := 194) (by decide +kernel) rfl
theorem t7_195 : Cond.instanceMethod yX10_rounds ∈ Tb := tb7 (i := 195) (by decide +kernel) rfl
theorem t7_196 : Cond.selects "SewnYearModel" yX10_rounds yX10_rounds ∈ Tb := tb7 (i := 196) (by decide +kernel) rfl
theorem t7_197 : Cond.code yX10_rounds prog_12_method_100_code 3 (some .int) ∈ Tb := tb7 (i := 197) (by decide +kernel) rfl
theorem t7_198 : Cond.methodLink "SewnYearModel" 481 yX10_findRounds ∈ Tb := tb7 (i := 198) (by decide +kernel) rfl
theorem t7_200 : Cond.instanceMethod yX10_findRounds ∈ Tb := tb7 (i := 200) (by decide +kernel) rfl
theorem t7_201 : Cond.code yX10_findRounds prog_12_method_98_code 5 (none : Option Jvm.ClassFile.FieldType) ∈ Tb := tb7 (i := 201) (by decide +kernel) rfl
theorem t7_202 : Cond.methodLink "SewnYearModel" 469 yX10_firstRow ∈ Tb := tb7 (i := 202) (by decide +kernel) rfl
theorem t7_204 : Cond.instanceMethod yX10_firstRow ∈ Tb := tb7 (i := 204) (by decide +kernel) rfl
theorem t7_205 : Cond.code yX10_firstRow prog_12_method_93_code 2 (none : Option Jvm.ClassFile.FieldType) ∈ Tb := tb7 (i := 205) (by decide +kernel) rfl
theorem t7_206 : Cond.methodLink "SewnYearModel" 472 yX10_inTime ∈ Tb := tb7 (i := 206) (by decide +kernel) rfl
theorem t7_208 : Cond.instanceMethod yX10_inTime ∈ Tb := tb7 (i := 208) (by decide +kernel) rfl
theorem t7_209 : Cond.code yX10_inTime prog_12_method_96_code 2 (some .int) ∈ Tb := tb7 (i := 209) (by decide +kernel) rfl
theorem t7_210 : Cond.methodLink "SewnYearModel" 475 yX10_lateness ∈ Tb := tb7 (i := 210) (by decide +kernel) rfl
theorem t7_212 : Cond.instanceMethod yX10_lateness ∈ Tb := tb7 (i := 212) (by decide +kernel) rfl
theorem t7_213 : Cond.code yX10_lateness prog_12_method_97_code 3 (some .int) ∈ Tb := tb7 (i := 213) (by decide +kernel) rfl
theorem t7_214 : Cond.methodLink "SewnYearModel" 478 yX10_nextRow ∈ Tb := tb7 (i := 214) (by decide +kernel) rfl
theorem t7_216 : Cond.instanceMethod yX10_nextRow ∈ Tb := tb7 (i := 216) (by decide +kernel) rfl
theorem t7_217 : Cond.code yX10_nextRow prog_12_method_95_code 5 (some .boolean) ∈ Tb := tb7 (i := 217) (by decide +kernel) rfl
theorem t7_218 : Cond.methodLink "SewnYearModel" 457 yX10_swap ∈ Tb := tb7 (i := 218) (by decide +kernel) rfl
theorem t7_220 : Cond.instanceMethod yX10_swap ∈ Tb := tb7 (i := 220) (by decide +kernel) rfl
theorem t7_221 : Cond.code yX10_swap prog_12_method_94_code 4 (none : Option Jvm.ClassFile.FieldType) ∈ Tb := tb7 (i := 221) (by decide +kernel) rfl
theorem t7_222 : Cond.methodLink "SewnYearModel" 484 yX10_guild ∈ Tb := tb7 (i := 222) (by decide +kernel) rfl
theorem t7_224 : Cond.instanceMethod yX10_guild ∈ Tb := tb7 (i := 224) (by decide +kernel) rfl
theorem t7_225 : Cond.code yX10_guild prog_12_method_99_code 4 (some .int) ∈ Tb := tb7 (i := 225) (by decide +kernel) rfl
theorem t7_226 : Cond.methodLink "SewnYearLaw" 84 yX10_cloth ∈ Tb := tb7 (i := 226) (by decide +kernel) rfl
theorem t7_227 : Cond.instanceMethod yX10_cloth ∈ Tb := tb7 (i := 227) (by decide +kernel) rfl
theorem t7_228 : Cond.selects "SewnYearModel" yX10_cloth yX10_cloth ∈ Tb := tb7 (i := 228) (by decide +kernel) rfl
theorem t7_229 : Cond.code yX10_cloth prog_12_method_105_code 9 (some .long) ∈ Tb := tb7 (i := 229) (by decide +kernel) rfl
theorem t7_230 : Cond.methodLink "SewnYearModel" 497 yX10_costs ∈ Tb := tb7 (i := 230) (by decide +kernel) rfl
theorem t7_231 : Cond.static yX10_costs ∈ Tb := tb7 (i := 231) (by decide +kernel) rfl
theorem t7_232 : Cond.code yX10_costs prog_12_method_104_code 8 (some .long) ∈ Tb := tb7 (i := 232) (by decide +kernel) rfl
theorem t7_233 : Cond.methodLink "SewnYearModel" 489 yX10_tens ∈ Tb := tb7 (i := 233) (by decide +kernel) rfl
theorem t7_234 : Cond.static yX10_tens ∈ Tb := tb7 (i := 234) (by decide +kernel) rfl
theorem t7_235 : Cond.code yX10_tens prog_12_method_102_code 4 (some .long) ∈ Tb := tb7 (i := 235) (by decide +kernel) rfl
theorem t7_236 : Cond.constantLong "SewnYearModel" 487 (10) ∈ Tb := tb7 (i := 236) (by decide +kernel) rfl
theorem t7_237 : Cond.methodLink "SewnYearModel" 493 yX10_just ∈ Tb := tb7 (i := 237) (by decide +kernel) rfl
theorem t7_238 : Cond.static yX10_just ∈ Tb := tb7 (i := 238) (by decide +kernel) rfl
theorem t7_239 : Cond.code yX10_just prog_12_method_103_code 6 (some .long) ∈ Tb := tb7 (i := 239) (by decide +kernel) rfl
theorem t8_0 : Cond.methodLink "SewnYearModel" 501 yX10_common ∈ Tb := tb8 (i := 0) (by decide +kernel) rfl
theorem t8_1 : Cond.static yX10_common ∈ Tb := tb8 (i := 1) (by decide +kernel) rfl
theorem t8_2 : Cond.code yX10_common prog_12_method_101_code 10 (some .long) ∈ Tb := tb8 (i := 2) (by decide +kernel) rfl
theorem t8_3 : Cond.methodLink "SewnYearLaw" 88 yX10_fact ∈ Tb := tb8 (i := 3) (by decide +kernel) rfl
theorem t8_4 : Cond.instanceMethod yX10_fact ∈ Tb := tb8 (i := 4) (by decide +kernel) rfl
theorem t8_5 : Cond.selects "SewnYearModel" yX10_fact yX10_fact ∈ Tb := tb8 (i := 5) (by decide +kernel) rfl
theorem t8_6 : Cond.code yX10_fact prog_12_method_109_code 4 (some .int) ∈ Tb := tb8 (i := 6) (by decide +kernel) rfl
theorem t8_7 : Cond.methodLink "SewnYearModel" 508 yX10_hasSight ∈ Tb := tb8 (i := 7) (by decide +kernel) rfl
theorem t8_9 : Cond.instanceMethod yX10_hasSight ∈ Tb := tb8 (i := 9) (by decide +kernel) rfl
theorem t8_10 : Cond.code yX10_hasSight prog_12_method_108_code 2 (some .boolean) ∈ Tb := tb8 (i := 10) (by decide +kernel) rfl
theorem t8_11 : Cond.methodLink "SewnYearModel" 511 yX10_facts ∈ Tb := tb8 (i := 11) (by decide +kernel) rfl
theorem t8_13 : Cond.instanceMethod yX10_facts ∈ Tb := tb8 (i := 13) (by decide +kernel) rfl
theorem t8_14 : Cond.code yX10_facts prog_12_method_106_code 1 (some .int) ∈ Tb := tb8 (i := 14) (by decide +kernel) rfl
theorem t8_15 : Cond.methodLink "SewnYearModel" 514 yX10_factOf ∈ Tb := tb8 (i := 15) (by decide +kernel) rfl
theorem t8_17 : Cond.instanceMethod yX10_factOf ∈ Tb := tb8 (i := 17) (by decide +kernel) rfl
theorem t8_18 : Cond.code yX10_factOf prog_12_method_107_code 3 (some .int) ∈ Tb := tb8 (i := 18) (by decide +kernel) rfl
theorem t8_19 : Cond.methodLink "SewnYearLaw" 93 yX10_fits ∈ Tb := tb8 (i := 19) (by decide +kernel) rfl
theorem t8_20 : Cond.instanceMethod yX10_fits ∈ Tb := tb8 (i := 20) (by decide +kernel) rfl
theorem t8_21 : Cond.selects "SewnYearModel" yX10_fits yX10_fits ∈ Tb := tb8 (i := 21) (by decide +kernel) rfl
theorem t8_22 : Cond.code yX10_fits prog_12_method_114_code 5 (some .long) ∈ Tb := tb8 (i := 22) (by decide +kernel) rfl
theorem t8_23 : Cond.methodLink "SewnYearModel" 520 yX10_laySight ∈ Tb := tb8 (i := 23) (by decide +kernel) rfl
theorem t8_25 : Cond.instanceMethod yX10_laySight ∈ Tb := tb8 (i := 25) (by decide +kernel) rfl
theorem t8_26 : Cond.code yX10_laySight prog_12_method_110_code 4 (some .boolean) ∈ Tb := tb8 (i := 26) (by decide +kernel) rfl
theorem t8_27 : Cond.methodLink "SewnYearModel" 523 yX10_findSo ∈ Tb := tb8 (i := 27) (by decide +kernel) rfl
theorem t8_29 : Cond.instanceMethod yX10_findSo ∈ Tb := tb8 (i := 29) (by decide +kernel) rfl
theorem t8_30 : Cond.code yX10_findSo prog_12_method_112_code 3 (none : Option Jvm.ClassFile.FieldType) ∈ Tb := tb8 (i := 30) (by decide +kernel) rfl
theorem t8_31 : Cond.methodLink "SewnYearModel" 517 yX10_isSo ∈ Tb := tb8 (i := 31) (by decide +kernel) rfl
theorem t8_33 : Cond.instanceMethod yX10_isSo ∈ Tb := tb8 (i := 33) (by decide +kernel) rfl
theorem t8_34 : Cond.code yX10_isSo prog_12_method_111_code 7 (some .boolean) ∈ Tb := tb8 (i := 34) (by decide +kernel) rfl
theorem t8_35 : Cond.methodLink "SewnYearModel" 526 yX10_holds ∈ Tb := tb8 (i := 35) (by decide +kernel) rfl
theorem t8_37 : Cond.instanceMethod yX10_holds ∈ Tb := tb8 (i := 37) (by decide +kernel) rfl
theorem t8_38 : Cond.code yX10_holds prog_12_method_113_code 7 (some .long) ∈ Tb := tb8 (i := 38) (by decide +kernel) rfl
theorem t8_39 : Cond.methodLink "SewnYearLaw" 97 yX10_sure ∈ Tb := tb8 (i := 39) (by decide +kernel) rfl
theorem t8_40 : Cond.instanceMethod yX10_sure ∈ Tb := tb8 (i := 40) (by decide +kernel) rfl
theorem t8_41 : Cond.selects "SewnYearModel" yX10_sure yX10_sure ∈ Tb := tb8 (i := 41) (by decide +kernel) rfl
theorem t8_42 : Cond.code yX10_sure prog_12_method_117_code 5 (some .int) ∈ Tb := tb8 (i := 42) (by decide +kernel) rfl
theorem t8_43 : Cond.methodLink "SewnYearModel" 533 yX10_ask ∈ Tb := tb8 (i := 43) (by decide +kernel) rfl
theorem t8_45 : Cond.instanceMethod yX10_ask ∈ Tb := tb8 (i := 45) (by decide +kernel) rfl
theorem t8_46 : Cond.code yX10_ask prog_12_method_116_code 11 (some .int) ∈ Tb := tb8 (i := 46) (by decide +kernel) rfl
theorem t8_47 : Cond.methodLink "SewnYearModel" 530 yX10_aheadOf ∈ Tb := tb8 (i := 47) (by decide +kernel) rfl
theorem t8_49 : Cond.instanceMethod yX10_aheadOf ∈ Tb := tb8 (i := 49) (by decide +kernel) rfl
theorem t8_50 : Cond.code yX10_aheadOf prog_12_method_115_code 6 (some .long) ∈ Tb := tb8 (i := 50) (by decide +kernel) rfl
theorem t8_51 : Cond.methodLink "SewnYearLaw" 101 yX10_drawn ∈ Tb := tb8 (i := 51) (by decide +kernel) rfl
theorem t8_52 : Cond.instanceMethod yX10_drawn ∈ Tb := tb8 (i := 52) (by decide +kernel) rfl
theorem t8_53 : Cond.selects "SewnYearModel" yX10_drawn yX10_drawn ∈ Tb := tb8 (i := 53) (by decide +kernel) rfl
theorem t8_54 : Cond.code yX10_drawn prog_12_method_120_code 6 (some .int) ∈ Tb := tb8 (i := 54) (by decide +kernel) rfl
theorem t8_55 : Cond.methodLink "SewnYearModel" 543 yX10_drawDeed ∈ Tb := tb8 (i := 55) (by decide +kernel) rfl
theorem t8_57 : Cond.instanceMethod yX10_drawDeed ∈ Tb := tb8 (i := 57) (by decide +kernel) rfl
theorem t8_58 : Cond.code yX10_drawDeed prog_12_method_119_code 3 (none : Option Jvm.ClassFile.FieldType) ∈ Tb := tb8 (i := 58) (by decide +kernel) rfl
theorem t8_59 : Cond.methodLink "SewnYearModel" 540 yX10_draw ∈ Tb := tb8 (i := 59) (by decide +kernel) rfl
theorem t8_61 : Cond.instanceMethod yX10_draw ∈ Tb := tb8 (i := 61) (by decide +kernel) rfl
theorem t8_62 : Cond.code yX10_draw prog_12_method_118_code 2 (some .int) ∈ Tb := tb8 (i := 62) (by decide +kernel) rfl
theorem t8_63 : Cond.constant "SewnYearModel" 539 (1103515245) ∈ Tb := tb8 (i := 63) (by decide +kernel) rfl
theorem t8_64 : Cond.methodLink "SewnYearLaw" 105 yX10_under ∈ Tb := tb8 (i := 64) (by decide +kernel) rfl
theorem t8_65 : Cond.instanceMethod yX10_under ∈ Tb := tb8 (i := 65) (by decide +kernel) rfl
theorem t8_66 : Cond.selects "SewnYearModel" yX10_under yX10_under ∈ Tb := tb8 (i := 66) (by decide +kernel) rfl
theorem t8_67 : Cond.code yX10_under prog_12_method_121_code 4 (some .int) ∈ Tb := tb8 (i := 67) (by decide +kernel) rfl
theorem t8_68 : Cond.methodLink "SewnYearLaw" 109 yX10_hands ∈ Tb := tb8 (i := 68) (by decide +kernel) rfl
theorem t8_69 : Cond.instanceMethod yX10_hands ∈ Tb := tb8 (i := 69) (by decide +kernel) rfl
theorem t8_70 : Cond.selects "SewnYearModel" yX10_hands yX10_hands ∈ Tb := tb8 (i := 70) (by decide +kernel) rfl
theorem t8_71 : Cond.code yX10_hands prog_12_method_124_code 5 (some .int) ∈ Tb := tb8 (i := 71) (by decide +kernel) rfl
theorem t8_72 : Cond.methodLink "SewnYearModel" 549 yX10_morning ∈ Tb := tb8 (i := 72) (by decide +kernel) rfl
theorem t8_74 : Cond.instanceMethod yX10_morning ∈ Tb := tb8 (i := 74) (by decide +kernel) rfl
theorem t8_75 : Cond.code yX10_morning prog_12_method_123_code 6 (none : Option Jvm.ClassFile.FieldType) ∈ Tb := tb8 (i := 75) (by decide +kernel) rfl
theorem t8_76 : Cond.methodLink "SewnYearModel" 546 yX10_canBegin ∈ Tb := tb8 (i := 76) (by decide +kernel) rfl
theorem t8_78 : Cond.instanceMethod yX10_canBegin ∈ Tb := tb8 (i := 78) (by decide +kernel) rfl
theorem t8_79 : Cond.code yX10_canBegin prog_12_method_122_code 4 (some .boolean) ∈ Tb := tb8 (i := 79) (by decide +kernel) rfl
theorem t8_80 : Cond.methodLink "SewnYearLaw" 113 yX10_spools ∈ Tb := tb8 (i := 80) (by decide +kernel) rfl
theorem t8_81 : Cond.instanceMethod yX10_spools ∈ Tb := tb8 (i := 81) (by decide +kernel) rfl
theorem t8_82 : Cond.selects "SewnYearModel" yX10_spools yX10_spools ∈ Tb := tb8 (i := 82) (by decide +kernel) rfl
theorem t8_83 : Cond.code yX10_spools prog_12_method_126_code 5 (some .int) ∈ Tb := tb8 (i := 83) (by decide +kernel) rfl
theorem t8_84 : Cond.methodLink "SewnYearModel" 552 yX10_ofColour ∈ Tb := tb8 (i := 84) (by decide +kernel) rfl
theorem t8_86 : Cond.instanceMethod yX10_ofColour ∈ Tb := tb8 (i := 86) (by decide +kernel) rfl
theorem t8_87 : Cond.code yX10_ofColour prog_12_method_125_code 4 (some .int) ∈ Tb := tb8 (i := 87) (by decide +kernel) rfl
theorem t8_88 : Cond.methodLink "SewnYearLaw" 117 yX10_grown ∈ Tb := tb8 (i := 88) (by decide +kernel) rfl
theorem t8_89 : Cond.instanceMethod yX10_grown ∈ Tb := tb8 (i := 89) (by decide +kernel) rfl
theorem t8_90 : Cond.selects "SewnYearModel" yX10_grown yX10_grown ∈ Tb := tb8 (i := 90) (by decide +kernel) rfl
theorem t8_91 : Cond.code yX10_grown prog_12_method_127_code 5 (some .int) ∈ Tb := tb8 (i := 91) (by decide +kernel) rfl
theorem t8_92 : Cond.methodLink "SewnYearLaw" 122 yX10_home ∈ Tb := tb8 (i := 92) (by decide +kernel) rfl
theorem t8_93 : Cond.instanceMethod yX10_home ∈ Tb := tb8 (i := 93) (by decide +kernel) rfl
theorem t8_94 : Cond.selects "SewnYearModel" yX10_home yX10_home ∈ Tb := tb8 (i := 94) (by decide +kernel) rfl
theorem t8_95 : Cond.code yX10_home prog_12_method_128_code 6 (some .int) ∈ Tb := tb8 (i := 95) (by decide +kernel) rfl
theorem t8_96 : Cond.methodLink "SewnYearLaw" 126 yX10_way ∈ Tb := tb8 (i := 96) (by decide +kernel) rfl
theorem t8_97 : Cond.instanceMethod yX10_way ∈ Tb := tb8 (i := 97) (by decide +kernel) rfl
theorem t8_98 : Cond.selects "SewnYearModel" yX10_way yX10_way ∈ Tb := tb8 (i := 98) (by decide +kernel) rfl
theorem t8_99 : Cond.code yX10_way prog_12_method_129_code 4 (some .int) ∈ Tb := tb8 (i := 99) (by decide +kernel) rfl
theorem t8_100 : Cond.methodLink "SewnYearLaw" 131 yX10_enough ∈ Tb := tb8 (i := 100) (by decide +kernel) rfl
theorem t8_101 : Cond.instanceMethod yX10_enough ∈ Tb := tb8 (i := 101) (by decide +kernel) rfl
theorem t8_102 : Cond.selects "SewnYearModel" yX10_enough yX10_enough ∈ Tb := tb8 (i := 102) (by decide +kernel) rfl
theorem t8_103 : Cond.code yX10_enough prog_12_method_130_code 9 (some .long) ∈ Tb := tb8 (i := 103) (by decide +kernel) rfl
theorem t8_104 : Cond.methodLink "SewnYearLaw" 135 yX10_count ∈ Tb := tb8 (i := 104) (by decide +kernel) rfl
theorem t8_105 : Cond.instanceMethod yX10_count ∈ Tb := tb8 (i := 105) (by decide +kernel) rfl
theorem t8_106 : Cond.selects "SewnYearModel" yX10_count yX10_count ∈ Tb := tb8 (i := 106) (by decide +kernel) rfl
theorem t8_107 : Cond.code yX10_count prog_12_method_131_code 2 (some .int) ∈ Tb := tb8 (i := 107) (by decide +kernel) rfl
theorem t8_108 : Cond.methodLink "SewnYearLaw" 140 yX10_image ∈ Tb := tb8 (i := 108) (by decide +kernel) rfl
theorem t8_109 : Cond.instanceMethod yX10_image ∈ Tb := tb8 (i := 109) (by decide +kernel) rfl
theorem t8_110 : Cond.selects "SewnYearModel" yX10_image yX10_image ∈ Tb := tb8 (i := 110) (by decide +kernel) rfl
theorem t8_111 : Cond.code yX10_image prog_12_method_132_code 2 (some .boolean) ∈ Tb := tb8 (i := 111) (by decide +kernel) rfl
theorem t8_112 : Cond.methodLink "SewnYearModel" 555 yX10_copyAll ∈ Tb := tb8 (i := 112) (by decide +kernel) rfl
theorem t8_114 : Cond.instanceMethod yX10_copyAll ∈ Tb := tb8 (i := 114) (by decide +kernel) rfl
theorem t8_115 : Cond.code yX10_copyAll prog_12_method_10_code 4 (none : Option Jvm.ClassFile.FieldType) ∈ Tb := tb8 (i := 115) (by decide +kernel) rfl
theorem t8_116 : Cond.methodLink "SewnYearModel" 102 yX10_copyRow ∈ Tb := tb8 (i := 116) (by decide +kernel) rfl
theorem t8_117 : Cond.static yX10_copyRow ∈ Tb := tb8 (i := 117) (by decide +kernel) rfl
theorem t8_118 : Cond.code yX10_copyRow prog_12_method_9_code 5 (none : Option Jvm.ClassFile.FieldType) ∈ Tb := tb8 (i := 118) (by decide +kernel) rfl
theorem t8_119 : Cond.methodLink "SewnYearLaw" 144 yX10_again ∈ Tb := tb8 (i := 119) (by decide +kernel) rfl
theorem t8_120 : Cond.instanceMethod yX10_again ∈ Tb := tb8 (i := 120) (by decide +kernel) rfl
theorem t8_121 : Cond.selects "SewnYearModel" yX10_again yX10_again ∈ Tb := tb8 (i := 121) (by decide +kernel) rfl
theorem t8_122 : Cond.code yX10_again prog_12_method_133_code 2 (some .boolean) ∈ Tb := tb8 (i := 122) (by decide +kernel) rfl
theorem t8_123 : Cond.fieldLink "java/lang/String" 9 "java/lang/String" "value" "[B" ∈ Tb := tb8 (i := 123) (by decide +kernel) rfl
theorem t8_124 : Cond.fieldLink "java/lang/String" 15 "java/lang/String" "coder" "B" ∈ Tb := tb8 (i := 124) (by decide +kernel) rfl
theorem tf0 : ∀ w ∈ wsX00, w ∈ Tb := by decide +kernel
theorem tf1 : ∀ w ∈ wsX10, w ∈ Tb := by decide +kernel
theorem tf2 : ∀ w ∈ wsX20, w ∈ Tb := by decide +kernel
theorem tf3 : ∀ w ∈ wsX30, w ∈ Tb := by decide +kernel
theorem tf4 : ∀ w ∈ wsX40, w ∈ Tb := by decide +kernel
theorem tf5 : ∀ w ∈ wsX50, w ∈ Tb := by decide +kernel
theorem tf6 : ∀ w ∈ wsX60, w ∈ Tb := by decide +kernel
theorem tf7 : ∀ w ∈ wsX70, w ∈ Tb := by decide +kernel
theorem tf8 : ∀ w ∈ wsX80, w ∈ Tb := by decide +kernel
theorem tf9 : ∀ w ∈ wsX90, w ∈ Tb := by decide +kernel
theorem tf10 : ∀ w ∈ wsX100, w ∈ Tb := by decide +kernel
theorem ts_0 : Cond.selects yX9_coatAt.cls yX9_coatAt yX9_coatAt ∈ Tb := tbs (i := 0) (n := 6) (by decide +kernel)
theorem ts_1 : Cond.selects yX9_lifeAt.cls yX9_lifeAt yX9_lifeAt ∈ Tb := tbs (i := 1) (n := 6) (by decide +kernel)
theorem ts_2 : Cond.selects yX9_orderedAt.cls yX9_orderedAt yX9_orderedAt ∈ Tb := tbs (i := 2) (n := 6) (by decide +kernel)
theorem ts_3 : Cond.selects yX9_townAt.cls yX9_townAt yX9_townAt ∈ Tb := tbs (i := 3) (n := 6) (by decide +kernel)
theorem ts_4 : Cond.selects yX9_sightAt.cls yX9_sightAt yX9_sightAt ∈ Tb := tbs (i := 4) (n := 6) (by decide +kernel)
theorem ts_5 : Cond.selects yX9_seenAt.cls yX9_seenAt yX9_seenAt ∈ Tb := tbs (i := 5) (n := 6) (by decide +kernel)
theorem ts_6 : Cond.selects yX10_four.cls yX10_four yX10_four ∈ Tb := tbs (i := 6) (n := 58) (by decide +kernel)
theorem ts_7 : Cond.selects yX10_is.cls yX10_is yX10_is ∈ Tb := tbs (i := 7) (n := 58) (by decide +kernel)
theorem ts_8 : Cond.selects yX10_readText.cls yX10_readText yX10_readText ∈ Tb := tbs (i := 8) (n := 58) (by decide +kernel)
theorem ts_9 : Cond.selects yX10_blank.cls yX10_blank yX10_blank ∈ Tb := tbs (i := 9) (n := 58) (by decide +kernel)
theorem ts_10 : Cond.selects yX10_token.cls yX10_token yX10_token ∈ Tb := tbs (i := 10) (n := 58) (by decide +kernel)
theorem ts_11 : Cond.selects yX10_see.cls yX10_see yX10_see ∈ Tb := tbs (i := 11) (n := 58) (by decide +kernel)
theorem ts_12 : Cond.selects yX10_lines.cls yX10_lines yX10_lines ∈ Tb := tbs (i := 12) (n := 58) (by decide +kernel)
theorem ts_13 : Cond.selects yX10_lineOf.cls yX10_lineOf yX10_lineOf ∈ Tb := tbs (i := 13) (n := 58) (by decide +kernel)
theorem ts_14 : Cond.selects yX10_coatLine.cls yX10_coatLine yX10_coatLine ∈ Tb := tbs (i := 14) (n := 58) (by decide +kernel)
theorem ts_15 : Cond.selects yX10_fails.cls yX10_fails yX10_fails ∈ Tb := tbs (i := 15) (n := 58) (by decide +kernel)
theorem ts_16 : Cond.selects yX10_full.cls yX10_full yX10_full ∈ Tb := tbs (i := 16) (n := 58) (by decide +kernel)
theorem ts_17 : Cond.selects yX10_later.cls yX10_later yX10_later ∈ Tb := tbs (i := 17) (n := 58) (by decide +kernel)
theorem ts_18 : Cond.selects yX10_plainLine.cls yX10_plainLine yX10_plainLine ∈ Tb := tbs (i := 18) (n := 58) (by decide +kernel)
theorem ts_19 : Cond.selects yX10_take.cls yX10_take yX10_take ∈ Tb := tbs (i := 19) (n := 58) (by decide +kernel)
theorem ts_20 : Cond.selects yX10_takeBut.cls yX10_takeBut yX10_takeBut ∈ Tb := tbs (i := 20) (n := 58) (by decide +kernel)
theorem ts_21 : Cond.selects yX10_seamLine.cls yX10_seamLine yX10_seamLine ∈ Tb := tbs (i := 21) (n := 58) (by decide +kernel)
theorem ts_22 : Cond.selects yX10_afterLine.cls yX10_afterLine yX10_afterLine ∈ Tb := tbs (i := 22) (n := 58) (by decide +kernel)
theorem ts_23 : Cond.selects yX10_lifeLine.cls yX10_lifeLine yX10_lifeLine ∈ Tb := tbs (i := 23) (n := 58) (by decide +kernel)
theorem ts_24 : Cond.selects yX10_keep.cls yX10_keep yX10_keep ∈ Tb := tbs (i := 24) (n := 58) (by decide +kernel)
theorem ts_25 : Cond.selects yX10_townLine.cls yX10_townLine yX10_townLine ∈ Tb := tbs (i := 25) (n := 58) (by decide +kernel)
theorem ts_26 : Cond.selects yX10_wearerLine.cls yX10_wearerLine yX10_wearerLine ∈ Tb := tbs (i := 26) (n := 58) (by decide +kernel)
theorem ts_27 : Cond.selects yX10_awayLine.cls yX10_awayLine yX10_awayLine ∈ Tb := tbs (i := 27) (n := 58) (by decide +kernel)
theorem ts_28 : Cond.selects yX10_sightLine.cls yX10_sightLine yX10_sightLine ∈ Tb := tbs (i := 28) (n := 58) (by decide +kernel)
theorem ts_29 : Cond.selects yX10_storeAll.cls yX10_storeAll yX10_storeAll ∈ Tb := tbs (i := 29) (n := 58) (by decide +kernel)
theorem ts_30 : Cond.selects yX10_store.cls yX10_store yX10_store ∈ Tb := tbs (i := 30) (n := 58) (by decide +kernel)
theorem ts_31 : Cond.selects yX10_hand.cls yX10_hand yX10_hand ∈ Tb := tbs (i := 31) (n := 58) (by decide +kernel)
theorem ts_32 : Cond.selects yX10_of.cls yX10_of yX10_of ∈ Tb := tbs (i := 32) (n := 58) (by decide +kernel)
theorem ts_33 : Cond.selects yX10_isSeam.cls yX10_isSeam yX10_isSeam ∈ Tb := tbs (i := 33) (n := 58) (by decide +kernel)
theorem ts_34 : Cond.selects yX10_hasLife.cls yX10_hasLife yX10_hasLife ∈ Tb := tbs (i := 34) (n := 58) (by decide +kernel)
theorem ts_35 : Cond.selects yX10_deeds.cls yX10_deeds yX10_deeds ∈ Tb := tbs (i := 35) (n := 58) (by decide +kernel)
theorem ts_36 : Cond.selects yX10_deedOf.cls yX10_deedOf yX10_deedOf ∈ Tb := tbs (i := 36) (n := 58) (by decide +kernel)
theorem ts_37 : Cond.selects yX10_layAll.cls yX10_layAll yX10_layAll ∈ Tb := tbs (i := 37) (n := 58) (by decide +kernel)
theorem ts_38 : Cond.selects yX10_play.cls yX10_play yX10_play ∈ Tb := tbs (i := 38) (n := 58) (by decide +kernel)
theorem ts_39 : Cond.selects yX10_begin.cls yX10_begin yX10_begin ∈ Tb := tbs (i := 39) (n := 58) (by decide +kernel)
theorem ts_40 : Cond.selects yX10_does.cls yX10_does yX10_does ∈ Tb := tbs (i := 40) (n := 58) (by decide +kernel)
theorem ts_41 : Cond.selects yX10_sews.cls yX10_sews yX10_sews ∈ Tb := tbs (i := 41) (n := 58) (by decide +kernel)
theorem ts_42 : Cond.selects yX10_isWhole.cls yX10_isWhole yX10_isWhole ∈ Tb := tbs (i := 42) (n := 58) (by decide +kernel)
theorem ts_43 : Cond.selects yX10_areWhole.cls yX10_areWhole yX10_areWhole ∈ Tb := tbs (i := 43) (n := 58) (by decide +kernel)
theorem ts_44 : Cond.selects yX10_unpicks.cls yX10_unpicks yX10_unpicks ∈ Tb := tbs (i := 44) (n := 58) (by decide +kernel)
theorem ts_45 : Cond.selects yX10_loses.cls yX10_loses yX10_loses ∈ Tb := tbs (i := 45) (n := 58) (by decide +kernel)
theorem ts_46 : Cond.selects yX10_tears.cls yX10_tears yX10_tears ∈ Tb := tbs (i := 46) (n := 58) (by decide +kernel)
theorem ts_47 : Cond.selects yX10_grows.cls yX10_grows yX10_grows ∈ Tb := tbs (i := 47) (n := 58) (by decide +kernel)
theorem ts_48 : Cond.selects yX10_goesOn.cls yX10_goesOn yX10_goesOn ∈ Tb := tbs (i := 48) (n := 58) (by decide +kernel)
theorem ts_49 : Cond.selects yX10_ofState.cls yX10_ofState yX10_ofState ∈ Tb := tbs (i := 49) (n := 58) (by decide +kernel)
theorem ts_50 : Cond.selects yX10_findOrders.cls yX10_findOrders yX10_findOrders ∈ Tb := tbs (i := 50) (n := 58) (by decide +kernel)
theorem ts_51 : Cond.selects yX10_mayNext.cls yX10_mayNext yX10_mayNext ∈ Tb := tbs (i := 51) (n := 58) (by decide +kernel)
theorem ts_52 : Cond.selects yX10_firstAt.cls yX10_firstAt yX10_firstAt ∈ Tb := tbs (i := 52) (n := 58) (by decide +kernel)
theorem ts_53 : Cond.selects yX10_ahead.cls yX10_ahead yX10_ahead ∈ Tb := tbs (i := 53) (n := 58) (by decide +kernel)
theorem ts_54 : Cond.selects yX10_behind.cls yX10_behind yX10_behind ∈ Tb := tbs (i := 54) (n := 58) (by decide +kernel)
theorem ts_55 : Cond.selects yX10_findLeast.cls yX10_findLeast yX10_findLeast ∈ Tb := tbs (i := 55) (n := 58) (by decide +kernel)
theorem ts_56 : Cond.selects yX10_wouldBurst.cls yX10_wouldBurst yX10_wouldBurst ∈ Tb := tbs (i := 56) (n := 58) (by decide +kernel)
theorem ts_57 : Cond.selects yX10_stitches.cls yX10_stitches yX10_stitches ∈ Tb := tbs (i := 57) (n := 58) (by decide +kernel)
theorem ts_58 : Cond.selects yX10_growthBehind.cls yX10_growthBehind yX10_growthBehind ∈ Tb := tbs (i := 58) (n := 58) (by decide +kernel)
theorem ts_59 : Cond.selects yX10_leastAt.cls yX10_leastAt yX10_leastAt ∈ Tb := tbs (i := 59) (n := 58) (by decide +kernel)
theorem ts_60 : Cond.selects yX10_findChanges.cls yX10_findChanges yX10_findChanges ∈ Tb := tbs (i := 60) (n := 58) (by decide +kernel)
theorem ts_61 : Cond.selects yX10_change.cls yX10_change yX10_change ∈ Tb := tbs (i := 61) (n := 58) (by decide +kernel)
theorem ts_62 : Cond.selects yX10_threadedAt.cls yX10_threadedAt yX10_threadedAt ∈ Tb := tbs (i := 62) (n := 58) (by decide +kernel)
theorem ts_63 : Cond.selects yX10_threads.cls yX10_threads yX10_threads ∈ Tb := tbs (i := 63) (n := 58) (by decide +kernel)
theorem ts_64 : Cond.selects yX10_chain.cls yX10_chain yX10_chain ∈ Tb := tbs (i := 64) (n := 58) (by decide +kernel)
theorem ts_65 : Cond.selects yX10_crossing.cls yX10_crossing yX10_crossing ∈ Tb := tbs (i := 65) (n := 58) (by decide +kernel)
theorem ts_66 : Cond.selects yX10_layTown.cls yX10_layTown yX10_layTown ∈ Tb := tbs (i := 66) (n := 58) (by decide +kernel)
theorem ts_67 : Cond.selects yX10_townOf.cls yX10_townOf yX10_townOf ∈ Tb := tbs (i := 67) (n := 58) (by decide +kernel)
theorem ts_68 : Cond.selects yX10_isWearer.cls yX10_isWearer yX10_isWearer ∈ Tb := tbs (i := 68) (n := 58) (by decide +kernel)
theorem ts_69 : Cond.selects yX10_walk.cls yX10_walk yX10_walk ∈ Tb := tbs (i := 69) (n := 58) (by decide +kernel)
theorem ts_70 : Cond.selects yX10_ways.cls yX10_ways yX10_ways ∈ Tb := tbs (i := 70) (n := 58) (by decide +kernel)
theorem ts_71 : Cond.selects yX10_between.cls yX10_between yX10_between ∈ Tb := tbs (i := 71) (n := 58) (by decide +kernel)
theorem ts_72 : Cond.selects yX10_doneAt.cls yX10_doneAt yX10_doneAt ∈ Tb := tbs (i := 72) (n := 58) (by decide +kernel)
theorem ts_73 : Cond.selects yX10_findRounds.cls yX10_findRounds yX10_findRounds ∈ Tb := tbs (i := 73) (n := 58) (by decide +kernel)
theorem ts_74 : Cond.selects yX10_firstRow.cls yX10_firstRow yX10_firstRow ∈ Tb := tbs (i := 74) (n := 58) (by decide +kernel)
theorem ts_75 : Cond.selects yX10_inTime.cls yX10_inTime yX10_inTime ∈ Tb := tbs (i := 75) (n := 58) (by decide +kernel)
theorem ts_76 : Cond.selects yX10_lateness.cls yX10_lateness yX10_lateness ∈ Tb := tbs (i := 76) (n := 58) (by decide +kernel)
theorem ts_77 : Cond.selects yX10_nextRow.cls yX10_nextRow yX10_nextRow ∈ Tb := tbs (i := 77) (n := 58) (by decide +kernel)
theorem ts_78 : Cond.selects yX10_swap.cls yX10_swap yX10_swap ∈ Tb := tbs (i := 78) (n := 58) (by decide +kernel)
theorem ts_79 : Cond.selects yX10_guild.cls yX10_guild yX10_guild ∈ Tb := tbs (i := 79) (n := 58) (by decide +kernel)
theorem ts_80 : Cond.selects yX10_hasSight.cls yX10_hasSight yX10_hasSight ∈ Tb := tbs (i := 80) (n := 58) (by decide +kernel)
theorem ts_81 : Cond.selects yX10_facts.cls yX10_facts yX10_facts ∈ Tb := tbs (i := 81) (n := 58) (by decide +kernel)
theorem ts_82 : Cond.selects yX10_factOf.cls yX10_factOf yX10_factOf ∈ Tb := tbs (i := 82) (n := 58) (by decide +kernel)
theorem ts_83 : Cond.selects yX10_laySight.cls yX10_laySight yX10_laySight ∈ Tb := tbs (i := 83) (n := 58) (by decide +kernel)
theorem ts_84 : Cond.selects yX10_findSo.cls yX10_findSo yX10_findSo ∈ Tb := tbs (i := 84) (n := 58) (by decide +kernel)
theorem ts_85 : Cond.selects yX10_isSo.cls yX10_isSo yX10_isSo ∈ Tb := tbs (i := 85) (n := 58) (by decide +kernel)
theorem ts_86 : Cond.selects yX10_holds.cls yX10_holds yX10_holds ∈ Tb := tbs (i := 86) (n := 58) (by decide +kernel)
theorem ts_87 : Cond.selects yX10_ask.cls yX10_ask yX10_ask ∈ Tb := tbs (i := 87) (n := 58) (by decide +kernel)
theorem ts_88 : Cond.selects yX10_aheadOf.cls yX10_aheadOf yX10_aheadOf ∈ Tb := tbs (i := 88) (n := 58) (by decide +kernel)
theorem ts_89 : Cond.selects yX10_drawDeed.cls yX10_drawDeed yX10_drawDeed ∈ Tb := tbs (i := 89) (n := 58) (by decide +kernel)
theorem ts_90 : Cond.selects yX10_draw.cls yX10_draw yX10_draw ∈ Tb := tbs (i := 90) (n := 58) (by decide +kernel)
theorem ts_91 : Cond.selects yX10_morning.cls yX10_morning yX10_morning ∈ Tb := tbs (i := 91) (n := 58) (by decide +kernel)
theorem ts_92 : Cond.selects yX10_canBegin.cls yX10_canBegin yX10_canBegin ∈ Tb := tbs (i := 92) (n := 58) (by decide +kernel)
theorem ts_93 : Cond.selects yX10_ofColour.cls yX10_ofColour yX10_ofColour ∈ Tb := tbs (i := 93) (n := 58) (by decide +kernel)
theorem ts_94 : Cond.selects yX10_copyAll.cls yX10_copyAll yX10_copyAll ∈ Tb := tbs (i := 94) (n := 58) (by decide +kernel)
