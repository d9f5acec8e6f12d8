/-! words of the law -/
theorem wd_1_0 : (Jvm.Cond.initialized "RiddlePressLaw") ∈ ab_T := ab_w1 0 rfl rfl
theorem wd_1_34 : (Jvm.Cond.classLink "RiddlePressLaw" (15 : Nat) "RiddlePress") ∈ ab_T := ab_w1 34 rfl rfl
theorem wd_1_35 : (Jvm.Cond.instantiable "RiddlePress" (5 : Nat)) ∈ ab_T := ab_w1 35 rfl rfl
theorem wd_1_36 : (Jvm.Cond.methodLink "RiddlePressLaw" (125 : Nat) ({ cls := "RiddlePress", name := "<init>", desc := "()V" } : Jvm.MethodName)) ∈ ab_T := ab_w1 36 rfl rfl
theorem wd_1_37 : (Jvm.Cond.instanceMethod ({ cls := "RiddlePress", name := "<init>", desc := "()V" } : Jvm.MethodName)) ∈ ab_T := ab_w1 37 rfl rfl
theorem wd_1_38 : (Jvm.Cond.code ({ cls := "RiddlePress", name := "<init>", desc := "()V" } : Jvm.MethodName) prog_1_method_1_code (1 : Nat) (Option.none : Option Jvm.ClassFile.FieldType)) ∈ ab_T := ab_w1 38 rfl rfl
theorem wd_1_84 : (Jvm.Cond.methodLink "RiddlePressLaw" (171 : Nat) ({ cls := "RiddlePress", name := "press", desc := "()J" } : Jvm.MethodName)) ∈ ab_T := ab_w1 84 rfl rfl
theorem wd_1_85 : (Jvm.Cond.instanceMethod ({ cls := "RiddlePress", name := "press", desc := "()J" } : Jvm.MethodName)) ∈ ab_T := ab_w1 85 rfl rfl
theorem wd_1_86 : (Jvm.Cond.selects "RiddlePress" ({ cls := "RiddlePress", name := "press", desc := "()J" } : Jvm.MethodName) ({ cls := "RiddlePress", name := "press", desc := "()J" } : Jvm.MethodName)) ∈ ab_T := ab_w1 86 rfl rfl
theorem wd_1_87 : (Jvm.Cond.code ({ cls := "RiddlePress", name := "press", desc := "()J" } : Jvm.MethodName) prog_1_method_28_code (1 : Nat) (Option.some Jvm.ClassFile.FieldType.long)) ∈ ab_T := ab_w1 87 rfl rfl
theorem wd_1_88 : (Jvm.Cond.methodLink "RiddlePressLaw" (128 : Nat) ({ cls := "RiddlePressLaw", name := "pick", desc := "([III)I" } : Jvm.MethodName)) ∈ ab_T := ab_w1 88 rfl rfl
theorem wd_1_89 : (Jvm.Cond.static ({ cls := "RiddlePressLaw", name := "pick", desc := "([III)I" } : Jvm.MethodName)) ∈ ab_T := ab_w1 89 rfl rfl
theorem wd_1_90 : (Jvm.Cond.code ({ cls := "RiddlePressLaw", name := "pick", desc := "([III)I" } : Jvm.MethodName) method_3_code (3 : Nat) (Option.some Jvm.ClassFile.FieldType.int)) ∈ ab_T := ab_w1 90 rfl rfl
theorem wd_1_91 : (Jvm.Cond.methodLink "RiddlePressLaw" (8 : Nat) ({ cls := "RiddlePressLaw", name := "cell", desc := "([II)I" } : Jvm.MethodName)) ∈ ab_T := ab_w1 91 rfl rfl
theorem wd_1_92 : (Jvm.Cond.static ({ cls := "RiddlePressLaw", name := "cell", desc := "([II)I" } : Jvm.MethodName)) ∈ ab_T := ab_w1 92 rfl rfl
theorem wd_1_93 : (Jvm.Cond.code ({ cls := "RiddlePressLaw", name := "cell", desc := "([II)I" } : Jvm.MethodName) method_2_code (2 : Nat) (Option.some Jvm.ClassFile.FieldType.int)) ∈ ab_T := ab_w1 93 rfl rfl
theorem wd_1_94 : (Jvm.Cond.constant "RiddlePressLaw" (7 : Nat) (40503 : Int32)) ∈ ab_T := ab_w1 94 rfl rfl
theorem wd_1_95 : (Jvm.Cond.methodLink "RiddlePressLaw" (150 : Nat) ({ cls := "RiddlePressLaw", name := "riddle", desc := "(LRiddlePress;I)I" } : Jvm.MethodName)) ∈ ab_T := ab_w1 95 rfl rfl
theorem wd_1_96 : (Jvm.Cond.static ({ cls := "RiddlePressLaw", name := "riddle", desc := "(LRiddlePress;I)I" } : Jvm.MethodName)) ∈ ab_T := ab_w1 96 rfl rfl
theorem wd_1_97 : (Jvm.Cond.codeWith ({ cls := "RiddlePressLaw", name := "riddle", desc := "(LRiddlePress;I)I" } : Jvm.MethodName) method_4_code (3 : Nat) (Option.some Jvm.ClassFile.FieldType.int) [((0 : Nat), (5 : Nat), (6 : Nat), (20 : Nat)), ((0 : Nat), (5 : Nat), (10 : Nat), (22 : Nat))]) ∈ ab_T := ab_w1 97 rfl rfl
theorem wd_1_98 : (Jvm.Cond.classLink "RiddlePressLaw" (20 : Nat) "java/lang/IllegalArgumentException") ∈ ab_T := ab_w1 98 rfl rfl
theorem wd_1_99 : (Jvm.Cond.classLink "RiddlePressLaw" (22 : Nat) "java/lang/IllegalStateException") ∈ ab_T := ab_w1 99 rfl rfl
theorem wd_1_100 : (Jvm.Cond.methodLink "RiddlePressLaw" (14 : Nat) ({ cls := "RiddlePress", name := "riddle", desc := "(I)I" } : Jvm.MethodName)) ∈ ab_T := ab_w1 100 rfl rfl
theorem wd_1_101 : (Jvm.Cond.instanceMethod ({ cls := "RiddlePress", name := "riddle", desc := "(I)I" } : Jvm.MethodName)) ∈ ab_T := ab_w1 101 rfl rfl
theorem wd_1_102 : (Jvm.Cond.selects "RiddlePress" ({ cls := "RiddlePress", name := "riddle", desc := "(I)I" } : Jvm.MethodName) ({ cls := "RiddlePress", name := "riddle", desc := "(I)I" } : Jvm.MethodName)) ∈ ab_T := ab_w1 102 rfl rfl
theorem wd_1_103 : (Jvm.Cond.code ({ cls := "RiddlePress", name := "riddle", desc := "(I)I" } : Jvm.MethodName) prog_1_method_2_code (2 : Nat) (Option.some Jvm.ClassFile.FieldType.int)) ∈ ab_T := ab_w1 103 rfl rfl
theorem wd_2_112 : (Jvm.Cond.methodLink "RiddlePressLaw" (155 : Nat) ({ cls := "RiddlePressLaw", name := "clue", desc := "(LRiddlePress;ICIII)I" } : Jvm.MethodName)) ∈ ab_T := ab_w2 112 rfl rfl
theorem wd_2_113 : (Jvm.Cond.static ({ cls := "RiddlePressLaw", name := "clue", desc := "(LRiddlePress;ICIII)I" } : Jvm.MethodName)) ∈ ab_T := ab_w2 113 rfl rfl
theorem wd_2_114 : (Jvm.Cond.codeWith ({ cls := "RiddlePressLaw", name := "clue", desc := "(LRiddlePress;ICIII)I" } : Jvm.MethodName) method_5_code (7 : Nat) (Option.some Jvm.ClassFile.FieldType.int) [((0 : Nat), (11 : Nat), (12 : Nat), (28 : Nat)), ((0 : Nat), (11 : Nat), (17 : Nat), (20 : Nat)), ((0 : Nat), (11 : Nat), (22 : Nat), (30 : Nat)), ((0 : Nat), (11 : Nat), (27 : Nat), (22 : Nat))]) ∈ ab_T := ab_w2 114 rfl rfl
theorem wd_2_115 : (Jvm.Cond.classLink "RiddlePressLaw" (28 : Nat) "java/lang/IndexOutOfBoundsException") ∈ ab_T := ab_w2 115 rfl rfl
theorem wd_2_139 : (Jvm.Cond.classLink "RiddlePressLaw" (30 : Nat) "java/lang/UnsupportedOperationException") ∈ ab_T := ab_w2 139 rfl rfl
theorem wd_2_140 : (Jvm.Cond.methodLink "RiddlePressLaw" (24 : Nat) ({ cls := "RiddlePress", name := "clue", desc := "(ICIII)I" } : Jvm.MethodName)) ∈ ab_T := ab_w2 140 rfl rfl
theorem wd_2_141 : (Jvm.Cond.instanceMethod ({ cls := "RiddlePress", name := "clue", desc := "(ICIII)I" } : Jvm.MethodName)) ∈ ab_T := ab_w2 141 rfl rfl
theorem wd_2_142 : (Jvm.Cond.selects "RiddlePress" ({ cls := "RiddlePress", name := "clue", desc := "(ICIII)I" } : Jvm.MethodName) ({ cls := "RiddlePress", name := "clue", desc := "(ICIII)I" } : Jvm.MethodName)) ∈ ab_T := ab_w2 142 rfl rfl
theorem wd_2_143 : (Jvm.Cond.code ({ cls := "RiddlePress", name := "clue", desc := "(ICIII)I" } : Jvm.MethodName) prog_1_method_3_code (8 : Nat) (Option.some Jvm.ClassFile.FieldType.int)) ∈ ab_T := ab_w2 143 rfl rfl
theorem wd_3_26 : (Jvm.Cond.fieldLink "java/lang/String" (1053 : Nat) "jdk/internal/util/Preconditions" "SIOOBE_FORMATTER" "Ljava/util/function/BiFunction;") ∈ ab_T := ab_w3 26 rfl rfl
theorem wd_3_81 : (Jvm.Cond.methodLink "RiddlePressLaw" (139 : Nat) ({ cls := "RiddlePressLaw", name := "rule", desc := "(LRiddlePress;CCZI)I" } : Jvm.MethodName)) ∈ ab_T := ab_w3 81 rfl rfl
theorem wd_3_82 : (Jvm.Cond.static ({ cls := "RiddlePressLaw", name := "rule", desc := "(LRiddlePress;CCZI)I" } : Jvm.MethodName)) ∈ ab_T := ab_w3 82 rfl rfl
theorem wd_3_83 : (Jvm.Cond.codeWith ({ cls := "RiddlePressLaw", name := "rule", desc := "(LRiddlePress;CCZI)I" } : Jvm.MethodName) method_15_code (6 : Nat) (Option.some Jvm.ClassFile.FieldType.int) [((0 : Nat), (9 : Nat), (10 : Nat), (20 : Nat)), ((0 : Nat), (9 : Nat), (15 : Nat), (22 : Nat))]) ∈ ab_T := ab_w3 83 rfl rfl
theorem wd_3_84 : (Jvm.Cond.methodLink "RiddlePressLaw" (64 : Nat) ({ cls := "RiddlePress", name := "rule", desc := "(CCZI)I" } : Jvm.MethodName)) ∈ ab_T := ab_w3 84 rfl rfl
theorem wd_3_85 : (Jvm.Cond.instanceMethod ({ cls := "RiddlePress", name := "rule", desc := "(CCZI)I" } : Jvm.MethodName)) ∈ ab_T := ab_w3 85 rfl rfl
theorem wd_3_86 : (Jvm.Cond.selects "RiddlePress" ({ cls := "RiddlePress", name := "rule", desc := "(CCZI)I" } : Jvm.MethodName) ({ cls := "RiddlePress", name := "rule", desc := "(CCZI)I" } : Jvm.MethodName)) ∈ ab_T := ab_w3 86 rfl rfl
theorem wd_3_87 : (Jvm.Cond.code ({ cls := "RiddlePress", name := "rule", desc := "(CCZI)I" } : Jvm.MethodName) prog_1_method_13_code (6 : Nat) (Option.some Jvm.ClassFile.FieldType.int)) ∈ ab_T := ab_w3 87 rfl rfl
theorem wd_3_179 : (Jvm.Cond.methodLink "RiddlePressLaw" (142 : Nat) ({ cls := "RiddlePressLaw", name := "customer", desc := "(LRiddlePress;)I" } : Jvm.MethodName)) ∈ ab_T := ab_w3 179 rfl rfl
theorem wd_3_180 : (Jvm.Cond.static ({ cls := "RiddlePressLaw", name := "customer", desc := "(LRiddlePress;)I" } : Jvm.MethodName)) ∈ ab_T := ab_w3 180 rfl rfl
theorem wd_3_181 : (Jvm.Cond.codeWith ({ cls := "RiddlePressLaw", name := "customer", desc := "(LRiddlePress;)I" } : Jvm.MethodName) method_24_code (2 : Nat) (Option.some Jvm.ClassFile.FieldType.int) [((0 : Nat), (4 : Nat), (5 : Nat), (22 : Nat))]) ∈ ab_T := ab_w3 181 rfl rfl
theorem wd_3_182 : (Jvm.Cond.methodLink "RiddlePressLaw" (94 : Nat) ({ cls := "RiddlePress", name := "customer", desc := "()I" } : Jvm.MethodName)) ∈ ab_T := ab_w3 182 rfl rfl
theorem wd_3_183 : (Jvm.Cond.instanceMethod ({ cls := "RiddlePress", name := "customer", desc := "()I" } : Jvm.MethodName)) ∈ ab_T := ab_w3 183 rfl rfl
theorem wd_3_184 : (Jvm.Cond.selects "RiddlePress" ({ cls := "RiddlePress", name := "customer", desc := "()I" } : Jvm.MethodName) ({ cls := "RiddlePress", name := "customer", desc := "()I" } : Jvm.MethodName)) ∈ ab_T := ab_w3 184 rfl rfl
theorem wd_3_185 : (Jvm.Cond.code ({ cls := "RiddlePress", name := "customer", desc := "()I" } : Jvm.MethodName) prog_1_method_22_code (1 : Nat) (Option.some Jvm.ClassFile.FieldType.int)) ∈ ab_T := ab_w3 185 rfl rfl
theorem wd_3_206 : (Jvm.Cond.methodLink "RiddlePressLaw" (145 : Nat) ({ cls := "RiddlePressLaw", name := "deposit", desc := "(LRiddlePress;II)I" } : Jvm.MethodName)) ∈ ab_T := ab_w3 206 rfl rfl
theorem wd_3_207 : (Jvm.Cond.static ({ cls := "RiddlePressLaw", name := "deposit", desc := "(LRiddlePress;II)I" } : Jvm.MethodName)) ∈ ab_T := ab_w3 207 rfl rfl
theorem wd_3_208 : (Jvm.Cond.codeWith ({ cls := "RiddlePressLaw", name := "deposit", desc := "(LRiddlePress;II)I" } : Jvm.MethodName) method_25_code (4 : Nat) (Option.some Jvm.ClassFile.FieldType.int) [((0 : Nat), (6 : Nat), (7 : Nat), (28 : Nat)), ((0 : Nat), (6 : Nat), (11 : Nat), (20 : Nat)), ((0 : Nat), (6 : Nat), (15 : Nat), (100 : Nat))]) ∈ ab_T := ab_w3 208 rfl rfl
theorem wd_3_209 : (Jvm.Cond.classLink "RiddlePressLaw" (100 : Nat) "java/lang/ArithmeticException") ∈ ab_T := ab_w3 209 rfl rfl
theorem wd_3_223 : (Jvm.Cond.methodLink "RiddlePressLaw" (97 : Nat) ({ cls := "RiddlePress", name := "deposit", desc := "(II)I" } : Jvm.MethodName)) ∈ ab_T := ab_w3 223 rfl rfl
theorem wd_3_224 : (Jvm.Cond.instanceMethod ({ cls := "RiddlePress", name := "deposit", desc := "(II)I" } : Jvm.MethodName)) ∈ ab_T := ab_w3 224 rfl rfl
theorem wd_3_225 : (Jvm.Cond.selects "RiddlePress" ({ cls := "RiddlePress", name := "deposit", desc := "(II)I" } : Jvm.MethodName) ({ cls := "RiddlePress", name := "deposit", desc := "(II)I" } : Jvm.MethodName)) ∈ ab_T := ab_w3 225 rfl rfl
theorem wd_3_226 : (Jvm.Cond.code ({ cls := "RiddlePress", name := "deposit", desc := "(II)I" } : Jvm.MethodName) prog_1_method_23_code (4 : Nat) (Option.some Jvm.ClassFile.FieldType.int)) ∈ ab_T := ab_w3 226 rfl rfl
theorem wd_3_238 : (Jvm.Cond.methodLink "RiddlePressLaw" (175 : Nat) ({ cls := "RiddlePressLaw", name := "credits", desc := "(LRiddlePress;I)I" } : Jvm.MethodName)) ∈ ab_T := ab_w3 238 rfl rfl
theorem wd_3_239 : (Jvm.Cond.static ({ cls := "RiddlePressLaw", name := "credits", desc := "(LRiddlePress;I)I" } : Jvm.MethodName)) ∈ ab_T := ab_w3 239 rfl rfl
theorem wd_4_0 : (Jvm.Cond.codeWith ({ cls := "RiddlePressLaw", name := "credits", desc := "(LRiddlePress;I)I" } : Jvm.MethodName) method_28_code (3 : Nat) (Option.some Jvm.ClassFile.FieldType.int) [((0 : Nat), (5 : Nat), (6 : Nat), (28 : Nat))]) ∈ ab_T := ab_w4 0 rfl rfl
theorem wd_4_1 : (Jvm.Cond.methodLink "RiddlePressLaw" (108 : Nat) ({ cls := "RiddlePress", name := "credits", desc := "(I)I" } : Jvm.MethodName)) ∈ ab_T := ab_w4 1 rfl rfl
theorem wd_4_2 : (Jvm.Cond.instanceMethod ({ cls := "RiddlePress", name := "credits", desc := "(I)I" } : Jvm.MethodName)) ∈ ab_T := ab_w4 2 rfl rfl
theorem wd_4_3 : (Jvm.Cond.selects "RiddlePress" ({ cls := "RiddlePress", name := "credits", desc := "(I)I" } : Jvm.MethodName) ({ cls := "RiddlePress", name := "credits", desc := "(I)I" } : Jvm.MethodName)) ∈ ab_T := ab_w4 3 rfl rfl
theorem wd_4_4 : (Jvm.Cond.code ({ cls := "RiddlePress", name := "credits", desc := "(I)I" } : Jvm.MethodName) prog_1_method_26_code (2 : Nat) (Option.some Jvm.ClassFile.FieldType.int)) ∈ ab_T := ab_w4 4 rfl rfl
theorem wd_4_5 : (Jvm.Cond.methodLink "RiddlePressLaw" (158 : Nat) ({ cls := "RiddlePressLaw", name := "acts", desc := "(LRiddlePress;[III)Z" } : Jvm.MethodName)) ∈ ab_T := ab_w4 5 rfl rfl
theorem wd_4_6 : (Jvm.Cond.static ({ cls := "RiddlePressLaw", name := "acts", desc := "(LRiddlePress;[III)Z" } : Jvm.MethodName)) ∈ ab_T := ab_w4 6 rfl rfl
theorem wd_4_7 : (Jvm.Cond.code ({ cls := "RiddlePressLaw", name := "acts", desc := "(LRiddlePress;[III)Z" } : Jvm.MethodName) method_33_code (10 : Nat) (Option.some Jvm.ClassFile.FieldType.boolean)) ∈ ab_T := ab_w4 7 rfl rfl
theorem wd_4_8 : (Jvm.Cond.methodLink "RiddlePressLaw" (180 : Nat) ({ cls := "RiddlePressLaw", name := "state", desc := "(LRiddlePress;I)I" } : Jvm.MethodName)) ∈ ab_T := ab_w4 8 rfl rfl
theorem wd_4_9 : (Jvm.Cond.static ({ cls := "RiddlePressLaw", name := "state", desc := "(LRiddlePress;I)I" } : Jvm.MethodName)) ∈ ab_T := ab_w4 9 rfl rfl
theorem wd_4_10 : (Jvm.Cond.codeWith ({ cls := "RiddlePressLaw", name := "state", desc := "(LRiddlePress;I)I" } : Jvm.MethodName) method_14_code (3 : Nat) (Option.some Jvm.ClassFile.FieldType.int) [((0 : Nat), (5 : Nat), (6 : Nat), (28 : Nat))]) ∈ ab_T := ab_w4 10 rfl rfl
theorem wd_4_11 : (Jvm.Cond.methodLink "RiddlePressLaw" (61 : Nat) ({ cls := "RiddlePress", name := "state", desc := "(I)C" } : Jvm.MethodName)) ∈ ab_T := ab_w4 11 rfl rfl
theorem wd_4_12 : (Jvm.Cond.instanceMethod ({ cls := "RiddlePress", name := "state", desc := "(I)C" } : Jvm.MethodName)) ∈ ab_T := ab_w4 12 rfl rfl
theorem wd_4_13 : (Jvm.Cond.selects "RiddlePress" ({ cls := "RiddlePress", name := "state", desc := "(I)C" } : Jvm.MethodName) ({ cls := "RiddlePress", name := "state", desc := "(I)C" } : Jvm.MethodName)) ∈ ab_T := ab_w4 13 rfl rfl
theorem wd_4_14 : (Jvm.Cond.code ({ cls := "RiddlePress", name := "state", desc := "(I)C" } : Jvm.MethodName) prog_1_method_12_code (2 : Nat) (Option.some Jvm.ClassFile.FieldType.char)) ∈ ab_T := ab_w4 14 rfl rfl
theorem wd_4_15 : (Jvm.Cond.methodLink "RiddlePressLaw" (182 : Nat) ({ cls := "RiddlePressLaw", name := "prove", desc := "(LRiddlePress;I)I" } : Jvm.MethodName)) ∈ ab_T := ab_w4 15 rfl rfl
theorem wd_4_16 : (Jvm.Cond.static ({ cls := "RiddlePressLaw", name := "prove", desc := "(LRiddlePress;I)I" } : Jvm.MethodName)) ∈ ab_T := ab_w4 16 rfl rfl
theorem wd_4_17 : (Jvm.Cond.codeWith ({ cls := "RiddlePressLaw", name := "prove", desc := "(LRiddlePress;I)I" } : Jvm.MethodName) method_8_code (3 : Nat) (Option.some Jvm.ClassFile.FieldType.int) [((0 : Nat), (5 : Nat), (6 : Nat), (28 : Nat)), ((0 : Nat), (5 : Nat), (10 : Nat), (30 : Nat))]) ∈ ab_T := ab_w4 17 rfl rfl
theorem wd_4_18 : (Jvm.Cond.methodLink "RiddlePressLaw" (41 : Nat) ({ cls := "RiddlePress", name := "prove", desc := "(I)C" } : Jvm.MethodName)) ∈ ab_T := ab_w4 18 rfl rfl
theorem wd_4_19 : (Jvm.Cond.instanceMethod ({ cls := "RiddlePress", name := "prove", desc := "(I)C" } : Jvm.MethodName)) ∈ ab_T := ab_w4 19 rfl rfl
theorem wd_4_20 : (Jvm.Cond.selects "RiddlePress" ({ cls := "RiddlePress", name := "prove", desc := "(I)C" } : Jvm.MethodName) ({ cls := "RiddlePress", name := "prove", desc := "(I)C" } : Jvm.MethodName)) ∈ ab_T := ab_w4 20 rfl rfl
theorem wd_4_21 : (Jvm.Cond.code ({ cls := "RiddlePress", name := "prove", desc := "(I)C" } : Jvm.MethodName) prog_1_method_6_code (3 : Nat) (Option.some Jvm.ClassFile.FieldType.char)) ∈ ab_T := ab_w4 21 rfl rfl
theorem wd_4_140 : (Jvm.Cond.methodLink "RiddlePressLaw" (184 : Nat) ({ cls := "RiddlePressLaw", name := "issue", desc := "(LRiddlePress;)I" } : Jvm.MethodName)) ∈ ab_T := ab_w4 140 rfl rfl
theorem wd_4_141 : (Jvm.Cond.static ({ cls := "RiddlePressLaw", name := "issue", desc := "(LRiddlePress;)I" } : Jvm.MethodName)) ∈ ab_T := ab_w4 141 rfl rfl
theorem wd_4_142 : (Jvm.Cond.codeWith ({ cls := "RiddlePressLaw", name := "issue", desc := "(LRiddlePress;)I" } : Jvm.MethodName) method_19_code (2 : Nat) (Option.some Jvm.ClassFile.FieldType.int) [((0 : Nat), (4 : Nat), (5 : Nat), (22 : Nat))]) ∈ ab_T := ab_w4 142 rfl rfl
theorem wd_4_143 : (Jvm.Cond.methodLink "RiddlePressLaw" (78 : Nat) ({ cls := "RiddlePress", name := "issue", desc := "()I" } : Jvm.MethodName)) ∈ ab_T := ab_w4 143 rfl rfl
theorem wd_4_144 : (Jvm.Cond.instanceMethod ({ cls := "RiddlePress", name := "issue", desc := "()I" } : Jvm.MethodName)) ∈ ab_T := ab_w4 144 rfl rfl
theorem wd_4_145 : (Jvm.Cond.selects "RiddlePress" ({ cls := "RiddlePress", name := "issue", desc := "()I" } : Jvm.MethodName) ({ cls := "RiddlePress", name := "issue", desc := "()I" } : Jvm.MethodName)) ∈ ab_T := ab_w4 145 rfl rfl
theorem wd_4_146 : (Jvm.Cond.code ({ cls := "RiddlePress", name := "issue", desc := "()I" } : Jvm.MethodName) prog_1_method_17_code (1 : Nat) (Option.some Jvm.ClassFile.FieldType.int)) ∈ ab_T := ab_w4 146 rfl rfl
theorem wd_4_163 : (Jvm.Cond.methodLink "RiddlePressLaw" (186 : Nat) ({ cls := "RiddlePressLaw", name := "issueState", desc := "(LRiddlePress;I)I" } : Jvm.MethodName)) ∈ ab_T := ab_w4 163 rfl rfl
theorem wd_4_164 : (Jvm.Cond.static ({ cls := "RiddlePressLaw", name := "issueState", desc := "(LRiddlePress;I)I" } : Jvm.MethodName)) ∈ ab_T := ab_w4 164 rfl rfl
theorem wd_4_165 : (Jvm.Cond.codeWith ({ cls := "RiddlePressLaw", name := "issueState", desc := "(LRiddlePress;I)I" } : Jvm.MethodName) method_22_code (3 : Nat) (Option.some Jvm.ClassFile.FieldType.int) [((0 : Nat), (5 : Nat), (6 : Nat), (28 : Nat))]) ∈ ab_T := ab_w4 165 rfl rfl
theorem wd_4_166 : (Jvm.Cond.methodLink "RiddlePressLaw" (88 : Nat) ({ cls := "RiddlePress", name := "issueState", desc := "(I)C" } : Jvm.MethodName)) ∈ ab_T := ab_w4 166 rfl rfl
theorem wd_4_167 : (Jvm.Cond.instanceMethod ({ cls := "RiddlePress", name := "issueState", desc := "(I)C" } : Jvm.MethodName)) ∈ ab_T := ab_w4 167 rfl rfl
theorem wd_4_168 : (Jvm.Cond.selects "RiddlePress" ({ cls := "RiddlePress", name := "issueState", desc := "(I)C" } : Jvm.MethodName) ({ cls := "RiddlePress", name := "issueState", desc := "(I)C" } : Jvm.MethodName)) ∈ ab_T := ab_w4 168 rfl rfl
theorem wd_4_169 : (Jvm.Cond.code ({ cls := "RiddlePress", name := "issueState", desc := "(I)C" } : Jvm.MethodName) prog_1_method_20_code (2 : Nat) (Option.some Jvm.ClassFile.FieldType.char)) ∈ ab_T := ab_w4 169 rfl rfl
theorem wd_4_175 : (Jvm.Cond.methodLink "RiddlePressLaw" (188 : Nat) ({ cls := "RiddlePressLaw", name := "publish", desc := "(LRiddlePress;II)I" } : Jvm.MethodName)) ∈ ab_T := ab_w4 175 rfl rfl
theorem wd_4_176 : (Jvm.Cond.static ({ cls := "RiddlePressLaw", name := "publish", desc := "(LRiddlePress;II)I" } : Jvm.MethodName)) ∈ ab_T := ab_w4 176 rfl rfl
theorem wd_4_177 : (Jvm.Cond.codeWith ({ cls := "RiddlePressLaw", name := "publish", desc := "(LRiddlePress;II)I" } : Jvm.MethodName) method_21_code (4 : Nat) (Option.some Jvm.ClassFile.FieldType.int) [((0 : Nat), (6 : Nat), (7 : Nat), (28 : Nat)), ((0 : Nat), (6 : Nat), (11 : Nat), (20 : Nat)), ((0 : Nat), (6 : Nat), (15 : Nat), (30 : Nat))]) ∈ ab_T := ab_w4 177 rfl rfl
theorem wd_4_178 : (Jvm.Cond.methodLink "RiddlePressLaw" (85 : Nat) ({ cls := "RiddlePress", name := "publish", desc := "(II)I" } : Jvm.MethodName)) ∈ ab_T := ab_w4 178 rfl rfl
theorem wd_4_179 : (Jvm.Cond.instanceMethod ({ cls := "RiddlePress", name := "publish", desc := "(II)I" } : Jvm.MethodName)) ∈ ab_T := ab_w4 179 rfl rfl
theorem wd_4_180 : (Jvm.Cond.selects "RiddlePress" ({ cls := "RiddlePress", name := "publish", desc := "(II)I" } : Jvm.MethodName) ({ cls := "RiddlePress", name := "publish", desc := "(II)I" } : Jvm.MethodName)) ∈ ab_T := ab_w4 180 rfl rfl
theorem wd_4_181 : (Jvm.Cond.code ({ cls := "RiddlePress", name := "publish", desc := "(II)I" } : Jvm.MethodName) prog_1_method_19_code (5 : Nat) (Option.some Jvm.ClassFile.FieldType.int)) ∈ ab_T := ab_w4 181 rfl rfl
theorem wd_4_200 : (Jvm.Cond.methodLink "RiddlePressLaw" (190 : Nat) ({ cls := "RiddlePressLaw", name := "put", desc := "(LRiddlePress;II)I" } : Jvm.MethodName)) ∈ ab_T := ab_w4 200 rfl rfl
theorem wd_4_201 : (Jvm.Cond.static ({ cls := "RiddlePressLaw", name := "put", desc := "(LRiddlePress;II)I" } : Jvm.MethodName)) ∈ ab_T := ab_w4 201 rfl rfl
theorem wd_4_202 : (Jvm.Cond.codeWith ({ cls := "RiddlePressLaw", name := "put", desc := "(LRiddlePress;II)I" } : Jvm.MethodName) method_20_code (4 : Nat) (Option.some Jvm.ClassFile.FieldType.int) [((0 : Nat), (6 : Nat), (7 : Nat), (28 : Nat)), ((0 : Nat), (6 : Nat), (11 : Nat), (30 : Nat)), ((0 : Nat), (6 : Nat), (15 : Nat), (22 : Nat))]) ∈ ab_T := ab_w4 202 rfl rfl
theorem wd_4_203 : (Jvm.Cond.methodLink "RiddlePressLaw" (82 : Nat) ({ cls := "RiddlePress", name := "put", desc := "(II)I" } : Jvm.MethodName)) ∈ ab_T := ab_w4 203 rfl rfl
theorem wd_4_204 : (Jvm.Cond.instanceMethod ({ cls := "RiddlePress", name := "put", desc := "(II)I" } : Jvm.MethodName)) ∈ ab_T := ab_w4 204 rfl rfl
theorem wd_4_205 : (Jvm.Cond.selects "RiddlePress" ({ cls := "RiddlePress", name := "put", desc := "(II)I" } : Jvm.MethodName) ({ cls := "RiddlePress", name := "put", desc := "(II)I" } : Jvm.MethodName)) ∈ ab_T := ab_w4 205 rfl rfl
theorem wd_4_206 : (Jvm.Cond.code ({ cls := "RiddlePress", name := "put", desc := "(II)I" } : Jvm.MethodName) prog_1_method_18_code (6 : Nat) (Option.some Jvm.ClassFile.FieldType.int)) ∈ ab_T := ab_w4 206 rfl rfl
theorem wd_4_212 : (Jvm.Cond.methodLink "RiddlePressLaw" (192 : Nat) ({ cls := "RiddlePressLaw", name := "subscribe", desc := "(LRiddlePress;II)I" } : Jvm.MethodName)) ∈ ab_T := ab_w4 212 rfl rfl
theorem wd_4_213 : (Jvm.Cond.static ({ cls := "RiddlePressLaw", name := "subscribe", desc := "(LRiddlePress;II)I" } : Jvm.MethodName)) ∈ ab_T := ab_w4 213 rfl rfl
theorem wd_4_214 : (Jvm.Cond.codeWith ({ cls := "RiddlePressLaw", name := "subscribe", desc := "(LRiddlePress;II)I" } : Jvm.MethodName) method_26_code (4 : Nat) (Option.some Jvm.ClassFile.FieldType.int) [((0 : Nat), (6 : Nat), (7 : Nat), (28 : Nat)), ((0 : Nat), (6 : Nat), (11 : Nat), (20 : Nat))]) ∈ ab_T := ab_w4 214 rfl rfl
theorem wd_4_215 : (Jvm.Cond.methodLink "RiddlePressLaw" (102 : Nat) ({ cls := "RiddlePress", name := "subscribe", desc := "(II)I" } : Jvm.MethodName)) ∈ ab_T := ab_w4 215 rfl rfl
theorem wd_4_216 : (Jvm.Cond.instanceMethod ({ cls := "RiddlePress", name := "subscribe", desc := "(II)I" } : Jvm.MethodName)) ∈ ab_T := ab_w4 216 rfl rfl
theorem wd_4_217 : (Jvm.Cond.selects "RiddlePress" ({ cls := "RiddlePress", name := "subscribe", desc := "(II)I" } : Jvm.MethodName) ({ cls := "RiddlePress", name := "subscribe", desc := "(II)I" } : Jvm.MethodName)) ∈ ab_T := ab_w4 217 rfl rfl
theorem wd_4_218 : (Jvm.Cond.code ({ cls := "RiddlePress", name := "subscribe", desc := "(II)I" } : Jvm.MethodName) prog_1_method_24_code (4 : Nat) (Option.some Jvm.ClassFile.FieldType.int)) ∈ ab_T := ab_w4 218 rfl rfl
theorem wd_4_220 : (Jvm.Cond.methodLink "RiddlePressLaw" (194 : Nat) ({ cls := "RiddlePressLaw", name := "buy", desc := "(LRiddlePress;II)I" } : Jvm.MethodName)) ∈ ab_T := ab_w4 220 rfl rfl
theorem wd_4_221 : (Jvm.Cond.static ({ cls := "RiddlePressLaw", name := "buy", desc := "(LRiddlePress;II)I" } : Jvm.MethodName)) ∈ ab_T := ab_w4 221 rfl rfl
theorem wd_4_222 : (Jvm.Cond.codeWith ({ cls := "RiddlePressLaw", name := "buy", desc := "(LRiddlePress;II)I" } : Jvm.MethodName) method_27_code (4 : Nat) (Option.some Jvm.ClassFile.FieldType.int) [((0 : Nat), (6 : Nat), (7 : Nat), (28 : Nat)), ((0 : Nat), (6 : Nat), (11 : Nat), (30 : Nat))]) ∈ ab_T := ab_w4 222 rfl rfl
theorem wd_4_223 : (Jvm.Cond.methodLink "RiddlePressLaw" (105 : Nat) ({ cls := "RiddlePress", name := "buy", desc := "(II)I" } : Jvm.MethodName)) ∈ ab_T := ab_w4 223 rfl rfl
theorem wd_4_224 : (Jvm.Cond.instanceMethod ({ cls := "RiddlePress", name := "buy", desc := "(II)I" } : Jvm.MethodName)) ∈ ab_T := ab_w4 224 rfl rfl
theorem wd_4_225 : (Jvm.Cond.selects "RiddlePress" ({ cls := "RiddlePress", name := "buy", desc := "(II)I" } : Jvm.MethodName) ({ cls := "RiddlePress", name := "buy", desc := "(II)I" } : Jvm.MethodName)) ∈ ab_T := ab_w4 225 rfl rfl
theorem wd_4_226 : (Jvm.Cond.code ({ cls := "RiddlePress", name := "buy", desc := "(II)I" } : Jvm.MethodName) prog_1_method_25_code (5 : Nat) (Option.some Jvm.ClassFile.FieldType.int)) ∈ ab_T := ab_w4 226 rfl rfl
theorem wd_4_232 : (Jvm.Cond.methodLink "RiddlePressLaw" (196 : Nat) ({ cls := "RiddlePressLaw", name := "has", desc := "(LRiddlePress;II)I" } : Jvm.MethodName)) ∈ ab_T := ab_w4 232 rfl rfl
theorem wd_4_233 : (Jvm.Cond.static ({ cls := "RiddlePressLaw", name := "has", desc := "(LRiddlePress;II)I" } : Jvm.MethodName)) ∈ ab_T := ab_w4 233 rfl rfl
theorem wd_4_234 : (Jvm.Cond.codeWith ({ cls := "RiddlePressLaw", name := "has", desc := "(LRiddlePress;II)I" } : Jvm.MethodName) method_29_code (4 : Nat) (Option.some Jvm.ClassFile.FieldType.int) [((0 : Nat), (14 : Nat), (15 : Nat), (28 : Nat))]) ∈ ab_T := ab_w4 234 rfl rfl
theorem wd_4_235 : (Jvm.Cond.methodLink "RiddlePressLaw" (111 : Nat) ({ cls := "RiddlePress", name := "has", desc := "(II)Z" } : Jvm.MethodName)) ∈ ab_T := ab_w4 235 rfl rfl
theorem wd_4_236 : (Jvm.Cond.instanceMethod ({ cls := "RiddlePress", name := "has", desc := "(II)Z" } : Jvm.MethodName)) ∈ ab_T := ab_w4 236 rfl rfl
theorem wd_4_237 : (Jvm.Cond.selects "RiddlePress" ({ cls := "RiddlePress", name := "has", desc := "(II)Z" } : Jvm.MethodName) ({ cls := "RiddlePress", name := "has", desc := "(II)Z" } : Jvm.MethodName)) ∈ ab_T := ab_w4 237 rfl rfl
theorem wd_4_238 : (Jvm.Cond.code ({ cls := "RiddlePress", name := "has", desc := "(II)Z" } : Jvm.MethodName) prog_1_method_27_code (4 : Nat) (Option.some Jvm.ClassFile.FieldType.boolean)) ∈ ab_T := ab_w4 238 rfl rfl
theorem wd_4_239 : (Jvm.Cond.methodLink "RiddlePressLaw" (198 : Nat) ({ cls := "RiddlePressLaw", name := "stands", desc := "(LRiddlePress;I)I" } : Jvm.MethodName)) ∈ ab_T := ab_w4 239 rfl rfl
theorem wd_5_0 : (Jvm.Cond.static ({ cls := "RiddlePressLaw", name := "stands", desc := "(LRiddlePress;I)I" } : Jvm.MethodName)) ∈ ab_T := ab_w5 0 rfl rfl
theorem wd_5_1 : (Jvm.Cond.codeWith ({ cls := "RiddlePressLaw", name := "stands", desc := "(LRiddlePress;I)I" } : Jvm.MethodName) method_16_code (3 : Nat) (Option.some Jvm.ClassFile.FieldType.int) [((0 : Nat), (13 : Nat), (14 : Nat), (28 : Nat))]) ∈ ab_T := ab_w5 1 rfl rfl
theorem wd_5_2 : (Jvm.Cond.methodLink "RiddlePressLaw" (68 : Nat) ({ cls := "RiddlePress", name := "stands", desc := "(I)Z" } : Jvm.MethodName)) ∈ ab_T := ab_w5 2 rfl rfl
theorem wd_5_3 : (Jvm.Cond.instanceMethod ({ cls := "RiddlePress", name := "stands", desc := "(I)Z" } : Jvm.MethodName)) ∈ ab_T := ab_w5 3 rfl rfl
theorem wd_5_4 : (Jvm.Cond.selects "RiddlePress" ({ cls := "RiddlePress", name := "stands", desc := "(I)Z" } : Jvm.MethodName) ({ cls := "RiddlePress", name := "stands", desc := "(I)Z" } : Jvm.MethodName)) ∈ ab_T := ab_w5 4 rfl rfl
theorem wd_5_5 : (Jvm.Cond.code ({ cls := "RiddlePress", name := "stands", desc := "(I)Z" } : Jvm.MethodName) prog_1_method_14_code (2 : Nat) (Option.some Jvm.ClassFile.FieldType.boolean)) ∈ ab_T := ab_w5 5 rfl rfl
theorem wd_5_16 : (Jvm.Cond.methodLink "RiddlePressLaw" (200 : Nat) ({ cls := "RiddlePressLaw", name := "counterexample", desc := "(LRiddlePress;I)I" } : Jvm.MethodName)) ∈ ab_T := ab_w5 16 rfl rfl
theorem wd_5_17 : (Jvm.Cond.static ({ cls := "RiddlePressLaw", name := "counterexample", desc := "(LRiddlePress;I)I" } : Jvm.MethodName)) ∈ ab_T := ab_w5 17 rfl rfl
theorem wd_5_18 : (Jvm.Cond.codeWith ({ cls := "RiddlePressLaw", name := "counterexample", desc := "(LRiddlePress;I)I" } : Jvm.MethodName) method_17_code (3 : Nat) (Option.some Jvm.ClassFile.FieldType.int) [((0 : Nat), (5 : Nat), (6 : Nat), (28 : Nat)), ((0 : Nat), (5 : Nat), (10 : Nat), (39 : Nat))]) ∈ ab_T := ab_w5 18 rfl rfl
theorem wd_5_19 : (Jvm.Cond.classLink "RiddlePressLaw" (39 : Nat) "java/util/NoSuchElementException") ∈ ab_T := ab_w5 19 rfl rfl
theorem wd_5_20 : (Jvm.Cond.methodLink "RiddlePressLaw" (72 : Nat) ({ cls := "RiddlePress", name := "counterexample", desc := "(I)I" } : Jvm.MethodName)) ∈ ab_T := ab_w5 20 rfl rfl
theorem wd_5_21 : (Jvm.Cond.instanceMethod ({ cls := "RiddlePress", name := "counterexample", desc := "(I)I" } : Jvm.MethodName)) ∈ ab_T := ab_w5 21 rfl rfl
theorem wd_5_22 : (Jvm.Cond.selects "RiddlePress" ({ cls := "RiddlePress", name := "counterexample", desc := "(I)I" } : Jvm.MethodName) ({ cls := "RiddlePress", name := "counterexample", desc := "(I)I" } : Jvm.MethodName)) ∈ ab_T := ab_w5 22 rfl rfl
theorem wd_5_23 : (Jvm.Cond.code ({ cls := "RiddlePress", name := "counterexample", desc := "(I)I" } : Jvm.MethodName) prog_1_method_15_code (3 : Nat) (Option.some Jvm.ClassFile.FieldType.int)) ∈ ab_T := ab_w5 23 rfl rfl
theorem wd_5_40 : (Jvm.Cond.methodLink "RiddlePressLaw" (202 : Nat) ({ cls := "RiddlePressLaw", name := "fall", desc := "(LRiddlePress;I)I" } : Jvm.MethodName)) ∈ ab_T := ab_w5 40 rfl rfl
theorem wd_5_41 : (Jvm.Cond.static ({ cls := "RiddlePressLaw", name := "fall", desc := "(LRiddlePress;I)I" } : Jvm.MethodName)) ∈ ab_T := ab_w5 41 rfl rfl
theorem wd_5_42 : (Jvm.Cond.codeWith ({ cls := "RiddlePressLaw", name := "fall", desc := "(LRiddlePress;I)I" } : Jvm.MethodName) method_18_code (3 : Nat) (Option.some Jvm.ClassFile.FieldType.int) [((0 : Nat), (5 : Nat), (6 : Nat), (28 : Nat)), ((0 : Nat), (5 : Nat), (10 : Nat), (30 : Nat))]) ∈ ab_T := ab_w5 42 rfl rfl
theorem wd_5_43 : (Jvm.Cond.methodLink "RiddlePressLaw" (75 : Nat) ({ cls := "RiddlePress", name := "fall", desc := "(I)I" } : Jvm.MethodName)) ∈ ab_T := ab_w5 43 rfl rfl
theorem wd_5_44 : (Jvm.Cond.instanceMethod ({ cls := "RiddlePress", name := "fall", desc := "(I)I" } : Jvm.MethodName)) ∈ ab_T := ab_w5 44 rfl rfl
theorem wd_5_45 : (Jvm.Cond.selects "RiddlePress" ({ cls := "RiddlePress", name := "fall", desc := "(I)I" } : Jvm.MethodName) ({ cls := "RiddlePress", name := "fall", desc := "(I)I" } : Jvm.MethodName)) ∈ ab_T := ab_w5 45 rfl rfl
theorem wd_5_46 : (Jvm.Cond.code ({ cls := "RiddlePress", name := "fall", desc := "(I)I" } : Jvm.MethodName) prog_1_method_16_code (5 : Nat) (Option.some Jvm.ClassFile.FieldType.int)) ∈ ab_T := ab_w5 46 rfl rfl
theorem wd_5_70 : (Jvm.Cond.methodLink "RiddlePressLaw" (204 : Nat) ({ cls := "RiddlePressLaw", name := "indexed", desc := "(LRiddlePress;I)I" } : Jvm.MethodName)) ∈ ab_T := ab_w5 70 rfl rfl
theorem wd_5_71 : (Jvm.Cond.static ({ cls := "RiddlePressLaw", name := "indexed", desc := "(LRiddlePress;I)I" } : Jvm.MethodName)) ∈ ab_T := ab_w5 71 rfl rfl
theorem wd_5_72 : (Jvm.Cond.codeWith ({ cls := "RiddlePressLaw", name := "indexed", desc := "(LRiddlePress;I)I" } : Jvm.MethodName) method_23_code (3 : Nat) (Option.some Jvm.ClassFile.FieldType.int) [((0 : Nat), (5 : Nat), (6 : Nat), (28 : Nat))]) ∈ ab_T := ab_w5 72 rfl rfl
theorem wd_5_73 : (Jvm.Cond.methodLink "RiddlePressLaw" (91 : Nat) ({ cls := "RiddlePress", name := "indexed", desc := "(I)I" } : Jvm.MethodName)) ∈ ab_T := ab_w5 73 rfl rfl
theorem wd_5_74 : (Jvm.Cond.instanceMethod ({ cls := "RiddlePress", name := "indexed", desc := "(I)I" } : Jvm.MethodName)) ∈ ab_T := ab_w5 74 rfl rfl
theorem wd_5_75 : (Jvm.Cond.selects "RiddlePress" ({ cls := "RiddlePress", name := "indexed", desc := "(I)I" } : Jvm.MethodName) ({ cls := "RiddlePress", name := "indexed", desc := "(I)I" } : Jvm.MethodName)) ∈ ab_T := ab_w5 75 rfl rfl
theorem wd_5_76 : (Jvm.Cond.code ({ cls := "RiddlePress", name := "indexed", desc := "(I)I" } : Jvm.MethodName) prog_1_method_21_code (4 : Nat) (Option.some Jvm.ClassFile.FieldType.int)) ∈ ab_T := ab_w5 76 rfl rfl
theorem wd_5_77 : (Jvm.Cond.methodLink "RiddlePressLaw" (206 : Nat) ({ cls := "RiddlePressLaw", name := "answers", desc := "(LRiddlePress;I)I" } : Jvm.MethodName)) ∈ ab_T := ab_w5 77 rfl rfl
theorem wd_5_78 : (Jvm.Cond.static ({ cls := "RiddlePressLaw", name := "answers", desc := "(LRiddlePress;I)I" } : Jvm.MethodName)) ∈ ab_T := ab_w5 78 rfl rfl
theorem wd_5_79 : (Jvm.Cond.codeWith ({ cls := "RiddlePressLaw", name := "answers", desc := "(LRiddlePress;I)I" } : Jvm.MethodName) method_6_code (3 : Nat) (Option.some Jvm.ClassFile.FieldType.int) [((0 : Nat), (5 : Nat), (6 : Nat), (28 : Nat))]) ∈ ab_T := ab_w5 79 rfl rfl
theorem wd_5_80 : (Jvm.Cond.methodLink "RiddlePressLaw" (32 : Nat) ({ cls := "RiddlePress", name := "answers", desc := "(I)I" } : Jvm.MethodName)) ∈ ab_T := ab_w5 80 rfl rfl
theorem wd_5_81 : (Jvm.Cond.instanceMethod ({ cls := "RiddlePress", name := "answers", desc := "(I)I" } : Jvm.MethodName)) ∈ ab_T := ab_w5 81 rfl rfl
theorem wd_5_82 : (Jvm.Cond.selects "RiddlePress" ({ cls := "RiddlePress", name := "answers", desc := "(I)I" } : Jvm.MethodName) ({ cls := "RiddlePress", name := "answers", desc := "(I)I" } : Jvm.MethodName)) ∈ ab_T := ab_w5 82 rfl rfl
theorem wd_5_83 : (Jvm.Cond.code ({ cls := "RiddlePress", name := "answers", desc := "(I)I" } : Jvm.MethodName) prog_1_method_4_code (3 : Nat) (Option.some Jvm.ClassFile.FieldType.int)) ∈ ab_T := ab_w5 83 rfl rfl
theorem wd_5_106 : (Jvm.Cond.methodLink "RiddlePressLaw" (162 : Nat) ({ cls := "RiddlePressLaw", name := "areRiddles", desc := "(LRiddlePress;)Z" } : Jvm.MethodName)) ∈ ab_T := ab_w5 106 rfl rfl
theorem wd_5_107 : (Jvm.Cond.static ({ cls := "RiddlePressLaw", name := "areRiddles", desc := "(LRiddlePress;)Z" } : Jvm.MethodName)) ∈ ab_T := ab_w5 107 rfl rfl
theorem wd_5_108 : (Jvm.Cond.code ({ cls := "RiddlePressLaw", name := "areRiddles", desc := "(LRiddlePress;)Z" } : Jvm.MethodName) method_34_code (9 : Nat) (Option.some Jvm.ClassFile.FieldType.boolean)) ∈ ab_T := ab_w5 108 rfl rfl
theorem wd_5_109 : (Jvm.Cond.methodLink "RiddlePressLaw" (208 : Nat) ({ cls := "RiddlePress", name := "isClean", desc := "()Z" } : Jvm.MethodName)) ∈ ab_T := ab_w5 109 rfl rfl
theorem wd_5_110 : (Jvm.Cond.instanceMethod ({ cls := "RiddlePress", name := "isClean", desc := "()Z" } : Jvm.MethodName)) ∈ ab_T := ab_w5 110 rfl rfl
theorem wd_5_111 : (Jvm.Cond.selects "RiddlePress" ({ cls := "RiddlePress", name := "isClean", desc := "()Z" } : Jvm.MethodName) ({ cls := "RiddlePress", name := "isClean", desc := "()Z" } : Jvm.MethodName)) ∈ ab_T := ab_w5 111 rfl rfl
theorem wd_5_112 : (Jvm.Cond.code ({ cls := "RiddlePress", name := "isClean", desc := "()Z" } : Jvm.MethodName) prog_1_method_29_code (2 : Nat) (Option.some Jvm.ClassFile.FieldType.boolean)) ∈ ab_T := ab_w5 112 rfl rfl
theorem wd_5_117 : (Jvm.Cond.methodLink "RiddlePressLaw" (212 : Nat) ({ cls := "RiddlePressLaw", name := "leansOn", desc := "(LRiddlePress;II)I" } : Jvm.MethodName)) ∈ ab_T := ab_w5 117 rfl rfl
theorem wd_5_118 : (Jvm.Cond.static ({ cls := "RiddlePressLaw", name := "leansOn", desc := "(LRiddlePress;II)I" } : Jvm.MethodName)) ∈ ab_T := ab_w5 118 rfl rfl
theorem wd_5_119 : (Jvm.Cond.codeWith ({ cls := "RiddlePressLaw", name := "leansOn", desc := "(LRiddlePress;II)I" } : Jvm.MethodName) method_13_code (4 : Nat) (Option.some Jvm.ClassFile.FieldType.int) [((0 : Nat), (14 : Nat), (15 : Nat), (28 : Nat))]) ∈ ab_T := ab_w5 119 rfl rfl
theorem wd_5_120 : (Jvm.Cond.methodLink "RiddlePressLaw" (57 : Nat) ({ cls := "RiddlePress", name := "leansOn", desc := "(II)Z" } : Jvm.MethodName)) ∈ ab_T := ab_w5 120 rfl rfl
theorem wd_5_121 : (Jvm.Cond.instanceMethod ({ cls := "RiddlePress", name := "leansOn", desc := "(II)Z" } : Jvm.MethodName)) ∈ ab_T := ab_w5 121 rfl rfl
theorem wd_5_122 : (Jvm.Cond.selects "RiddlePress" ({ cls := "RiddlePress", name := "leansOn", desc := "(II)Z" } : Jvm.MethodName) ({ cls := "RiddlePress", name := "leansOn", desc := "(II)Z" } : Jvm.MethodName)) ∈ ab_T := ab_w5 122 rfl rfl
theorem wd_5_123 : (Jvm.Cond.code ({ cls := "RiddlePress", name := "leansOn", desc := "(II)Z" } : Jvm.MethodName) prog_1_method_11_code (4 : Nat) (Option.some Jvm.ClassFile.FieldType.boolean)) ∈ ab_T := ab_w5 123 rfl rfl
theorem wd_5_124 : (Jvm.Cond.methodLink "RiddlePressLaw" (214 : Nat) ({ cls := "RiddlePressLaw", name := "steps", desc := "(LRiddlePress;I)I" } : Jvm.MethodName)) ∈ ab_T := ab_w5 124 rfl rfl
theorem wd_5_125 : (Jvm.Cond.static ({ cls := "RiddlePressLaw", name := "steps", desc := "(LRiddlePress;I)I" } : Jvm.MethodName)) ∈ ab_T := ab_w5 125 rfl rfl
theorem wd_5_126 : (Jvm.Cond.codeWith ({ cls := "RiddlePressLaw", name := "steps", desc := "(LRiddlePress;I)I" } : Jvm.MethodName) method_9_code (3 : Nat) (Option.some Jvm.ClassFile.FieldType.int) [((0 : Nat), (5 : Nat), (6 : Nat), (28 : Nat)), ((0 : Nat), (5 : Nat), (10 : Nat), (39 : Nat))]) ∈ ab_T := ab_w5 126 rfl rfl
theorem wd_5_127 : (Jvm.Cond.methodLink "RiddlePressLaw" (45 : Nat) ({ cls := "RiddlePress", name := "steps", desc := "(I)I" } : Jvm.MethodName)) ∈ ab_T := ab_w5 127 rfl rfl
theorem wd_5_128 : (Jvm.Cond.instanceMethod ({ cls := "RiddlePress", name := "steps", desc := "(I)I" } : Jvm.MethodName)) ∈ ab_T := ab_w5 128 rfl rfl
theorem wd_5_129 : (Jvm.Cond.selects "RiddlePress" ({ cls := "RiddlePress", name := "steps", desc := "(I)I" } : Jvm.MethodName) ({ cls := "RiddlePress", name := "steps", desc := "(I)I" } : Jvm.MethodName)) ∈ ab_T := ab_w5 129 rfl rfl
theorem wd_5_130 : (Jvm.Cond.code ({ cls := "RiddlePress", name := "steps", desc := "(I)I" } : Jvm.MethodName) prog_1_method_7_code (3 : Nat) (Option.some Jvm.ClassFile.FieldType.int)) ∈ ab_T := ab_w5 130 rfl rfl
theorem wd_5_133 : (Jvm.Cond.methodLink "RiddlePressLaw" (218 : Nat) ({ cls := "java/lang/String", name := "indexOf", desc := "(I)I" } : Jvm.MethodName)) ∈ ab_T := ab_w5 133 rfl rfl
theorem wd_5_134 : (Jvm.Cond.methodLink "RiddlePressLaw" (221 : Nat) ({ cls := "RiddlePressLaw", name := "takenAt", desc := "(LRiddlePress;II)I" } : Jvm.MethodName)) ∈ ab_T := ab_w5 134 rfl rfl
theorem wd_5_135 : (Jvm.Cond.static ({ cls := "RiddlePressLaw", name := "takenAt", desc := "(LRiddlePress;II)I" } : Jvm.MethodName)) ∈ ab_T := ab_w5 135 rfl rfl
theorem wd_5_136 : (Jvm.Cond.codeWith ({ cls := "RiddlePressLaw", name := "takenAt", desc := "(LRiddlePress;II)I" } : Jvm.MethodName) method_12_code (4 : Nat) (Option.some Jvm.ClassFile.FieldType.int) [((0 : Nat), (6 : Nat), (7 : Nat), (28 : Nat)), ((0 : Nat), (6 : Nat), (11 : Nat), (39 : Nat))]) ∈ ab_T := ab_w5 136 rfl rfl
theorem wd_5_137 : (Jvm.Cond.methodLink "RiddlePressLaw" (54 : Nat) ({ cls := "RiddlePress", name := "takenAt", desc := "(II)I" } : Jvm.MethodName)) ∈ ab_T := ab_w5 137 rfl rfl
theorem wd_5_138 : (Jvm.Cond.instanceMethod ({ cls := "RiddlePress", name := "takenAt", desc := "(II)I" } : Jvm.MethodName)) ∈ ab_T := ab_w5 138 rfl rfl
theorem wd_5_139 : (Jvm.Cond.selects "RiddlePress" ({ cls := "RiddlePress", name := "takenAt", desc := "(II)I" } : Jvm.MethodName) ({ cls := "RiddlePress", name := "takenAt", desc := "(II)I" } : Jvm.MethodName)) ∈ ab_T := ab_w5 139 rfl rfl
theorem wd_5_140 : (Jvm.Cond.code ({ cls := "RiddlePress", name := "takenAt", desc := "(II)I" } : Jvm.MethodName) prog_1_method_10_code (4 : Nat) (Option.some Jvm.ClassFile.FieldType.int)) ∈ ab_T := ab_w5 140 rfl rfl
theorem wd_5_146 : (Jvm.Cond.methodLink "RiddlePressLaw" (223 : Nat) ({ cls := "RiddlePressLaw", name := "ruleAt", desc := "(LRiddlePress;II)I" } : Jvm.MethodName)) ∈ ab_T := ab_w5 146 rfl rfl
theorem wd_5_147 : (Jvm.Cond.static ({ cls := "RiddlePressLaw", name := "ruleAt", desc := "(LRiddlePress;II)I" } : Jvm.MethodName)) ∈ ab_T := ab_w5 147 rfl rfl
theorem wd_5_148 : (Jvm.Cond.codeWith ({ cls := "RiddlePressLaw", name := "ruleAt", desc := "(LRiddlePress;II)I" } : Jvm.MethodName) method_10_code (4 : Nat) (Option.some Jvm.ClassFile.FieldType.int) [((0 : Nat), (6 : Nat), (7 : Nat), (28 : Nat)), ((0 : Nat), (6 : Nat), (11 : Nat), (39 : Nat))]) ∈ ab_T := ab_w5 148 rfl rfl
theorem wd_5_149 : (Jvm.Cond.methodLink "RiddlePressLaw" (48 : Nat) ({ cls := "RiddlePress", name := "ruleAt", desc := "(II)I" } : Jvm.MethodName)) ∈ ab_T := ab_w5 149 rfl rfl
theorem wd_5_150 : (Jvm.Cond.instanceMethod ({ cls := "RiddlePress", name := "ruleAt", desc := "(II)I" } : Jvm.MethodName)) ∈ ab_T := ab_w5 150 rfl rfl
theorem wd_5_151 : (Jvm.Cond.selects "RiddlePress" ({ cls := "RiddlePress", name := "ruleAt", desc := "(II)I" } : Jvm.MethodName) ({ cls := "RiddlePress", name := "ruleAt", desc := "(II)I" } : Jvm.MethodName)) ∈ ab_T := ab_w5 151 rfl rfl
theorem wd_5_152 : (Jvm.Cond.code ({ cls := "RiddlePress", name := "ruleAt", desc := "(II)I" } : Jvm.MethodName) prog_1_method_8_code (4 : Nat) (Option.some Jvm.ClassFile.FieldType.int)) ∈ ab_T := ab_w5 152 rfl rfl
theorem wd_5_153 : (Jvm.Cond.methodLink "RiddlePressLaw" (225 : Nat) ({ cls := "RiddlePressLaw", name := "causeAt", desc := "(LRiddlePress;II)I" } : Jvm.MethodName)) ∈ ab_T := ab_w5 153 rfl rfl
theorem wd_5_154 : (Jvm.Cond.static ({ cls := "RiddlePressLaw", name := "causeAt", desc := "(LRiddlePress;II)I" } : Jvm.MethodName)) ∈ ab_T := ab_w5 154 rfl rfl
theorem wd_5_155 : (Jvm.Cond.codeWith ({ cls := "RiddlePressLaw", name := "causeAt", desc := "(LRiddlePress;II)I" } : Jvm.MethodName) method_11_code (4 : Nat) (Option.some Jvm.ClassFile.FieldType.int) [((0 : Nat), (6 : Nat), (7 : Nat), (28 : Nat)), ((0 : Nat), (6 : Nat), (11 : Nat), (39 : Nat))]) ∈ ab_T := ab_w5 155 rfl rfl
theorem wd_5_156 : (Jvm.Cond.methodLink "RiddlePressLaw" (51 : Nat) ({ cls := "RiddlePress", name := "causeAt", desc := "(II)I" } : Jvm.MethodName)) ∈ ab_T := ab_w5 156 rfl rfl
theorem wd_5_157 : (Jvm.Cond.instanceMethod ({ cls := "RiddlePress", name := "causeAt", desc := "(II)I" } : Jvm.MethodName)) ∈ ab_T := ab_w5 157 rfl rfl
theorem wd_5_158 : (Jvm.Cond.selects "RiddlePress" ({ cls := "RiddlePress", name := "causeAt", desc := "(II)I" } : Jvm.MethodName) ({ cls := "RiddlePress", name := "causeAt", desc := "(II)I" } : Jvm.MethodName)) ∈ ab_T := ab_w5 158 rfl rfl
theorem wd_5_159 : (Jvm.Cond.code ({ cls := "RiddlePress", name := "causeAt", desc := "(II)I" } : Jvm.MethodName) prog_1_method_9_code (4 : Nat) (Option.some Jvm.ClassFile.FieldType.int)) ∈ ab_T := ab_w5 159 rfl rfl
theorem wd_5_160 : (Jvm.Cond.methodLink "RiddlePressLaw" (227 : Nat) ({ cls := "RiddlePressLaw", name := "provedShare", desc := "(LRiddlePress;)F" } : Jvm.MethodName)) ∈ ab_T := ab_w5 160 rfl rfl
theorem wd_5_161 : (Jvm.Cond.static ({ cls := "RiddlePressLaw", name := "provedShare", desc := "(LRiddlePress;)F" } : Jvm.MethodName)) ∈ ab_T := ab_w5 161 rfl rfl
theorem wd_5_162 : (Jvm.Cond.codeWith ({ cls := "RiddlePressLaw", name := "provedShare", desc := "(LRiddlePress;)F" } : Jvm.MethodName) method_30_code (2 : Nat) (Option.some Jvm.ClassFile.FieldType.float) [((0 : Nat), (4 : Nat), (5 : Nat), (100 : Nat))]) ∈ ab_T := ab_w5 162 rfl rfl
theorem wd_5_163 : (Jvm.Cond.methodLink "RiddlePressLaw" (114 : Nat) ({ cls := "RiddlePress", name := "provedShare", desc := "()F" } : Jvm.MethodName)) ∈ ab_T := ab_w5 163 rfl rfl
theorem wd_5_164 : (Jvm.Cond.instanceMethod ({ cls := "RiddlePress", name := "provedShare", desc := "()F" } : Jvm.MethodName)) ∈ ab_T := ab_w5 164 rfl rfl
theorem wd_5_165 : (Jvm.Cond.selects "RiddlePress" ({ cls := "RiddlePress", name := "provedShare", desc := "()F" } : Jvm.MethodName) ({ cls := "RiddlePress", name := "provedShare", desc := "()F" } : Jvm.MethodName)) ∈ ab_T := ab_w5 165 rfl rfl
theorem wd_5_166 : (Jvm.Cond.code ({ cls := "RiddlePress", name := "provedShare", desc := "()F" } : Jvm.MethodName) prog_1_method_30_code (1 : Nat) (Option.some Jvm.ClassFile.FieldType.float)) ∈ ab_T := ab_w5 166 rfl rfl
theorem wd_5_181 : (Jvm.Cond.constantFloat "RiddlePressLaw" (118 : Nat) (3264479232 : UInt32)) ∈ ab_T := ab_w5 181 rfl rfl
theorem wd_5_182 : (Jvm.Cond.methodLink "RiddlePressLaw" (230 : Nat) ({ cls := "RiddlePressLaw", name := "meanSteps", desc := "(LRiddlePress;)D" } : Jvm.MethodName)) ∈ ab_T := ab_w5 182 rfl rfl
theorem wd_5_183 : (Jvm.Cond.static ({ cls := "RiddlePressLaw", name := "meanSteps", desc := "(LRiddlePress;)D" } : Jvm.MethodName)) ∈ ab_T := ab_w5 183 rfl rfl
theorem wd_5_184 : (Jvm.Cond.codeWith ({ cls := "RiddlePressLaw", name := "meanSteps", desc := "(LRiddlePress;)D" } : Jvm.MethodName) method_31_code (2 : Nat) (Option.some Jvm.ClassFile.FieldType.double) [((0 : Nat), (4 : Nat), (5 : Nat), (100 : Nat))]) ∈ ab_T := ab_w5 184 rfl rfl
theorem wd_5_185 : (Jvm.Cond.methodLink "RiddlePressLaw" (119 : Nat) ({ cls := "RiddlePress", name := "meanSteps", desc := "()D" } : Jvm.MethodName)) ∈ ab_T := ab_w5 185 rfl rfl
theorem wd_5_186 : (Jvm.Cond.instanceMethod ({ cls := "RiddlePress", name := "meanSteps", desc := "()D" } : Jvm.MethodName)) ∈ ab_T := ab_w5 186 rfl rfl
theorem wd_5_187 : (Jvm.Cond.selects "RiddlePress" ({ cls := "RiddlePress", name := "meanSteps", desc := "()D" } : Jvm.MethodName) ({ cls := "RiddlePress", name := "meanSteps", desc := "()D" } : Jvm.MethodName)) ∈ ab_T := ab_w5 187 rfl rfl
theorem wd_5_188 : (Jvm.Cond.code ({ cls := "RiddlePress", name := "meanSteps", desc := "()D" } : Jvm.MethodName) prog_1_method_31_code (4 : Nat) (Option.some Jvm.ClassFile.FieldType.double)) ∈ ab_T := ab_w5 188 rfl rfl
theorem wd_5_190 : (Jvm.Cond.constantDouble "RiddlePressLaw" (123 : Nat) (13858279740860792832 : UInt64)) ∈ ab_T := ab_w5 190 rfl rfl
theorem wd_5_191 : (Jvm.Cond.methodLink "RiddlePressLaw" (166 : Nat) ({ cls := "RiddlePressLaw", name := "areIssues", desc := "(LRiddlePress;)Z" } : Jvm.MethodName)) ∈ ab_T := ab_w5 191 rfl rfl
theorem wd_5_192 : (Jvm.Cond.static ({ cls := "RiddlePressLaw", name := "areIssues", desc := "(LRiddlePress;)Z" } : Jvm.MethodName)) ∈ ab_T := ab_w5 192 rfl rfl
theorem wd_5_193 : (Jvm.Cond.code ({ cls := "RiddlePressLaw", name := "areIssues", desc := "(LRiddlePress;)Z" } : Jvm.MethodName) method_35_code (6 : Nat) (Option.some Jvm.ClassFile.FieldType.boolean)) ∈ ab_T := ab_w5 193 rfl rfl
theorem wd_5_194 : (Jvm.Cond.methodLink "RiddlePressLaw" (177 : Nat) ({ cls := "RiddlePressLaw", name := "isThrown", desc := "(LRiddlePress;)Z" } : Jvm.MethodName)) ∈ ab_T := ab_w5 194 rfl rfl
theorem wd_5_195 : (Jvm.Cond.static ({ cls := "RiddlePressLaw", name := "isThrown", desc := "(LRiddlePress;)Z" } : Jvm.MethodName)) ∈ ab_T := ab_w5 195 rfl rfl
theorem wd_5_196 : (Jvm.Cond.code ({ cls := "RiddlePressLaw", name := "isThrown", desc := "(LRiddlePress;)Z" } : Jvm.MethodName) method_36_code (6 : Nat) (Option.some Jvm.ClassFile.FieldType.boolean)) ∈ ab_T := ab_w5 196 rfl rfl
theorem wd_5_197 : (Jvm.Cond.methodLink "RiddlePressLaw" (233 : Nat) ({ cls := "RiddlePressLaw", name := "answer", desc := "(LRiddlePress;II)I" } : Jvm.MethodName)) ∈ ab_T := ab_w5 197 rfl rfl
theorem wd_5_198 : (Jvm.Cond.static ({ cls := "RiddlePressLaw", name := "answer", desc := "(LRiddlePress;II)I" } : Jvm.MethodName)) ∈ ab_T := ab_w5 198 rfl rfl
theorem wd_5_199 : (Jvm.Cond.codeWith ({ cls := "RiddlePressLaw", name := "answer", desc := "(LRiddlePress;II)I" } : Jvm.MethodName) method_7_code (4 : Nat) (Option.some Jvm.ClassFile.FieldType.int) [((0 : Nat), (6 : Nat), (7 : Nat), (28 : Nat)), ((0 : Nat), (6 : Nat), (11 : Nat), (39 : Nat))]) ∈ ab_T := ab_w5 199 rfl rfl
theorem wd_5_200 : (Jvm.Cond.methodLink "RiddlePressLaw" (35 : Nat) ({ cls := "RiddlePress", name := "answer", desc := "(II)I" } : Jvm.MethodName)) ∈ ab_T := ab_w5 200 rfl rfl
theorem wd_5_201 : (Jvm.Cond.instanceMethod ({ cls := "RiddlePress", name := "answer", desc := "(II)I" } : Jvm.MethodName)) ∈ ab_T := ab_w5 201 rfl rfl
theorem wd_5_202 : (Jvm.Cond.selects "RiddlePress" ({ cls := "RiddlePress", name := "answer", desc := "(II)I" } : Jvm.MethodName) ({ cls := "RiddlePress", name := "answer", desc := "(II)I" } : Jvm.MethodName)) ∈ ab_T := ab_w5 202 rfl rfl
theorem wd_5_203 : (Jvm.Cond.code ({ cls := "RiddlePress", name := "answer", desc := "(II)I" } : Jvm.MethodName) prog_1_method_5_code (4 : Nat) (Option.some Jvm.ClassFile.FieldType.int)) ∈ ab_T := ab_w5 203 rfl rfl
theorem wd_5_206 : (Jvm.Cond.methodLink "RiddlePressLaw" (132 : Nat) ({ cls := "java/lang/String", name := "charAt", desc := "(I)C" } : Jvm.MethodName)) ∈ ab_T := ab_w5 206 rfl rfl
theorem wd_5_207 : (Jvm.Cond.instanceMethod ({ cls := "java/lang/String", name := "charAt", desc := "(I)C" } : Jvm.MethodName)) ∈ ab_T := ab_w5 207 rfl rfl
theorem wd_5_208 : (Jvm.Cond.selects "java/lang/String" ({ cls := "java/lang/String", name := "charAt", desc := "(I)C" } : Jvm.MethodName) ({ cls := "java/lang/String", name := "charAt", desc := "(I)C" } : Jvm.MethodName)) ∈ ab_T := ab_w5 208 rfl rfl
theorem wd_5_209 : (Jvm.Cond.code ({ cls := "java/lang/String", name := "charAt", desc := "(I)C" } : Jvm.MethodName) prog_27_method_56_code (2 : Nat) (Option.some Jvm.ClassFile.FieldType.char)) ∈ ab_T := ab_w5 209 rfl rfl
theorem wd_5_210 : (Jvm.Cond.methodLink "java/lang/String" (495 : Nat) ({ cls := "java/lang/StringLatin1", name := "charAt", desc := "([BI)C" } : Jvm.MethodName)) ∈ ab_T := ab_w5 210 rfl rfl
theorem wd_5_211 : (Jvm.Cond.static ({ cls := "java/lang/StringLatin1", name := "charAt", desc := "([BI)C" } : Jvm.MethodName)) ∈ ab_T := ab_w5 211 rfl rfl
theorem wd_5_212 : (Jvm.Cond.code ({ cls := "java/lang/StringLatin1", name := "charAt", desc := "([BI)C" } : Jvm.MethodName) prog_28_method_2_code (2 : Nat) (Option.some Jvm.ClassFile.FieldType.char)) ∈ ab_T := ab_w5 212 rfl rfl
theorem wd_5_213 : (Jvm.Cond.methodLink "java/lang/StringLatin1" (9 : Nat) ({ cls := "java/lang/String", name := "checkIndex", desc := "(II)V" } : Jvm.MethodName)) ∈ ab_T := ab_w5 213 rfl rfl
theorem wd_5_214 : (Jvm.Cond.static ({ cls := "java/lang/String", name := "checkIndex", desc := "(II)V" } : Jvm.MethodName)) ∈ ab_T := ab_w5 214 rfl rfl
theorem wd_5_215 : (Jvm.Cond.code ({ cls := "java/lang/String", name := "checkIndex", desc := "(II)V" } : Jvm.MethodName) prog_27_method_155_code (2 : Nat) (Option.none : Option Jvm.ClassFile.FieldType)) ∈ ab_T := ab_w5 215 rfl rfl
theorem wd_5_216 : (Jvm.Cond.methodLink "java/lang/String" (1059 : Nat) ({ cls := "jdk/internal/util/Preconditions", name := "checkIndex", desc := "(IILjava/util/function/BiFunction;)I" } : Jvm.MethodName)) ∈ ab_T := ab_w5 216 rfl rfl
theorem wd_5_226 : (Jvm.Cond.constantLong "RiddlePressLaw" (148 : Nat) (150 : Int64)) ∈ ab_T := ab_w5 226 rfl rfl
theorem wd_5_228 : (Jvm.Cond.constantLong "RiddlePressLaw" (169 : Nat) (10 : Int64)) ∈ ab_T := ab_w5 228 rfl rfl
theorem dJ0_charAt_5068e_0 : decode cJ0_charAt_5068e 0 = .ok (.aload_n 0, 1) := by decide +kernel
theorem dJ0_charAt_5068e_1 : decode cJ0_charAt_5068e 1 = .ok (.invokevirtual 492, 3) := by decide +kernel
theorem dJ0_charAt_5068e_4 : decode cJ0_charAt_5068e 4 = .ok (.ifCond .eq 12, 3) := by decide +kernel
theorem dJ0_charAt_5068e_7 : decode cJ0_charAt_5068e 7 = .ok (.aload_n 0, 1) := by decide +kernel
theorem dJ0_charAt_5068e_8 : decode cJ0_charAt_5068e 8 = .ok (.getfield 9, 3) := by decide +kernel
theorem dJ0_charAt_5068e_11 : decode cJ0_charAt_5068e 11 = .ok (.iload_n 1, 1) := by decide +kernel
theorem dJ0_charAt_5068e_12 : decode cJ0_charAt_5068e 12 = .ok (.invokestatic 495, 3) := by decide +kernel
theorem dJ0_charAt_5068e_15 : decode cJ0_charAt_5068e 15 = .ok (.ireturn, 1) := by decide +kernel
theorem dJ0_charAt_5068e_16 : decode cJ0_charAt_5068e 16 = .ok (.aload_n 0, 1) := by decide +kernel
theorem dJ0_charAt_5068e_17 : decode cJ0_charAt_5068e 17 = .ok (.getfield 9, 3) := by decide +kernel
theorem dJ0_charAt_5068e_20 : decode cJ0_charAt_5068e 20 = .ok (.iload_n 1, 1) := by decide +kernel
theorem dJ0_charAt_5068e_21 : decode cJ0_charAt_5068e 21 = .ok (.invokestatic 498, 3) := by decide +kernel
theorem dJ0_charAt_5068e_24 : decode cJ0_charAt_5068e 24 = .ok (.ireturn, 1) := by decide +kernel
theorem dJ0_checkIndex_df160_0 : decode cJ0_checkIndex_df160 0 = .ok (.iload_n 0, 1) := by decide +kernel
theorem dJ0_checkIndex_df160_1 : decode cJ0_checkIndex_df160 1 = .ok (.iload_n 1, 1) := by decide +kernel
theorem dJ0_checkIndex_df160_2 : decode cJ0_checkIndex_df160 2 = .ok (.getstatic 1053, 3) := by decide +kernel
theorem dJ0_checkIndex_df160_5 : decode cJ0_checkIndex_df160 5 = .ok (.invokestatic 1059, 3) := by decide +kernel
theorem dJ0_checkIndex_df160_8 : decode cJ0_checkIndex_df160 8 = .ok (.pop, 1) := by decide +kernel
theorem dJ0_checkIndex_df160_9 : decode cJ0_checkIndex_df160 9 = .ok (.return_, 1) := by decide +kernel
theorem dJ1_charAt_3b067_0 : decode cJ1_charAt_3b067 0 = .ok (.iload_n 1, 1) := by decide +kernel
theorem dJ1_charAt_3b067_1 : decode cJ1_charAt_3b067 1 = .ok (.aload_n 0, 1) := by decide +kernel
theorem dJ1_charAt_3b067_2 : decode cJ1_charAt_3b067 2 = .ok (.arraylength, 1) := by decide +kernel
theorem dJ1_charAt_3b067_3 : decode cJ1_charAt_3b067 3 = .ok (.invokestatic 9, 3) := by decide +kernel
theorem dJ1_charAt_3b067_6 : decode cJ1_charAt_3b067 6 = .ok (.aload_n 0, 1) := by decide +kernel
theorem dJ1_charAt_3b067_7 : decode cJ1_charAt_3b067 7 = .ok (.iload_n 1, 1) := by decide +kernel
theorem dJ1_charAt_3b067_8 : decode cJ1_charAt_3b067 8 = .ok (.baload, 1) := by decide +kernel
theorem dJ1_charAt_3b067_9 : decode cJ1_charAt_3b067 9 = .ok (.sipush 255, 3) := by decide +kernel
theorem dJ1_charAt_3b067_12 : decode cJ1_charAt_3b067 12 = .ok (.iand, 1) := by decide +kernel
theorem dJ1_charAt_3b067_13 : decode cJ1_charAt_3b067 13 = .ok (.i2c, 1) := by decide +kernel
theorem dJ1_charAt_3b067_14 : decode cJ1_charAt_3b067 14 = .ok (.ireturn, 1) := by decide +kernel
theorem dL_cell_0 : decode cL_cell 0 = .ok (.iload_n 1, 1) := by decide +kernel
theorem dL_cell_1 : decode cL_cell 1 = .ok (.aload_n 0, 1) := by decide +kernel
theorem dL_cell_2 : decode cL_cell 2 = .ok (.arraylength, 1) := by decide +kernel
theorem dL_cell_3 : decode cL_cell 3 = .ok (.if_icmp .ge 9, 3) := by decide +kernel
theorem dL_cell_6 : decode cL_cell 6 = .ok (.aload_n 0, 1) := by decide +kernel
theorem dL_cell_7 : decode cL_cell 7 = .ok (.iload_n 1, 1) := by decide +kernel
theorem dL_cell_8 : decode cL_cell 8 = .ok (.iaload, 1) := by decide +kernel
theorem dL_cell_9 : decode cL_cell 9 = .ok (.goto 7, 3) := by decide +kernel
theorem dL_cell_12 : decode cL_cell 12 = .ok (.ldc 7, 2) := by decide +kernel
theorem dL_cell_14 : decode cL_cell 14 = .ok (.iload_n 1, 1) := by decide +kernel
theorem dL_cell_15 : decode cL_cell 15 = .ok (.imul, 1) := by decide +kernel
theorem dL_cell_16 : decode cL_cell 16 = .ok (.ireturn, 1) := by decide +kernel
theorem dL_pick_0 : decode cL_pick 0 = .ok (.aload_n 0, 1) := by decide +kernel
theorem dL_pick_1 : decode cL_pick 1 = .ok (.iload_n 1, 1) := by decide +kernel
theorem dL_pick_2 : decode cL_pick 2 = .ok (.invokestatic 8, 3) := by decide +kernel
theorem dL_pick_5 : decode cL_pick 5 = .ok (.iconst 1, 1) := by decide +kernel
theorem dL_pick_6 : decode cL_pick 6 = .ok (.iushr, 1) := by decide +kernel
theorem dL_pick_7 : decode cL_pick 7 = .ok (.iload_n 2, 1) := by decide +kernel
theorem dL_pick_8 : decode cL_pick 8 = .ok (.irem, 1) := by decide +kernel
theorem dL_pick_9 : decode cL_pick 9 = .ok (.ireturn, 1) := by decide +kernel
theorem dL_riddle_0 : decode cL_riddle 0 = .ok (.aload_n 0, 1) := by decide +kernel
theorem dL_riddle_1 : decode cL_riddle 1 = .ok (.iload_n 1, 1) := by decide +kernel
theorem dL_riddle_2 : decode cL_riddle 2 = .ok (.invokevirtual 14, 3) := by decide +kernel
theorem dL_riddle_5 : decode cL_riddle 5 = .ok (.ireturn, 1) := by decide +kernel
theorem dL_riddle_6 : decode cL_riddle 6 = .ok (.astore_n 2, 1) := by decide +kernel
theorem dL_riddle_7 : decode cL_riddle 7 = .ok (.bipush (-78), 2) := by decide +kernel
theorem dL_riddle_9 : decode cL_riddle 9 = .ok (.ireturn, 1) := by decide +kernel
theorem dL_riddle_10 : decode cL_riddle 10 = .ok (.astore_n 2, 1) := by decide +kernel
theorem dL_riddle_11 : decode cL_riddle 11 = .ok (.bipush (-79), 2) := by decide +kernel
theorem dL_riddle_13 : decode cL_riddle 13 = .ok (.ireturn, 1) := by decide +kernel
theorem dL_clue_0 : decode cL_clue 0 = .ok (.aload_n 0, 1) := by decide +kernel
theorem dL_clue_1 : decode cL_clue 1 = .ok (.iload_n 1, 1) := by decide +kernel
theorem dL_clue_2 : decode cL_clue 2 = .ok (.iload_n 2, 1) := by decide +kernel
theorem dL_clue_3 : decode cL_clue 3 = .ok (.iload_n 3, 1) := by decide +kernel
theorem dL_clue_4 : decode cL_clue 4 = .ok (.iload 4, 2) := by decide +kernel
theorem dL_clue_6 : decode cL_clue 6 = .ok (.iload 5, 2) := by decide +kernel
theorem dL_clue_8 : decode cL_clue 8 = .ok (.invokevirtual 24, 3) := by decide +kernel
theorem dL_clue_11 : decode cL_clue 11 = .ok (.ireturn, 1) := by decide +kernel
theorem dL_clue_12 : decode cL_clue 12 = .ok (.astore 6, 2) := by decide +kernel
theorem dL_clue_14 : decode cL_clue 14 = .ok (.bipush (-77), 2) := by decide +kernel
theorem dL_clue_16 : decode cL_clue 16 = .ok (.ireturn, 1) := by decide +kernel
theorem dL_clue_17 : decode cL_clue 17 = .ok (.astore 6, 2) := by decide +kernel
theorem dL_clue_19 : decode cL_clue 19 = .ok (.bipush (-78), 2) := by decide +kernel
theorem dL_clue_21 : decode cL_clue 21 = .ok (.ireturn, 1) := by decide +kernel
theorem dL_clue_22 : decode cL_clue 22 = .ok (.astore 6, 2) := by decide +kernel
theorem dL_clue_24 : decode cL_clue 24 = .ok (.bipush (-76), 2) := by decide +kernel
theorem dL_clue_26 : decode cL_clue 26 = .ok (.ireturn, 1) := by decide +kernel
theorem dL_clue_27 : decode cL_clue 27 = .ok (.astore 6, 2) := by decide +kernel
theorem dL_clue_29 : decode cL_clue 29 = .ok (.bipush (-79), 2) := by decide +kernel
theorem dL_clue_31 : decode cL_clue 31 = .ok (.ireturn, 1) := by decide +kernel
theorem dL_answers_0 : decode cL_answers 0 = .ok (.aload_n 0, 1) := by decide +kernel
theorem dL_answers_1 : decode cL_answers 1 = .ok (.iload_n 1, 1) := by decide +kernel
theorem dL_answers_2 : decode cL_answers 2 = .ok (.invokevirtual 32, 3) := by decide +kernel
theorem dL_answers_5 : decode cL_answers 5 = .ok (.ireturn, 1) := by decide +kernel
theorem dL_answers_6 : decode cL_answers 6 = .ok (.astore_n 2, 1) := by decide +kernel
theorem dL_answers_7 : decode cL_answers 7 = .ok (.bipush (-77), 2) := by decide +kernel
theorem dL_answers_9 : decode cL_answers 9 = .ok (.ireturn, 1) := by decide +kernel
theorem dL_answer_0 : decode cL_answer 0 = .ok (.aload_n 0, 1) := by decide +kernel
theorem dL_answer_1 : decode cL_answer 1 = .ok (.iload_n 1, 1) := by decide +kernel
theorem dL_answer_2 : decode cL_answer 2 = .ok (.iload_n 2, 1) := by decide +kernel
theorem dL_answer_3 : decode cL_answer 3 = .ok (.invokevirtual 35, 3) := by decide +kernel
theorem dL_answer_6 : decode cL_answer 6 = .ok (.ireturn, 1) := by decide +kernel
theorem dL_answer_7 : decode cL_answer 7 = .ok (.astore_n 3, 1) := by decide +kernel
theorem dL_answer_8 : decode cL_answer 8 = .ok (.bipush (-77), 2) := by decide +kernel
theorem dL_answer_10 : decode cL_answer 10 = .ok (.ireturn, 1) := by decide +kernel
theorem dL_answer_11 : decode cL_answer 11 = .ok (.astore_n 3, 1) := by decide +kernel
theorem dL_answer_12 : decode cL_answer 12 = .ok (.bipush (-75), 2) := by decide +kernel
theorem dL_answer_14 : decode cL_answer 14 = .ok (.ireturn, 1) := by decide +kernel
theorem dL_prove_0 : decode cL_prove 0 = .ok (.aload_n 0, 1) := by decide +kernel
theorem dL_prove_1 : decode cL_prove 1 = .ok (.iload_n 1, 1) := by decide +kernel
theorem dL_prove_2 : decode cL_prove 2 = .ok (.invokevirtual 41, 3) := by decide +kernel
theorem dL_prove_5 : decode cL_prove 5 = .ok (.ireturn, 1) := by decide +kernel
theorem dL_prove_6 : decode cL_prove 6 = .ok (.astore_n 2, 1) := by decide +kernel
theorem dL_prove_7 : decode cL_prove 7 = .ok (.bipush (-77), 2) := by decide +kernel
theorem dL_prove_9 : decode cL_prove 9 = .ok (.ireturn, 1) := by decide +kernel
theorem dL_prove_10 : decode cL_prove 10 = .ok (.astore_n 2, 1) := by decide +kernel
theorem dL_prove_11 : decode cL_prove 11 = .ok (.bipush (-76), 2) := by decide +kernel
theorem dL_prove_13 : decode cL_prove 13 = .ok (.ireturn, 1) := by decide +kernel
theorem dL_steps_0 : decode cL_steps 0 = .ok (.aload_n 0, 1) := by decide +kernel
theorem dL_steps_1 : decode cL_steps 1 = .ok (.iload_n 1, 1) := by decide +kernel
theorem dL_steps_2 : decode cL_steps 2 = .ok (.invokevirtual 45, 3) := by decide +kernel
theorem dL_steps_5 : decode cL_steps 5 = .ok (.ireturn, 1) := by decide +kernel
theorem dL_steps_6 : decode cL_steps 6 = .ok (.astore_n 2, 1) := by decide +kernel
theorem dL_steps_7 : decode cL_steps 7 = .ok (.bipush (-77), 2) := by decide +kernel
theorem dL_steps_9 : decode cL_steps 9 = .ok (.ireturn, 1) := by decide +kernel
theorem dL_steps_10 : decode cL_steps 10 = .ok (.astore_n 2, 1) := by decide +kernel
theorem dL_steps_11 : decode cL_steps 11 = .ok (.bipush (-75), 2) := by decide +kernel
theorem dL_steps_13 : decode cL_steps 13 = .ok (.ireturn, 1) := by decide +kernel
theorem dL_ruleAt_0 : decode cL_ruleAt 0 = .ok (.aload_n 0, 1) := by decide +kernel
theorem dL_ruleAt_1 : decode cL_ruleAt 1 = .ok (.iload_n 1, 1) := by decide +kernel
theorem dL_ruleAt_2 : decode cL_ruleAt 2 = .ok (.iload_n 2, 1) := by decide +kernel
theorem dL_ruleAt_3 : decode cL_ruleAt 3 = .ok (.invokevirtual 48, 3) := by decide +kernel
theorem dL_ruleAt_6 : decode cL_ruleAt 6 = .ok (.ireturn, 1) := by decide +kernel
theorem dL_ruleAt_7 : decode cL_ruleAt 7 = .ok (.astore_n 3, 1) := by decide +kernel
theorem dL_ruleAt_8 : decode cL_ruleAt 8 = .ok (.bipush (-77), 2) := by decide +kernel
theorem dL_ruleAt_10 : decode cL_ruleAt 10 = .ok (.ireturn, 1) := by decide +kernel
theorem dL_ruleAt_11 : decode cL_ruleAt 11 = .ok (.astore_n 3, 1) := by decide +kernel
theorem dL_ruleAt_12 : decode cL_ruleAt 12 = .ok (.bipush (-75), 2) := by decide +kernel
theorem dL_ruleAt_14 : decode cL_ruleAt 14 = .ok (.ireturn, 1) := by decide +kernel
theorem dL_causeAt_0 : decode cL_causeAt 0 = .ok (.aload_n 0, 1) := by decide +kernel
theorem dL_causeAt_1 : decode cL_causeAt 1 = .ok (.iload_n 1, 1) := by decide +kernel
theorem dL_causeAt_2 : decode cL_causeAt 2 = .ok (.iload_n 2, 1) := by decide +kernel
theorem dL_causeAt_3 : decode cL_causeAt 3 = .ok (.invokevirtual 51, 3) := by decide +kernel
theorem dL_causeAt_6 : decode cL_causeAt 6 = .ok (.ireturn, 1) := by decide +kernel
theorem dL_causeAt_7 : decode cL_causeAt 7 = .ok (.astore_n 3, 1) := by decide +kernel
theorem dL_causeAt_8 : decode cL_causeAt 8 = .ok (.bipush (-77), 2) := by decide +kernel
theorem dL_causeAt_10 : decode cL_causeAt 10 = .ok (.ireturn, 1) := by decide +kernel
theorem dL_causeAt_11 : decode cL_causeAt 11 = .ok (.astore_n 3, 1) := by decide +kernel
theorem dL_causeAt_12 : decode cL_causeAt 12 = .ok (.bipush (-75), 2) := by decide +kernel
theorem dL_causeAt_14 : decode cL_causeAt 14 = .ok (.ireturn, 1) := by decide +kernel
theorem dL_takenAt_0 : decode cL_takenAt 0 = .ok (.aload_n 0, 1) := by decide +kernel
theorem dL_takenAt_1 : decode cL_takenAt 1 = .ok (.iload_n 1, 1) := by decide +kernel
theorem dL_takenAt_2 : decode cL_takenAt 2 = .ok (.iload_n 2, 1) := by decide +kernel
theorem dL_takenAt_3 : decode cL_takenAt 3 = .ok (.invokevirtual 54, 3) := by decide +kernel
theorem dL_takenAt_6 : decode cL_takenAt 6 = .ok (.ireturn, 1) := by decide +kernel
theorem dL_takenAt_7 : decode cL_takenAt 7 = .ok (.astore_n 3, 1) := by decide +kernel
theorem dL_takenAt_8 : decode cL_takenAt 8 = .ok (.bipush (-77), 2) := by decide +kernel
theorem dL_takenAt_10 : decode cL_takenAt 10 = .ok (.ireturn, 1) := by decide +kernel
theorem dL_takenAt_11 : decode cL_takenAt 11 = .ok (.astore_n 3, 1) := by decide +kernel
theorem dL_takenAt_12 : decode cL_takenAt 12 = .ok (.bipush (-75), 2) := by decide +kernel
theorem dL_takenAt_14 : decode cL_takenAt 14 = .ok (.ireturn, 1) := by decide +kernel
theorem dL_leansOn_0 : decode cL_leansOn 0 = .ok (.aload_n 0, 1) := by decide +kernel
theorem dL_leansOn_1 : decode cL_leansOn 1 = .ok (.iload_n 1, 1) := by decide +kernel
theorem dL_leansOn_2 : decode cL_leansOn 2 = .ok (.iload_n 2, 1) := by decide +kernel
theorem dL_leansOn_3 : decode cL_leansOn 3 = .ok (.invokevirtual 57, 3) := by decide +kernel
theorem dL_leansOn_6 : decode cL_leansOn 6 = .ok (.ifCond .eq 7, 3) := by decide +kernel
theorem dL_leansOn_9 : decode cL_leansOn 9 = .ok (.iconst 1, 1) := by decide +kernel
theorem dL_leansOn_10 : decode cL_leansOn 10 = .ok (.goto 4, 3) := by decide +kernel
theorem dL_leansOn_13 : decode cL_leansOn 13 = .ok (.iconst 0, 1) := by decide +kernel
theorem dL_leansOn_14 : decode cL_leansOn 14 = .ok (.ireturn, 1) := by decide +kernel
theorem dL_leansOn_15 : decode cL_leansOn 15 = .ok (.astore_n 3, 1) := by decide +kernel
theorem dL_leansOn_16 : decode cL_leansOn 16 = .ok (.bipush (-77), 2) := by decide +kernel
theorem dL_leansOn_18 : decode cL_leansOn 18 = .ok (.ireturn, 1) := by decide +kernel
theorem dL_state_0 : decode cL_state 0 = .ok (.aload_n 0, 1) := by decide +kernel
theorem dL_state_1 : decode cL_state 1 = .ok (.iload_n 1, 1) := by decide +kernel
theorem dL_state_2 : decode cL_state 2 = .ok (.invokevirtual 61, 3) := by decide +kernel
theorem dL_state_5 : decode cL_state 5 = .ok (.ireturn, 1) := by decide +kernel
theorem dL_state_6 : decode cL_state 6 = .ok (.astore_n 2, 1) := by decide +kernel
theorem dL_state_7 : decode cL_state 7 = .ok (.bipush (-77), 2) := by decide +kernel
theorem dL_state_9 : decode cL_state 9 = .ok (.ireturn, 1) := by decide +kernel
theorem dL_rule_0 : decode cL_rule 0 = .ok (.aload_n 0, 1) := by decide +kernel
theorem dL_rule_1 : decode cL_rule 1 = .ok (.iload_n 1, 1) := by decide +kernel
theorem dL_rule_2 : decode cL_rule 2 = .ok (.iload_n 2, 1) := by decide +kernel
theorem dL_rule_3 : decode cL_rule 3 = .ok (.iload_n 3, 1) := by decide +kernel
theorem dL_rule_4 : decode cL_rule 4 = .ok (.iload 4, 2) := by decide +kernel
theorem dL_rule_6 : decode cL_rule 6 = .ok (.invokevirtual 64, 3) := by decide +kernel
theorem dL_rule_9 : decode cL_rule 9 = .ok (.ireturn, 1) := by decide +kernel
theorem dL_rule_10 : decode cL_rule 10 = .ok (.astore 5, 2) := by decide +kernel
theorem dL_rule_12 : decode cL_rule 12 = .ok (.bipush (-78), 2) := by decide +kernel
theorem dL_rule_14 : decode cL_rule 14 = .ok (.ireturn, 1) := by decide +kernel
theorem dL_rule_15 : decode cL_rule 15 = .ok (.astore 5, 2) := by decide +kernel
theorem dL_rule_17 : decode cL_rule 17 = .ok (.bipush (-79), 2) := by decide +kernel
theorem dL_rule_19 : decode cL_rule 19 = .ok (.ireturn, 1) := by decide +kernel
theorem dL_stands_0 : decode cL_stands 0 = .ok (.aload_n 0, 1) := by decide +kernel
theorem dL_stands_1 : decode cL_stands 1 = .ok (.iload_n 1, 1) := by decide +kernel
theorem dL_stands_2 : decode cL_stands 2 = .ok (.invokevirtual 68, 3) := by decide +kernel
theorem dL_stands_5 : decode cL_stands 5 = .ok (.ifCond .eq 7, 3) := by decide +kernel
theorem dL_stands_8 : decode cL_stands 8 = .ok (.iconst 1, 1) := by decide +kernel
theorem dL_stands_9 : decode cL_stands 9 = .ok (.goto 4, 3) := by decide +kernel
theorem dL_stands_12 : decode cL_stands 12 = .ok (.iconst 0, 1) := by decide +kernel
theorem dL_stands_13 : decode cL_stands 13 = .ok (.ireturn, 1) := by decide +kernel
theorem dL_stands_14 : decode cL_stands 14 = .ok (.astore_n 2, 1) := by decide +kernel
theorem dL_stands_15 : decode cL_stands 15 = .ok (.bipush (-77), 2) := by decide +kernel
theorem dL_stands_17 : decode cL_stands 17 = .ok (.ireturn, 1) := by decide +kernel
theorem dL_counterexample_0 : decode cL_counterexample 0 = .ok (.aload_n 0, 1) := by decide +kernel
theorem dL_counterexample_1 : decode cL_counterexample 1 = .ok (.iload_n 1, 1) := by decide +kernel
theorem dL_counterexample_2 : decode cL_counterexample 2 = .ok (.invokevirtual 72, 3) := by decide +kernel
theorem dL_counterexample_5 : decode cL_counterexample 5 = .ok (.ireturn, 1) := by decide +kernel
theorem dL_counterexample_6 : decode cL_counterexample 6 = .ok (.astore_n 2, 1) := by decide +kernel
theorem dL_counterexample_7 : decode cL_counterexample 7 = .ok (.bipush (-77), 2) := by decide +kernel
theorem dL_counterexample_9 : decode cL_counterexample 9 = .ok (.ireturn, 1) := by decide +kernel
theorem dL_counterexample_10 : decode cL_counterexample 10 = .ok (.astore_n 2, 1) := by decide +kernel
theorem dL_counterexample_11 : decode cL_counterexample 11 = .ok (.bipush (-75), 2) := by decide +kernel
theorem dL_counterexample_13 : decode cL_counterexample 13 = .ok (.ireturn, 1) := by decide +kernel
theorem dL_fall_0 : decode cL_fall 0 = .ok (.aload_n 0, 1) := by decide +kernel
theorem dL_fall_1 : decode cL_fall 1 = .ok (.iload_n 1, 1) := by decide +kernel
theorem dL_fall_2 : decode cL_fall 2 = .ok (.invokevirtual 75, 3) := by decide +kernel
theorem dL_fall_5 : decode cL_fall 5 = .ok (.ireturn, 1) := by decide +kernel
theorem dL_fall_6 : decode cL_fall 6 = .ok (.astore_n 2, 1) := by decide +kernel
theorem dL_fall_7 : decode cL_fall 7 = .ok (.bipush (-77), 2) := by decide +kernel
theorem dL_fall_9 : decode cL_fall 9 = .ok (.ireturn, 1) := by decide +kernel
theorem dL_fall_10 : decode cL_fall 10 = .ok (.astore_n 2, 1) := by decide +kernel
theorem dL_fall_11 : decode cL_fall 11 = .ok (.bipush (-76), 2) := by decide +kernel
theorem dL_fall_13 : decode cL_fall 13 = .ok (.ireturn, 1) := by decide +kernel
theorem dL_issue_0 : decode cL_issue 0 = .ok (.aload_n 0, 1) := by decide +kernel
theorem dL_issue_1 : decode cL_issue 1 = .ok (.invokevirtual 78, 3) := by decide +kernel
theorem dL_issue_4 : decode cL_issue 4 = .ok (.ireturn, 1) := by decide +kernel
theorem dL_issue_5 : decode cL_issue 5 = .ok (.astore_n 1, 1) := by decide +kernel
theorem dL_issue_6 : decode cL_issue 6 = .ok (.bipush (-79), 2) := by decide +kernel
theorem dL_issue_8 : decode cL_issue 8 = .ok (.ireturn, 1) := by decide +kernel
theorem dL_put_0 : decode cL_put 0 = .ok (.aload_n 0, 1) := by decide +kernel
theorem dL_put_1 : decode cL_put 1 = .ok (.iload_n 1, 1) := by decide +kernel
theorem dL_put_2 : decode cL_put 2 = .ok (.iload_n 2, 1) := by decide +kernel
theorem dL_put_3 : decode cL_put 3 = .ok (.invokevirtual 82, 3) := by decide +kernel
theorem dL_put_6 : decode cL_put 6 = .ok (.ireturn, 1) := by decide +kernel
theorem dL_put_7 : decode cL_put 7 = .ok (.astore_n 3, 1) := by decide +kernel
theorem dL_put_8 : decode cL_put 8 = .ok (.bipush (-77), 2) := by decide +kernel
theorem dL_put_10 : decode cL_put 10 = .ok (.ireturn, 1) := by decide +kernel
theorem dL_put_11 : decode cL_put 11 = .ok (.astore_n 3, 1) := by decide +kernel
theorem dL_put_12 : decode cL_put 12 = .ok (.bipush (-76), 2) := by decide +kernel
theorem dL_put_14 : decode cL_put 14 = .ok (.ireturn, 1) := by decide +kernel
theorem dL_put_15 : decode cL_put 15 = .ok (.astore_n 3, 1) := by decide +kernel
theorem dL_put_16 : decode cL_put 16 = .ok (.bipush (-79), 2) := by decide +kernel
theorem dL_put_18 : decode cL_put 18 = .ok (.ireturn, 1) := by decide +kernel
theorem dL_publish_0 : decode cL_publish 0 = .ok (.aload_n 0, 1) := by decide +kernel
theorem dL_publish_1 : decode cL_publish 1 = .ok (.iload_n 1, 1) := by decide +kernel
theorem dL_publish_2 : decode cL_publish 2 = .ok (.iload_n 2, 1) := by decide +kernel
theorem dL_publish_3 : decode cL_publish 3 = .ok (.invokevirtual 85, 3) := by decide +kernel
theorem dL_publish_6 : decode cL_publish 6 = .ok (.ireturn, 1) := by decide +kernel
theorem dL_publish_7 : decode cL_publish 7 = .ok (.astore_n 3, 1) := by decide +kernel
theorem dL_publish_8 : decode cL_publish 8 = .ok (.bipush (-77), 2) := by decide +kernel
theorem dL_publish_10 : decode cL_publish 10 = .ok (.ireturn, 1) := by decide +kernel
theorem dL_publish_11 : decode cL_publish 11 = .ok (.astore_n 3, 1) := by decide +kernel
theorem dL_publish_12 : decode cL_publish 12 = .ok (.bipush (-78), 2) := by decide +kernel
theorem dL_publish_14 : decode cL_publish 14 = .ok (.ireturn, 1) := by decide +kernel
theorem dL_publish_15 : decode cL_publish 15 = .ok (.astore_n 3, 1) := by decide +kernel
theorem dL_publish_16 : decode cL_publish 16 = .ok (.bipush (-76), 2) := by decide +kernel
theorem dL_publish_18 : decode cL_publish 18 = .ok (.ireturn, 1) := by decide +kernel
theorem dL_issueState_0 : decode cL_issueState 0 = .ok (.aload_n 0, 1) := by decide +kernel
theorem dL_issueState_1 : decode cL_issueState 1 = .ok (.iload_n 1, 1) := by decide +kernel
theorem dL_issueState_2 : decode cL_issueState 2 = .ok (.invokevirtual 88, 3) := by decide +kernel
theorem dL_issueState_5 : decode cL_issueState 5 = .ok (.ireturn, 1) := by decide +kernel
theorem dL_issueState_6 : decode cL_issueState 6 = .ok (.astore_n 2, 1) := by decide +kernel
theorem dL_issueState_7 : decode cL_issueState 7 = .ok (.bipush (-77), 2) := by decide +kernel
theorem dL_issueState_9 : decode cL_issueState 9 = .ok (.ireturn, 1) := by decide +kernel
theorem dL_indexed_0 : decode cL_indexed 0 = .ok (.aload_n 0, 1) := by decide +kernel
theorem dL_indexed_1 : decode cL_indexed 1 = .ok (.iload_n 1, 1) := by decide +kernel
theorem dL_indexed_2 : decode cL_indexed 2 = .ok (.invokevirtual 91, 3) := by decide +kernel
theorem dL_indexed_5 : decode cL_indexed 5 = .ok (.ireturn, 1) := by decide +kernel
theorem dL_indexed_6 : decode cL_indexed 6 = .ok (.astore_n 2, 1) := by decide +kernel
theorem dL_indexed_7 : decode cL_indexed 7 = .ok (.bipush (-77), 2) := by decide +kernel
theorem dL_indexed_9 : decode cL_indexed 9 = .ok (.ireturn, 1) := by decide +kernel
theorem dL_customer_0 : decode cL_customer 0 = .ok (.aload_n 0, 1) := by decide +kernel
theorem dL_customer_1 : decode cL_customer 1 = .ok (.invokevirtual 94, 3) := by decide +kernel
theorem dL_customer_4 : decode cL_customer 4 = .ok (.ireturn, 1) := by decide +kernel
theorem dL_customer_5 : decode cL_customer 5 = .ok (.astore_n 1, 1) := by decide +kernel
theorem dL_customer_6 : decode cL_customer 6 = .ok (.bipush (-79), 2) := by decide +kernel
theorem dL_customer_8 : decode cL_customer 8 = .ok (.ireturn, 1) := by decide +kernel
theorem dL_deposit_0 : decode cL_deposit 0 = .ok (.aload_n 0, 1) := by decide +kernel
theorem dL_deposit_1 : decode cL_deposit 1 = .ok (.iload_n 1, 1) := by decide +kernel
theorem dL_deposit_2 : decode cL_deposit 2 = .ok (.iload_n 2, 1) := by decide +kernel
theorem dL_deposit_3 : decode cL_deposit 3 = .ok (.invokevirtual 97, 3) := by decide +kernel
theorem dL_deposit_6 : decode cL_deposit 6 = .ok (.ireturn, 1) := by decide +kernel
theorem dL_deposit_7 : decode cL_deposit 7 = .ok (.astore_n 3, 1) := by decide +kernel
theorem dL_deposit_8 : decode cL_deposit 8 = .ok (.bipush (-77), 2) := by decide +kernel
theorem dL_deposit_10 : decode cL_deposit 10 = .ok (.ireturn, 1) := by decide +kernel
theorem dL_deposit_11 : decode cL_deposit 11 = .ok (.astore_n 3, 1) := by decide +kernel
theorem dL_deposit_12 : decode cL_deposit 12 = .ok (.bipush (-78), 2) := by decide +kernel
theorem dL_deposit_14 : decode cL_deposit 14 = .ok (.ireturn, 1) := by decide +kernel
theorem dL_deposit_15 : decode cL_deposit 15 = .ok (.astore_n 3, 1) := by decide +kernel
theorem dL_deposit_16 : decode cL_deposit 16 = .ok (.bipush (-74), 2) := by decide +kernel
theorem dL_deposit_18 : decode cL_deposit 18 = .ok (.ireturn, 1) := by decide +kernel
theorem dL_subscribe_0 : decode cL_subscribe 0 = .ok (.aload_n 0, 1) := by decide +kernel
theorem dL_subscribe_1 : decode cL_subscribe 1 = .ok (.iload_n 1, 1) := by decide +kernel
theorem dL_subscribe_2 : decode cL_subscribe 2 = .ok (.iload_n 2, 1) := by decide +kernel
theorem dL_subscribe_3 : decode cL_subscribe 3 = .ok (.invokevirtual 102, 3) := by decide +kernel
theorem dL_subscribe_6 : decode cL_subscribe 6 = .ok (.ireturn, 1) := by decide +kernel
theorem dL_subscribe_7 : decode cL_subscribe 7 = .ok (.astore_n 3, 1) := by decide +kernel
theorem dL_subscribe_8 : decode cL_subscribe 8 = .ok (.bipush (-77), 2) := by decide +kernel
theorem dL_subscribe_10 : decode cL_subscribe 10 = .ok (.ireturn, 1) := by decide +kernel
theorem dL_subscribe_11 : decode cL_subscribe 11 = .ok (.astore_n 3, 1) := by decide +kernel
theorem dL_subscribe_12 : decode cL_subscribe 12 = .ok (.bipush (-78), 2) := by decide +kernel
theorem dL_subscribe_14 : decode cL_subscribe 14 = .ok (.ireturn, 1) := by decide +kernel
theorem dL_buy_0 : decode cL_buy 0 = .ok (.aload_n 0, 1) := by decide +kernel
theorem dL_buy_1 : decode cL_buy 1 = .ok (.iload_n 1, 1) := by decide +kernel
theorem dL_buy_2 : decode cL_buy 2 = .ok (.iload_n 2, 1) := by decide +kernel
theorem dL_buy_3 : decode cL_buy 3 = .ok (.invokevirtual 105, 3) := by decide +kernel
theorem dL_buy_6 : decode cL_buy 6 = .ok (.ireturn, 1) := by decide +kernel
theorem dL_buy_7 : decode cL_buy 7 = .ok (.astore_n 3, 1) := by decide +kernel
theorem dL_buy_8 : decode cL_buy 8 = .ok (.bipush (-77), 2) := by decide +kernel
theorem dL_buy_10 : decode cL_buy 10 = .ok (.ireturn, 1) := by decide +kernel
theorem dL_buy_11 : decode cL_buy 11 = .ok (.astore_n 3, 1) := by decide +kernel
theorem dL_buy_12 : decode cL_buy 12 = .ok (.bipush (-76), 2) := by decide +kernel
theorem dL_buy_14 : decode cL_buy 14 = .ok (.ireturn, 1) := by decide +kernel
theorem dL_credits_0 : decode cL_credits 0 = .ok (.aload_n 0, 1) := by decide +kernel
theorem dL_credits_1 : decode cL_credits 1 = .ok (.iload_n 1, 1) := by decide +kernel
theorem dL_credits_2 : decode cL_credits 2 = .ok (.invokevirtual 108, 3) := by decide +kernel
theorem dL_credits_5 : decode cL_credits 5 = .ok (.ireturn, 1) := by decide +kernel
theorem dL_credits_6 : decode cL_credits 6 = .ok (.astore_n 2, 1) := by decide +kernel
theorem dL_credits_7 : decode cL_credits 7 = .ok (.bipush (-77), 2) := by decide +kernel
theorem dL_credits_9 : decode cL_credits 9 = .ok (.ireturn, 1) := by decide +kernel
theorem dL_has_0 : decode cL_has 0 = .ok (.aload_n 0, 1) := by decide +kernel
theorem dL_has_1 : decode cL_has 1 = .ok (.iload_n 1, 1) := by decide +kernel
theorem dL_has_2 : decode cL_has 2 = .ok (.iload_n 2, 1) := by decide +kernel
theorem dL_has_3 : decode cL_has 3 = .ok (.invokevirtual 111, 3) := by decide +kernel
theorem dL_has_6 : decode cL_has 6 = .ok (.ifCond .eq 7, 3) := by decide +kernel
theorem dL_has_9 : decode cL_has 9 = .ok (.iconst 1, 1) := by decide +kernel
theorem dL_has_10 : decode cL_has 10 = .ok (.goto 4, 3) := by decide +kernel
theorem dL_has_13 : decode cL_has 13 = .ok (.iconst 0, 1) := by decide +kernel
theorem dL_has_14 : decode cL_has 14 = .ok (.ireturn, 1) := by decide +kernel
theorem dL_has_15 : decode cL_has 15 = .ok (.astore_n 3, 1) := by decide +kernel
theorem dL_has_16 : decode cL_has 16 = .ok (.bipush (-77), 2) := by decide +kernel
theorem dL_has_18 : decode cL_has 18 = .ok (.ireturn, 1) := by decide +kernel
theorem dL_provedShare_0 : decode cL_provedShare 0 = .ok (.aload_n 0, 1) := by decide +kernel
theorem dL_provedShare_1 : decode cL_provedShare 1 = .ok (.invokevirtual 114, 3) := by decide +kernel
theorem dL_provedShare_4 : decode cL_provedShare 4 = .ok (.freturn, 1) := by decide +kernel
theorem dL_provedShare_5 : decode cL_provedShare 5 = .ok (.astore_n 1, 1) := by decide +kernel
theorem dL_provedShare_6 : decode cL_provedShare 6 = .ok (.ldc 118, 2) := by decide +kernel
theorem dL_provedShare_8 : decode cL_provedShare 8 = .ok (.freturn, 1) := by decide +kernel
theorem dL_meanSteps_0 : decode cL_meanSteps 0 = .ok (.aload_n 0, 1) := by decide +kernel
theorem dL_meanSteps_1 : decode cL_meanSteps 1 = .ok (.invokevirtual 119, 3) := by decide +kernel
theorem dL_meanSteps_4 : decode cL_meanSteps 4 = .ok (.dreturn, 1) := by decide +kernel
theorem dL_meanSteps_5 : decode cL_meanSteps 5 = .ok (.astore_n 1, 1) := by decide +kernel
theorem dL_meanSteps_6 : decode cL_meanSteps 6 = .ok (.ldc2_w 123, 3) := by decide +kernel
theorem dL_meanSteps_9 : decode cL_meanSteps 9 = .ok (.dreturn, 1) := by decide +kernel
theorem dL_acts_0 : decode cL_acts 0 = .ok (.aload_n 1, 1) := by decide +kernel
theorem dL_acts_1 : decode cL_acts 1 = .ok (.iload_n 2, 1) := by decide +kernel
theorem dL_acts_2 : decode cL_acts 2 = .ok (.iconst 1, 1) := by decide +kernel
theorem dL_acts_3 : decode cL_acts 3 = .ok (.iadd, 1) := by decide +kernel
theorem dL_acts_4 : decode cL_acts 4 = .ok (.iload_n 3, 1) := by decide +kernel
theorem dL_acts_5 : decode cL_acts 5 = .ok (.invokestatic 128, 3) := by decide +kernel
theorem dL_acts_8 : decode cL_acts 8 = .ok (.istore 4, 2) := by decide +kernel
theorem dL_acts_10 : decode cL_acts 10 = .ok (.aload_n 1, 1) := by decide +kernel
theorem dL_acts_11 : decode cL_acts 11 = .ok (.iload_n 2, 1) := by decide +kernel
theorem dL_acts_12 : decode cL_acts 12 = .ok (.iconst 2, 1) := by decide +kernel
theorem dL_acts_13 : decode cL_acts 13 = .ok (.iadd, 1) := by decide +kernel
theorem dL_acts_14 : decode cL_acts 14 = .ok (.iconst 4, 1) := by decide +kernel
theorem dL_acts_15 : decode cL_acts 15 = .ok (.invokestatic 128, 3) := by decide +kernel
theorem dL_acts_18 : decode cL_acts 18 = .ok (.istore 5, 2) := by decide +kernel
theorem dL_acts_20 : decode cL_acts 20 = .ok (.aload_n 1, 1) := by decide +kernel
theorem dL_acts_21 : decode cL_acts 21 = .ok (.iload_n 2, 1) := by decide +kernel
theorem dL_acts_22 : decode cL_acts 22 = .ok (.bipush 12, 2) := by decide +kernel
theorem dL_acts_24 : decode cL_acts 24 = .ok (.invokestatic 128, 3) := by decide +kernel
theorem dL_acts_27 : decode cL_acts 27 = .ok (.tableswitch 500 0 10 #[57, 57, 57, 165, 207, 207, 262, 302, 323, 390, 411], 57) := by decide +kernel
theorem dL_acts_84 : decode cL_acts 84 = .ok (.aload_n 0, 1) := by decide +kernel
theorem dL_acts_85 : decode cL_acts 85 = .ok (.iload 4, 2) := by decide +kernel
theorem dL_acts_87 : decode cL_acts 87 = .ok (.invokestatic 180, 3) := by decide +kernel
theorem dL_acts_90 : decode cL_acts 90 = .ok (.i2c, 1) := by decide +kernel
theorem dL_acts_91 : decode cL_acts 91 = .ok (.istore 6, 2) := by decide +kernel
theorem dL_acts_93 : decode cL_acts 93 = .ok (.aload_n 0, 1) := by decide +kernel
theorem dL_acts_94 : decode cL_acts 94 = .ok (.iload 4, 2) := by decide +kernel
theorem dL_acts_96 : decode cL_acts 96 = .ok (.invokestatic 182, 3) := by decide +kernel
theorem dL_acts_99 : decode cL_acts 99 = .ok (.istore 7, 2) := by decide +kernel
theorem dL_acts_101 : decode cL_acts 101 = .ok (.iload 7, 2) := by decide +kernel
theorem dL_acts_103 : decode cL_acts 103 = .ok (.bipush (-76), 2) := by decide +kernel
theorem dL_acts_105 : decode cL_acts 105 = .ok (.if_icmp .ne 32, 3) := by decide +kernel
theorem dL_acts_108 : decode cL_acts 108 = .ok (.iload 6, 2) := by decide +kernel
theorem dL_acts_110 : decode cL_acts 110 = .ok (.bipush 105, 2) := by decide +kernel
theorem dL_acts_112 : decode cL_acts 112 = .ok (.if_icmp .eq 17, 3) := by decide +kernel
theorem dL_acts_115 : decode cL_acts 115 = .ok (.iload 6, 2) := by decide +kernel
theorem dL_acts_117 : decode cL_acts 117 = .ok (.bipush 115, 2) := by decide +kernel
theorem dL_acts_119 : decode cL_acts 119 = .ok (.if_icmp .eq 10, 3) := by decide +kernel
theorem dL_acts_122 : decode cL_acts 122 = .ok (.iload 6, 2) := by decide +kernel
theorem dL_acts_124 : decode cL_acts 124 = .ok (.bipush 98, 2) := by decide +kernel
theorem dL_acts_126 : decode cL_acts 126 = .ok (.if_icmp .ne 7, 3) := by decide +kernel
theorem dL_acts_129 : decode cL_acts 129 = .ok (.iconst 1, 1) := by decide +kernel
theorem dL_acts_130 : decode cL_acts 130 = .ok (.goto 61, 3) := by decide +kernel
theorem dL_acts_133 : decode cL_acts 133 = .ok (.iconst 0, 1) := by decide +kernel
theorem dL_acts_134 : decode cL_acts 134 = .ok (.goto 57, 3) := by decide +kernel
theorem dL_acts_137 : decode cL_acts 137 = .ok (.iload 7, 2) := by decide +kernel
theorem dL_acts_139 : decode cL_acts 139 = .ok (.bipush 119, 2) := by decide +kernel
theorem dL_acts_141 : decode cL_acts 141 = .ok (.if_icmp .ne 22, 3) := by decide +kernel
theorem dL_acts_144 : decode cL_acts 144 = .ok (.aload_n 0, 1) := by decide +kernel
theorem dL_acts_145 : decode cL_acts 145 = .ok (.iload 4, 2) := by decide +kernel
theorem dL_acts_147 : decode cL_acts 147 = .ok (.invokestatic 180, 3) := by decide +kernel
theorem dL_acts_150 : decode cL_acts 150 = .ok (.bipush 119, 2) := by decide +kernel
theorem dL_acts_152 : decode cL_acts 152 = .ok (.if_icmp .ne 7, 3) := by decide +kernel
theorem dL_acts_155 : decode cL_acts 155 = .ok (.iconst 1, 1) := by decide +kernel
theorem dL_acts_156 : decode cL_acts 156 = .ok (.goto 35, 3) := by decide +kernel
theorem dL_acts_159 : decode cL_acts 159 = .ok (.iconst 0, 1) := by decide +kernel
theorem dL_acts_160 : decode cL_acts 160 = .ok (.goto 31, 3) := by decide +kernel
theorem dL_acts_163 : decode cL_acts 163 = .ok (.aload_n 0, 1) := by decide +kernel
theorem dL_acts_164 : decode cL_acts 164 = .ok (.iload 4, 2) := by decide +kernel
theorem dL_acts_166 : decode cL_acts 166 = .ok (.invokestatic 180, 3) := by decide +kernel
theorem dL_acts_169 : decode cL_acts 169 = .ok (.iload 6, 2) := by decide +kernel
theorem dL_acts_171 : decode cL_acts 171 = .ok (.bipush 104, 2) := by decide +kernel
theorem dL_acts_173 : decode cL_acts 173 = .ok (.if_icmp .ne 8, 3) := by decide +kernel
theorem dL_acts_176 : decode cL_acts 176 = .ok (.bipush 104, 2) := by decide +kernel
theorem dL_acts_178 : decode cL_acts 178 = .ok (.goto 5, 3) := by decide +kernel
theorem dL_acts_181 : decode cL_acts 181 = .ok (.bipush 111, 2) := by decide +kernel
theorem dL_acts_183 : decode cL_acts 183 = .ok (.if_icmp .ne 7, 3) := by decide +kernel
theorem dL_acts_186 : decode cL_acts 186 = .ok (.iconst 1, 1) := by decide +kernel
theorem dL_acts_187 : decode cL_acts 187 = .ok (.goto 4, 3) := by decide +kernel
theorem dL_acts_190 : decode cL_acts 190 = .ok (.iconst 0, 1) := by decide +kernel
theorem dL_acts_191 : decode cL_acts 191 = .ok (.ireturn, 1) := by decide +kernel
theorem dL_acts_192 : decode cL_acts 192 = .ok (.aload_n 0, 1) := by decide +kernel
theorem dL_acts_193 : decode cL_acts 193 = .ok (.invokestatic 184, 3) := by decide +kernel
theorem dL_acts_196 : decode cL_acts 196 = .ok (.istore 6, 2) := by decide +kernel
theorem dL_acts_198 : decode cL_acts 198 = .ok (.iload 6, 2) := by decide +kernel
theorem dL_acts_200 : decode cL_acts 200 = .ok (.bipush (-79), 2) := by decide +kernel
theorem dL_acts_202 : decode cL_acts 202 = .ok (.if_icmp .eq 26, 3) := by decide +kernel
theorem dL_acts_205 : decode cL_acts 205 = .ok (.aload_n 0, 1) := by decide +kernel
theorem dL_acts_206 : decode cL_acts 206 = .ok (.iload 6, 2) := by decide +kernel
theorem dL_acts_208 : decode cL_acts 208 = .ok (.invokestatic 186, 3) := by decide +kernel
theorem dL_acts_211 : decode cL_acts 211 = .ok (.bipush 109, 2) := by decide +kernel
theorem dL_acts_213 : decode cL_acts 213 = .ok (.if_icmp .ne 19, 3) := by decide +kernel
theorem dL_acts_216 : decode cL_acts 216 = .ok (.aload_n 0, 1) := by decide +kernel
theorem dL_acts_217 : decode cL_acts 217 = .ok (.iload 6, 2) := by decide +kernel
theorem dL_acts_219 : decode cL_acts 219 = .ok (.iconst 1, 1) := by decide +kernel
theorem dL_acts_220 : decode cL_acts 220 = .ok (.invokestatic 188, 3) := by decide +kernel
theorem dL_acts_223 : decode cL_acts 223 = .ok (.bipush (-76), 2) := by decide +kernel
theorem dL_acts_225 : decode cL_acts 225 = .ok (.if_icmp .ne 7, 3) := by decide +kernel
theorem dL_acts_228 : decode cL_acts 228 = .ok (.iconst 1, 1) := by decide +kernel
theorem dL_acts_229 : decode cL_acts 229 = .ok (.goto 4, 3) := by decide +kernel
theorem dL_acts_232 : decode cL_acts 232 = .ok (.iconst 0, 1) := by decide +kernel
theorem dL_acts_233 : decode cL_acts 233 = .ok (.ireturn, 1) := by decide +kernel
theorem dL_acts_234 : decode cL_acts 234 = .ok (.aload_n 0, 1) := by decide +kernel
theorem dL_acts_235 : decode cL_acts 235 = .ok (.iload 4, 2) := by decide +kernel
theorem dL_acts_237 : decode cL_acts 237 = .ok (.invokestatic 180, 3) := by decide +kernel
theorem dL_acts_240 : decode cL_acts 240 = .ok (.i2c, 1) := by decide +kernel
theorem dL_acts_241 : decode cL_acts 241 = .ok (.istore 6, 2) := by decide +kernel
theorem dL_acts_243 : decode cL_acts 243 = .ok (.aload_n 0, 1) := by decide +kernel
theorem dL_acts_244 : decode cL_acts 244 = .ok (.iload 5, 2) := by decide +kernel
theorem dL_acts_246 : decode cL_acts 246 = .ok (.iload 4, 2) := by decide +kernel
theorem dL_acts_248 : decode cL_acts 248 = .ok (.invokestatic 190, 3) := by decide +kernel
theorem dL_acts_251 : decode cL_acts 251 = .ok (.istore 7, 2) := by decide +kernel
theorem dL_acts_253 : decode cL_acts 253 = .ok (.iload 7, 2) := by decide +kernel
theorem dL_acts_255 : decode cL_acts 255 = .ok (.ifCond .lt 28, 3) := by decide +kernel
theorem dL_acts_258 : decode cL_acts 258 = .ok (.iload 6, 2) := by decide +kernel
theorem dL_acts_260 : decode cL_acts 260 = .ok (.bipush 119, 2) := by decide +kernel
theorem dL_acts_262 : decode cL_acts 262 = .ok (.if_icmp .eq 10, 3) := by decide +kernel
theorem dL_acts_265 : decode cL_acts 265 = .ok (.iload 6, 2) := by decide +kernel
theorem dL_acts_267 : decode cL_acts 267 = .ok (.bipush 98, 2) := by decide +kernel
theorem dL_acts_269 : decode cL_acts 269 = .ok (.if_icmp .ne 18, 3) := by decide +kernel
theorem dL_acts_272 : decode cL_acts 272 = .ok (.aload_n 0, 1) := by decide +kernel
theorem dL_acts_273 : decode cL_acts 273 = .ok (.iload 4, 2) := by decide +kernel
theorem dL_acts_275 : decode cL_acts 275 = .ok (.invokestatic 180, 3) := by decide +kernel
theorem dL_acts_278 : decode cL_acts 278 = .ok (.bipush 105, 2) := by decide +kernel
theorem dL_acts_280 : decode cL_acts 280 = .ok (.if_icmp .ne 7, 3) := by decide +kernel
theorem dL_acts_283 : decode cL_acts 283 = .ok (.iconst 1, 1) := by decide +kernel
theorem dL_acts_284 : decode cL_acts 284 = .ok (.goto 4, 3) := by decide +kernel
theorem dL_acts_287 : decode cL_acts 287 = .ok (.iconst 0, 1) := by decide +kernel
theorem dL_acts_288 : decode cL_acts 288 = .ok (.ireturn, 1) := by decide +kernel
theorem dL_acts_289 : decode cL_acts 289 = .ok (.aload_n 0, 1) := by decide +kernel
theorem dL_acts_290 : decode cL_acts 290 = .ok (.iload 5, 2) := by decide +kernel
theorem dL_acts_292 : decode cL_acts 292 = .ok (.iconst 3, 1) := by decide +kernel
theorem dL_acts_293 : decode cL_acts 293 = .ok (.iload 4, 2) := by decide +kernel
theorem dL_acts_295 : decode cL_acts 295 = .ok (.imul, 1) := by decide +kernel
theorem dL_acts_296 : decode cL_acts 296 = .ok (.invokestatic 188, 3) := by decide +kernel
theorem dL_acts_299 : decode cL_acts 299 = .ok (.istore 6, 2) := by decide +kernel
theorem dL_acts_301 : decode cL_acts 301 = .ok (.iload 6, 2) := by decide +kernel
theorem dL_acts_303 : decode cL_acts 303 = .ok (.ifCond .lt 20, 3) := by decide +kernel
theorem dL_acts_306 : decode cL_acts 306 = .ok (.aload_n 0, 1) := by decide +kernel
theorem dL_acts_307 : decode cL_acts 307 = .ok (.iload 5, 2) := by decide +kernel
theorem dL_acts_309 : decode cL_acts 309 = .ok (.invokestatic 186, 3) := by decide +kernel
theorem dL_acts_312 : decode cL_acts 312 = .ok (.bipush 115, 2) := by decide +kernel
theorem dL_acts_314 : decode cL_acts 314 = .ok (.if_icmp .ne 13, 3) := by decide +kernel
theorem dL_acts_317 : decode cL_acts 317 = .ok (.iload 6, 2) := by decide +kernel
theorem dL_acts_319 : decode cL_acts 319 = .ok (.iconst 3, 1) := by decide +kernel
theorem dL_acts_320 : decode cL_acts 320 = .ok (.if_icmp .gt 7, 3) := by decide +kernel
theorem dL_acts_323 : decode cL_acts 323 = .ok (.iconst 1, 1) := by decide +kernel
theorem dL_acts_324 : decode cL_acts 324 = .ok (.goto 4, 3) := by decide +kernel
theorem dL_acts_327 : decode cL_acts 327 = .ok (.iconst 0, 1) := by decide +kernel
theorem dL_acts_328 : decode cL_acts 328 = .ok (.ireturn, 1) := by decide +kernel
theorem dL_acts_329 : decode cL_acts 329 = .ok (.aload_n 0, 1) := by decide +kernel
theorem dL_acts_330 : decode cL_acts 330 = .ok (.iload 4, 2) := by decide +kernel
theorem dL_acts_332 : decode cL_acts 332 = .ok (.iconst 3, 1) := by decide +kernel
theorem dL_acts_333 : decode cL_acts 333 = .ok (.irem, 1) := by decide +kernel
theorem dL_acts_334 : decode cL_acts 334 = .ok (.iconst 1, 1) := by decide +kernel
theorem dL_acts_335 : decode cL_acts 335 = .ok (.iload 5, 2) := by decide +kernel
theorem dL_acts_337 : decode cL_acts 337 = .ok (.iadd, 1) := by decide +kernel
theorem dL_acts_338 : decode cL_acts 338 = .ok (.invokestatic 192, 3) := by decide +kernel
theorem dL_acts_341 : decode cL_acts 341 = .ok (.ifCond .le 7, 3) := by decide +kernel
theorem dL_acts_344 : decode cL_acts 344 = .ok (.iconst 1, 1) := by decide +kernel
theorem dL_acts_345 : decode cL_acts 345 = .ok (.goto 4, 3) := by decide +kernel
theorem dL_acts_348 : decode cL_acts 348 = .ok (.iconst 0, 1) := by decide +kernel
theorem dL_acts_349 : decode cL_acts 349 = .ok (.ireturn, 1) := by decide +kernel
theorem dL_acts_350 : decode cL_acts 350 = .ok (.aload_n 0, 1) := by decide +kernel
theorem dL_acts_351 : decode cL_acts 351 = .ok (.iload 4, 2) := by decide +kernel
theorem dL_acts_353 : decode cL_acts 353 = .ok (.iconst 3, 1) := by decide +kernel
theorem dL_acts_354 : decode cL_acts 354 = .ok (.irem, 1) := by decide +kernel
theorem dL_acts_355 : decode cL_acts 355 = .ok (.invokestatic 175, 3) := by decide +kernel
theorem dL_acts_358 : decode cL_acts 358 = .ok (.istore 6, 2) := by decide +kernel
theorem dL_acts_360 : decode cL_acts 360 = .ok (.aload_n 0, 1) := by decide +kernel
theorem dL_acts_361 : decode cL_acts 361 = .ok (.iload 4, 2) := by decide +kernel
theorem dL_acts_363 : decode cL_acts 363 = .ok (.iconst 3, 1) := by decide +kernel
theorem dL_acts_364 : decode cL_acts 364 = .ok (.irem, 1) := by decide +kernel
theorem dL_acts_365 : decode cL_acts 365 = .ok (.iload 5, 2) := by decide +kernel
theorem dL_acts_367 : decode cL_acts 367 = .ok (.invokestatic 194, 3) := by decide +kernel
theorem dL_acts_370 : decode cL_acts 370 = .ok (.istore 7, 2) := by decide +kernel
theorem dL_acts_372 : decode cL_acts 372 = .ok (.iload 7, 2) := by decide +kernel
theorem dL_acts_374 : decode cL_acts 374 = .ok (.ifCond .lt 37, 3) := by decide +kernel
theorem dL_acts_377 : decode cL_acts 377 = .ok (.aload_n 0, 1) := by decide +kernel
theorem dL_acts_378 : decode cL_acts 378 = .ok (.iload 4, 2) := by decide +kernel
theorem dL_acts_380 : decode cL_acts 380 = .ok (.iconst 3, 1) := by decide +kernel
theorem dL_acts_381 : decode cL_acts 381 = .ok (.irem, 1) := by decide +kernel
theorem dL_acts_382 : decode cL_acts 382 = .ok (.iload 5, 2) := by decide +kernel
theorem dL_acts_384 : decode cL_acts 384 = .ok (.invokestatic 196, 3) := by decide +kernel
theorem dL_acts_387 : decode cL_acts 387 = .ok (.iconst 1, 1) := by decide +kernel
theorem dL_acts_388 : decode cL_acts 388 = .ok (.if_icmp .ne 27, 3) := by decide +kernel
theorem dL_acts_391 : decode cL_acts 391 = .ok (.iload 7, 2) := by decide +kernel
theorem dL_acts_393 : decode cL_acts 393 = .ok (.iload 6, 2) := by decide +kernel
theorem dL_acts_395 : decode cL_acts 395 = .ok (.if_icmp .gt 20, 3) := by decide +kernel
theorem dL_acts_398 : decode cL_acts 398 = .ok (.aload_n 0, 1) := by decide +kernel
theorem dL_acts_399 : decode cL_acts 399 = .ok (.iload 4, 2) := by decide +kernel
theorem dL_acts_401 : decode cL_acts 401 = .ok (.iconst 3, 1) := by decide +kernel
theorem dL_acts_402 : decode cL_acts 402 = .ok (.irem, 1) := by decide +kernel
theorem dL_acts_403 : decode cL_acts 403 = .ok (.invokestatic 175, 3) := by decide +kernel
theorem dL_acts_406 : decode cL_acts 406 = .ok (.iload 7, 2) := by decide +kernel
theorem dL_acts_408 : decode cL_acts 408 = .ok (.if_icmp .ne 7, 3) := by decide +kernel
theorem dL_acts_411 : decode cL_acts 411 = .ok (.iconst 1, 1) := by decide +kernel
theorem dL_acts_412 : decode cL_acts 412 = .ok (.goto 4, 3) := by decide +kernel
theorem dL_acts_415 : decode cL_acts 415 = .ok (.iconst 0, 1) := by decide +kernel
theorem dL_acts_416 : decode cL_acts 416 = .ok (.ireturn, 1) := by decide +kernel
theorem dL_acts_417 : decode cL_acts 417 = .ok (.aload_n 0, 1) := by decide +kernel
theorem dL_acts_418 : decode cL_acts 418 = .ok (.iload 4, 2) := by decide +kernel
theorem dL_acts_420 : decode cL_acts 420 = .ok (.iconst 3, 1) := by decide +kernel
theorem dL_acts_421 : decode cL_acts 421 = .ok (.irem, 1) := by decide +kernel
theorem dL_acts_422 : decode cL_acts 422 = .ok (.bipush 10, 2) := by decide +kernel
theorem dL_acts_424 : decode cL_acts 424 = .ok (.invokestatic 145, 3) := by decide +kernel
theorem dL_acts_427 : decode cL_acts 427 = .ok (.bipush 9, 2) := by decide +kernel
theorem dL_acts_429 : decode cL_acts 429 = .ok (.if_icmp .le 7, 3) := by decide +kernel
theorem dL_acts_432 : decode cL_acts 432 = .ok (.iconst 1, 1) := by decide +kernel
theorem dL_acts_433 : decode cL_acts 433 = .ok (.goto 4, 3) := by decide +kernel
theorem dL_acts_436 : decode cL_acts 436 = .ok (.iconst 0, 1) := by decide +kernel
theorem dL_acts_437 : decode cL_acts 437 = .ok (.ireturn, 1) := by decide +kernel
theorem dL_acts_438 : decode cL_acts 438 = .ok (.bipush 10, 2) := by decide +kernel
theorem dL_acts_440 : decode cL_acts 440 = .ok (.iload 5, 2) := by decide +kernel
theorem dL_acts_442 : decode cL_acts 442 = .ok (.iadd, 1) := by decide +kernel
theorem dL_acts_443 : decode cL_acts 443 = .ok (.istore 6, 2) := by decide +kernel
theorem dL_acts_445 : decode cL_acts 445 = .ok (.aload_n 0, 1) := by decide +kernel
theorem dL_acts_446 : decode cL_acts 446 = .ok (.iload 6, 2) := by decide +kernel
theorem dL_acts_448 : decode cL_acts 448 = .ok (.invokestatic 198, 3) := by decide +kernel
theorem dL_acts_451 : decode cL_acts 451 = .ok (.istore 7, 2) := by decide +kernel
theorem dL_acts_453 : decode cL_acts 453 = .ok (.aload_n 0, 1) := by decide +kernel
theorem dL_acts_454 : decode cL_acts 454 = .ok (.iload 6, 2) := by decide +kernel
theorem dL_acts_456 : decode cL_acts 456 = .ok (.invokestatic 200, 3) := by decide +kernel
theorem dL_acts_459 : decode cL_acts 459 = .ok (.istore 8, 2) := by decide +kernel
theorem dL_acts_461 : decode cL_acts 461 = .ok (.aload_n 0, 1) := by decide +kernel
theorem dL_acts_462 : decode cL_acts 462 = .ok (.iload 6, 2) := by decide +kernel
theorem dL_acts_464 : decode cL_acts 464 = .ok (.invokestatic 202, 3) := by decide +kernel
theorem dL_acts_467 : decode cL_acts 467 = .ok (.istore 9, 2) := by decide +kernel
theorem dL_acts_469 : decode cL_acts 469 = .ok (.iload 9, 2) := by decide +kernel
theorem dL_acts_471 : decode cL_acts 471 = .ok (.ifCond .lt 7, 3) := by decide +kernel
theorem dL_acts_474 : decode cL_acts 474 = .ok (.iconst 1, 1) := by decide +kernel
theorem dL_acts_475 : decode cL_acts 475 = .ok (.goto 4, 3) := by decide +kernel
theorem dL_acts_478 : decode cL_acts 478 = .ok (.iconst 0, 1) := by decide +kernel
theorem dL_acts_479 : decode cL_acts 479 = .ok (.iload 7, 2) := by decide +kernel
theorem dL_acts_481 : decode cL_acts 481 = .ok (.iconst 1, 1) := by decide +kernel
theorem dL_acts_482 : decode cL_acts 482 = .ok (.if_icmp .ne 12, 3) := by decide +kernel
theorem dL_acts_485 : decode cL_acts 485 = .ok (.iload 8, 2) := by decide +kernel
theorem dL_acts_487 : decode cL_acts 487 = .ok (.ifCond .le 7, 3) := by decide +kernel
theorem dL_acts_490 : decode cL_acts 490 = .ok (.iconst 1, 1) := by decide +kernel
theorem dL_acts_491 : decode cL_acts 491 = .ok (.goto 4, 3) := by decide +kernel
theorem dL_acts_494 : decode cL_acts 494 = .ok (.iconst 0, 1) := by decide +kernel
theorem dL_acts_495 : decode cL_acts 495 = .ok (.if_icmp .ne 30, 3) := by decide +kernel
theorem dL_acts_498 : decode cL_acts 498 = .ok (.iload 9, 2) := by decide +kernel
theorem dL_acts_500 : decode cL_acts 500 = .ok (.ifCond .lt 21, 3) := by decide +kernel
theorem dL_acts_503 : decode cL_acts 503 = .ok (.aload_n 0, 1) := by decide +kernel
theorem dL_acts_504 : decode cL_acts 504 = .ok (.iload 6, 2) := by decide +kernel
theorem dL_acts_506 : decode cL_acts 506 = .ok (.invokestatic 198, 3) := by decide +kernel
theorem dL_acts_509 : decode cL_acts 509 = .ok (.ifCond .ne 16, 3) := by decide +kernel
theorem dL_acts_512 : decode cL_acts 512 = .ok (.aload_n 0, 1) := by decide +kernel
theorem dL_acts_513 : decode cL_acts 513 = .ok (.iload 6, 2) := by decide +kernel
theorem dL_acts_515 : decode cL_acts 515 = .ok (.invokestatic 204, 3) := by decide +kernel
theorem dL_acts_518 : decode cL_acts 518 = .ok (.ifCond .ne 7, 3) := by decide +kernel
theorem dL_acts_521 : decode cL_acts 521 = .ok (.iconst 1, 1) := by decide +kernel
theorem dL_acts_522 : decode cL_acts 522 = .ok (.goto 4, 3) := by decide +kernel
theorem dL_acts_525 : decode cL_acts 525 = .ok (.iconst 0, 1) := by decide +kernel
theorem dL_acts_526 : decode cL_acts 526 = .ok (.ireturn, 1) := by decide +kernel
theorem dL_acts_527 : decode cL_acts 527 = .ok (.aload_n 0, 1) := by decide +kernel
theorem dL_acts_528 : decode cL_acts 528 = .ok (.iload 4, 2) := by decide +kernel
theorem dL_acts_530 : decode cL_acts 530 = .ok (.invokestatic 206, 3) := by decide +kernel
theorem dL_acts_533 : decode cL_acts 533 = .ok (.ifCond .lt 18, 3) := by decide +kernel
theorem dL_acts_536 : decode cL_acts 536 = .ok (.aload_n 0, 1) := by decide +kernel
theorem dL_acts_537 : decode cL_acts 537 = .ok (.bipush 10, 2) := by decide +kernel
theorem dL_acts_539 : decode cL_acts 539 = .ok (.invokestatic 200, 3) := by decide +kernel
theorem dL_acts_542 : decode cL_acts 542 = .ok (.bipush (-77), 2) := by decide +kernel
theorem dL_acts_544 : decode cL_acts 544 = .ok (.if_icmp .lt 7, 3) := by decide +kernel
theorem dL_acts_547 : decode cL_acts 547 = .ok (.iconst 1, 1) := by decide +kernel
theorem dL_acts_548 : decode cL_acts 548 = .ok (.goto 4, 3) := by decide +kernel
theorem dL_acts_551 : decode cL_acts 551 = .ok (.iconst 0, 1) := by decide +kernel
theorem dL_acts_552 : decode cL_acts 552 = .ok (.ireturn, 1) := by decide +kernel
theorem dL_areRiddles_0 : decode cL_areRiddles 0 = .ok (.aload_n 0, 1) := by decide +kernel
theorem dL_areRiddles_1 : decode cL_areRiddles 1 = .ok (.invokevirtual 208, 3) := by decide +kernel
theorem dL_areRiddles_4 : decode cL_areRiddles 4 = .ok (.istore_n 1, 1) := by decide +kernel
theorem dL_areRiddles_5 : decode cL_areRiddles 5 = .ok (.iconst 0, 1) := by decide +kernel
theorem dL_areRiddles_6 : decode cL_areRiddles 6 = .ok (.istore_n 2, 1) := by decide +kernel
theorem dL_areRiddles_7 : decode cL_areRiddles 7 = .ok (.iload_n 2, 1) := by decide +kernel
theorem dL_areRiddles_8 : decode cL_areRiddles 8 = .ok (.iconst 5, 1) := by decide +kernel
theorem dL_areRiddles_9 : decode cL_areRiddles 9 = .ok (.if_icmp .ge 292, 3) := by decide +kernel
theorem dL_areRiddles_12 : decode cL_areRiddles 12 = .ok (.aload_n 0, 1) := by decide +kernel
theorem dL_areRiddles_13 : decode cL_areRiddles 13 = .ok (.iload_n 2, 1) := by decide +kernel
theorem dL_areRiddles_14 : decode cL_areRiddles 14 = .ok (.invokestatic 180, 3) := by decide +kernel
theorem dL_areRiddles_17 : decode cL_areRiddles 17 = .ok (.i2c, 1) := by decide +kernel
theorem dL_areRiddles_18 : decode cL_areRiddles 18 = .ok (.istore_n 3, 1) := by decide +kernel
theorem dL_areRiddles_19 : decode cL_areRiddles 19 = .ok (.iconst 0, 1) := by decide +kernel
theorem dL_areRiddles_20 : decode cL_areRiddles 20 = .ok (.istore 4, 2) := by decide +kernel
theorem dL_areRiddles_22 : decode cL_areRiddles 22 = .ok (.iconst 0, 1) := by decide +kernel
theorem dL_areRiddles_23 : decode cL_areRiddles 23 = .ok (.istore 5, 2) := by decide +kernel
theorem dL_areRiddles_25 : decode cL_areRiddles 25 = .ok (.bipush 10, 2) := by decide +kernel
theorem dL_areRiddles_27 : decode cL_areRiddles 27 = .ok (.istore 6, 2) := by decide +kernel
theorem dL_areRiddles_29 : decode cL_areRiddles 29 = .ok (.iload 6, 2) := by decide +kernel
theorem dL_areRiddles_31 : decode cL_areRiddles 31 = .ok (.bipush 13, 2) := by decide +kernel
theorem dL_areRiddles_33 : decode cL_areRiddles 33 = .ok (.if_icmp .ge 60, 3) := by decide +kernel
theorem dL_areRiddles_36 : decode cL_areRiddles 36 = .ok (.iload 4, 2) := by decide +kernel
theorem dL_areRiddles_38 : decode cL_areRiddles 38 = .ok (.aload_n 0, 1) := by decide +kernel
theorem dL_areRiddles_39 : decode cL_areRiddles 39 = .ok (.iload_n 2, 1) := by decide +kernel
theorem dL_areRiddles_40 : decode cL_areRiddles 40 = .ok (.iload 6, 2) := by decide +kernel
theorem dL_areRiddles_42 : decode cL_areRiddles 42 = .ok (.invokestatic 212, 3) := by decide +kernel
theorem dL_areRiddles_45 : decode cL_areRiddles 45 = .ok (.iconst 1, 1) := by decide +kernel
theorem dL_areRiddles_46 : decode cL_areRiddles 46 = .ok (.if_icmp .ne 7, 3) := by decide +kernel
theorem dL_areRiddles_49 : decode cL_areRiddles 49 = .ok (.iconst 1, 1) := by decide +kernel
theorem dL_areRiddles_50 : decode cL_areRiddles 50 = .ok (.goto 4, 3) := by decide +kernel
theorem dL_areRiddles_53 : decode cL_areRiddles 53 = .ok (.iconst 0, 1) := by decide +kernel
theorem dL_areRiddles_54 : decode cL_areRiddles 54 = .ok (.ior, 1) := by decide +kernel
theorem dL_areRiddles_55 : decode cL_areRiddles 55 = .ok (.istore 4, 2) := by decide +kernel
theorem dL_areRiddles_57 : decode cL_areRiddles 57 = .ok (.iload 5, 2) := by decide +kernel
theorem dL_areRiddles_59 : decode cL_areRiddles 59 = .ok (.aload_n 0, 1) := by decide +kernel
theorem dL_areRiddles_60 : decode cL_areRiddles 60 = .ok (.iload_n 2, 1) := by decide +kernel
theorem dL_areRiddles_61 : decode cL_areRiddles 61 = .ok (.iload 6, 2) := by decide +kernel
theorem dL_areRiddles_63 : decode cL_areRiddles 63 = .ok (.invokestatic 212, 3) := by decide +kernel
theorem dL_areRiddles_66 : decode cL_areRiddles 66 = .ok (.iconst 1, 1) := by decide +kernel
theorem dL_areRiddles_67 : decode cL_areRiddles 67 = .ok (.if_icmp .ne 16, 3) := by decide +kernel
theorem dL_areRiddles_70 : decode cL_areRiddles 70 = .ok (.aload_n 0, 1) := by decide +kernel
theorem dL_areRiddles_71 : decode cL_areRiddles 71 = .ok (.iload 6, 2) := by decide +kernel
theorem dL_areRiddles_73 : decode cL_areRiddles 73 = .ok (.invokestatic 198, 3) := by decide +kernel
theorem dL_areRiddles_76 : decode cL_areRiddles 76 = .ok (.ifCond .ne 7, 3) := by decide +kernel
theorem dL_areRiddles_79 : decode cL_areRiddles 79 = .ok (.iconst 1, 1) := by decide +kernel
theorem dL_areRiddles_80 : decode cL_areRiddles 80 = .ok (.goto 4, 3) := by decide +kernel
theorem dL_areRiddles_83 : decode cL_areRiddles 83 = .ok (.iconst 0, 1) := by decide +kernel
theorem dL_areRiddles_84 : decode cL_areRiddles 84 = .ok (.ior, 1) := by decide +kernel
theorem dL_areRiddles_85 : decode cL_areRiddles 85 = .ok (.istore 5, 2) := by decide +kernel
theorem dL_areRiddles_87 : decode cL_areRiddles 87 = .ok (.iinc 6 1, 3) := by decide +kernel
theorem dL_areRiddles_90 : decode cL_areRiddles 90 = .ok (.goto (-61), 3) := by decide +kernel
theorem dL_areRiddles_93 : decode cL_areRiddles 93 = .ok (.aload_n 0, 1) := by decide +kernel
theorem dL_areRiddles_94 : decode cL_areRiddles 94 = .ok (.iload_n 2, 1) := by decide +kernel
theorem dL_areRiddles_95 : decode cL_areRiddles 95 = .ok (.invokestatic 214, 3) := by decide +kernel
theorem dL_areRiddles_98 : decode cL_areRiddles 98 = .ok (.istore 6, 2) := by decide +kernel
theorem dL_areRiddles_100 : decode cL_areRiddles 100 = .ok (.iload_n 1, 1) := by decide +kernel
theorem dL_areRiddles_101 : decode cL_areRiddles 101 = .ok (.ldc 216, 2) := by decide +kernel
theorem dL_areRiddles_103 : decode cL_areRiddles 103 = .ok (.iload_n 3, 1) := by decide +kernel
theorem dL_areRiddles_104 : decode cL_areRiddles 104 = .ok (.invokevirtual 218, 3) := by decide +kernel
theorem dL_areRiddles_107 : decode cL_areRiddles 107 = .ok (.ifCond .lt 55, 3) := by decide +kernel
theorem dL_areRiddles_110 : decode cL_areRiddles 110 = .ok (.iload 5, 2) := by decide +kernel
theorem dL_areRiddles_112 : decode cL_areRiddles 112 = .ok (.ifCond .ne 50, 3) := by decide +kernel
theorem dL_areRiddles_115 : decode cL_areRiddles 115 = .ok (.iload_n 3, 1) := by decide +kernel
theorem dL_areRiddles_116 : decode cL_areRiddles 116 = .ok (.bipush 111, 2) := by decide +kernel
theorem dL_areRiddles_118 : decode cL_areRiddles 118 = .ok (.if_icmp .eq 14, 3) := by decide +kernel
theorem dL_areRiddles_121 : decode cL_areRiddles 121 = .ok (.iload_n 3, 1) := by decide +kernel
theorem dL_areRiddles_122 : decode cL_areRiddles 122 = .ok (.bipush 104, 2) := by decide +kernel
theorem dL_areRiddles_124 : decode cL_areRiddles 124 = .ok (.if_icmp .eq 8, 3) := by decide +kernel
theorem dL_areRiddles_127 : decode cL_areRiddles 127 = .ok (.iload 6, 2) := by decide +kernel
theorem dL_areRiddles_129 : decode cL_areRiddles 129 = .ok (.ifCond .lt 33, 3) := by decide +kernel
theorem dL_areRiddles_132 : decode cL_areRiddles 132 = .ok (.iload 4, 2) := by decide +kernel
theorem dL_areRiddles_134 : decode cL_areRiddles 134 = .ok (.ifCond .ne 24, 3) := by decide +kernel
theorem dL_areRiddles_137 : decode cL_areRiddles 137 = .ok (.iload_n 3, 1) := by decide +kernel
theorem dL_areRiddles_138 : decode cL_areRiddles 138 = .ok (.bipush 111, 2) := by decide +kernel
theorem dL_areRiddles_140 : decode cL_areRiddles 140 = .ok (.if_icmp .eq 18, 3) := by decide +kernel
theorem dL_areRiddles_143 : decode cL_areRiddles 143 = .ok (.iload_n 3, 1) := by decide +kernel
theorem dL_areRiddles_144 : decode cL_areRiddles 144 = .ok (.bipush 104, 2) := by decide +kernel
theorem dL_areRiddles_146 : decode cL_areRiddles 146 = .ok (.if_icmp .eq 12, 3) := by decide +kernel
theorem dL_areRiddles_149 : decode cL_areRiddles 149 = .ok (.aload_n 0, 1) := by decide +kernel
theorem dL_areRiddles_150 : decode cL_areRiddles 150 = .ok (.iload_n 2, 1) := by decide +kernel
theorem dL_areRiddles_151 : decode cL_areRiddles 151 = .ok (.invokestatic 206, 3) := by decide +kernel
theorem dL_areRiddles_154 : decode cL_areRiddles 154 = .ok (.iconst 1, 1) := by decide +kernel
theorem dL_areRiddles_155 : decode cL_areRiddles 155 = .ok (.if_icmp .ne 7, 3) := by decide +kernel
theorem dL_areRiddles_158 : decode cL_areRiddles 158 = .ok (.iconst 1, 1) := by decide +kernel
theorem dL_areRiddles_159 : decode cL_areRiddles 159 = .ok (.goto 4, 3) := by decide +kernel
theorem dL_areRiddles_162 : decode cL_areRiddles 162 = .ok (.iconst 0, 1) := by decide +kernel
theorem dL_areRiddles_163 : decode cL_areRiddles 163 = .ok (.iand, 1) := by decide +kernel
theorem dL_areRiddles_164 : decode cL_areRiddles 164 = .ok (.istore_n 1, 1) := by decide +kernel
theorem dL_areRiddles_165 : decode cL_areRiddles 165 = .ok (.iconst 0, 1) := by decide +kernel
theorem dL_areRiddles_166 : decode cL_areRiddles 166 = .ok (.istore 7, 2) := by decide +kernel
theorem dL_areRiddles_168 : decode cL_areRiddles 168 = .ok (.iconst 0, 1) := by decide +kernel
theorem dL_areRiddles_169 : decode cL_areRiddles 169 = .ok (.istore 8, 2) := by decide +kernel
theorem dL_areRiddles_171 : decode cL_areRiddles 171 = .ok (.iload 8, 2) := by decide +kernel
theorem dL_areRiddles_173 : decode cL_areRiddles 173 = .ok (.iload 6, 2) := by decide +kernel
theorem dL_areRiddles_175 : decode cL_areRiddles 175 = .ok (.if_icmp .ge 75, 3) := by decide +kernel
theorem dL_areRiddles_178 : decode cL_areRiddles 178 = .ok (.iload 7, 2) := by decide +kernel
theorem dL_areRiddles_180 : decode cL_areRiddles 180 = .ok (.aload_n 0, 1) := by decide +kernel
theorem dL_areRiddles_181 : decode cL_areRiddles 181 = .ok (.iload_n 2, 1) := by decide +kernel
theorem dL_areRiddles_182 : decode cL_areRiddles 182 = .ok (.iload 8, 2) := by decide +kernel
theorem dL_areRiddles_184 : decode cL_areRiddles 184 = .ok (.invokestatic 221, 3) := by decide +kernel
theorem dL_areRiddles_187 : decode cL_areRiddles 187 = .ok (.iadd, 1) := by decide +kernel
theorem dL_areRiddles_188 : decode cL_areRiddles 188 = .ok (.istore 7, 2) := by decide +kernel
theorem dL_areRiddles_190 : decode cL_areRiddles 190 = .ok (.iload_n 1, 1) := by decide +kernel
theorem dL_areRiddles_191 : decode cL_areRiddles 191 = .ok (.aload_n 0, 1) := by decide +kernel
theorem dL_areRiddles_192 : decode cL_areRiddles 192 = .ok (.iload_n 2, 1) := by decide +kernel
theorem dL_areRiddles_193 : decode cL_areRiddles 193 = .ok (.iload 8, 2) := by decide +kernel
theorem dL_areRiddles_195 : decode cL_areRiddles 195 = .ok (.invokestatic 221, 3) := by decide +kernel
theorem dL_areRiddles_198 : decode cL_areRiddles 198 = .ok (.ifCond .le 43, 3) := by decide +kernel
theorem dL_areRiddles_201 : decode cL_areRiddles 201 = .ok (.aload_n 0, 1) := by decide +kernel
theorem dL_areRiddles_202 : decode cL_areRiddles 202 = .ok (.iload_n 2, 1) := by decide +kernel
theorem dL_areRiddles_203 : decode cL_areRiddles 203 = .ok (.iload 8, 2) := by decide +kernel
theorem dL_areRiddles_205 : decode cL_areRiddles 205 = .ok (.invokestatic 223, 3) := by decide +kernel
theorem dL_areRiddles_208 : decode cL_areRiddles 208 = .ok (.ifCond .lt 33, 3) := by decide +kernel
theorem dL_areRiddles_211 : decode cL_areRiddles 211 = .ok (.aload_n 0, 1) := by decide +kernel
theorem dL_areRiddles_212 : decode cL_areRiddles 212 = .ok (.iload_n 2, 1) := by decide +kernel
theorem dL_areRiddles_213 : decode cL_areRiddles 213 = .ok (.iload 8, 2) := by decide +kernel
theorem dL_areRiddles_215 : decode cL_areRiddles 215 = .ok (.invokestatic 225, 3) := by decide +kernel
theorem dL_areRiddles_218 : decode cL_areRiddles 218 = .ok (.ifCond .lt 23, 3) := by decide +kernel
theorem dL_areRiddles_221 : decode cL_areRiddles 221 = .ok (.aload_n 0, 1) := by decide +kernel
theorem dL_areRiddles_222 : decode cL_areRiddles 222 = .ok (.iload_n 2, 1) := by decide +kernel
theorem dL_areRiddles_223 : decode cL_areRiddles 223 = .ok (.aload_n 0, 1) := by decide +kernel
theorem dL_areRiddles_224 : decode cL_areRiddles 224 = .ok (.iload_n 2, 1) := by decide +kernel
theorem dL_areRiddles_225 : decode cL_areRiddles 225 = .ok (.iload 8, 2) := by decide +kernel
theorem dL_areRiddles_227 : decode cL_areRiddles 227 = .ok (.invokestatic 223, 3) := by decide +kernel
theorem dL_areRiddles_230 : decode cL_areRiddles 230 = .ok (.invokestatic 212, 3) := by decide +kernel
theorem dL_areRiddles_233 : decode cL_areRiddles 233 = .ok (.iconst 1, 1) := by decide +kernel
theorem dL_areRiddles_234 : decode cL_areRiddles 234 = .ok (.if_icmp .ne 7, 3) := by decide +kernel
theorem dL_areRiddles_237 : decode cL_areRiddles 237 = .ok (.iconst 1, 1) := by decide +kernel
theorem dL_areRiddles_238 : decode cL_areRiddles 238 = .ok (.goto 4, 3) := by decide +kernel
theorem dL_areRiddles_241 : decode cL_areRiddles 241 = .ok (.iconst 0, 1) := by decide +kernel
theorem dL_areRiddles_242 : decode cL_areRiddles 242 = .ok (.iand, 1) := by decide +kernel
theorem dL_areRiddles_243 : decode cL_areRiddles 243 = .ok (.istore_n 1, 1) := by decide +kernel
theorem dL_areRiddles_244 : decode cL_areRiddles 244 = .ok (.iinc 8 1, 3) := by decide +kernel
theorem dL_areRiddles_247 : decode cL_areRiddles 247 = .ok (.goto (-76), 3) := by decide +kernel
theorem dL_areRiddles_250 : decode cL_areRiddles 250 = .ok (.iload_n 1, 1) := by decide +kernel
theorem dL_areRiddles_251 : decode cL_areRiddles 251 = .ok (.iload 7, 2) := by decide +kernel
theorem dL_areRiddles_253 : decode cL_areRiddles 253 = .ok (.bipush 16, 2) := by decide +kernel
theorem dL_areRiddles_255 : decode cL_areRiddles 255 = .ok (.if_icmp .gt 37, 3) := by decide +kernel
theorem dL_areRiddles_258 : decode cL_areRiddles 258 = .ok (.iload 6, 2) := by decide +kernel
theorem dL_areRiddles_260 : decode cL_areRiddles 260 = .ok (.ifCond .lt 15, 3) := by decide +kernel
theorem dL_areRiddles_263 : decode cL_areRiddles 263 = .ok (.aload_n 0, 1) := by decide +kernel
theorem dL_areRiddles_264 : decode cL_areRiddles 264 = .ok (.iload_n 2, 1) := by decide +kernel
theorem dL_areRiddles_265 : decode cL_areRiddles 265 = .ok (.iload 6, 2) := by decide +kernel
theorem dL_areRiddles_267 : decode cL_areRiddles 267 = .ok (.invokestatic 223, 3) := by decide +kernel
theorem dL_areRiddles_270 : decode cL_areRiddles 270 = .ok (.bipush (-75), 2) := by decide +kernel
theorem dL_areRiddles_272 : decode cL_areRiddles 272 = .ok (.if_icmp .ne 20, 3) := by decide +kernel
theorem dL_areRiddles_275 : decode cL_areRiddles 275 = .ok (.aload_n 0, 1) := by decide +kernel
theorem dL_areRiddles_276 : decode cL_areRiddles 276 = .ok (.iload_n 2, 1) := by decide +kernel
theorem dL_areRiddles_277 : decode cL_areRiddles 277 = .ok (.invokestatic 206, 3) := by decide +kernel
theorem dL_areRiddles_280 : decode cL_areRiddles 280 = .ok (.aload_n 0, 1) := by decide +kernel
theorem dL_areRiddles_281 : decode cL_areRiddles 281 = .ok (.iload_n 2, 1) := by decide +kernel
theorem dL_areRiddles_282 : decode cL_areRiddles 282 = .ok (.invokestatic 206, 3) := by decide +kernel
theorem dL_areRiddles_285 : decode cL_areRiddles 285 = .ok (.if_icmp .ne 7, 3) := by decide +kernel
theorem dL_areRiddles_288 : decode cL_areRiddles 288 = .ok (.iconst 1, 1) := by decide +kernel
theorem dL_areRiddles_289 : decode cL_areRiddles 289 = .ok (.goto 4, 3) := by decide +kernel
theorem dL_areRiddles_292 : decode cL_areRiddles 292 = .ok (.iconst 0, 1) := by decide +kernel
theorem dL_areRiddles_293 : decode cL_areRiddles 293 = .ok (.iand, 1) := by decide +kernel
theorem dL_areRiddles_294 : decode cL_areRiddles 294 = .ok (.istore_n 1, 1) := by decide +kernel
theorem dL_areRiddles_295 : decode cL_areRiddles 295 = .ok (.iinc 2 1, 3) := by decide +kernel
theorem dL_areRiddles_298 : decode cL_areRiddles 298 = .ok (.goto (-291), 3) := by decide +kernel
theorem dL_areRiddles_301 : decode cL_areRiddles 301 = .ok (.aload_n 0, 1) := by decide +kernel
theorem dL_areRiddles_302 : decode cL_areRiddles 302 = .ok (.invokestatic 227, 3) := by decide +kernel
theorem dL_areRiddles_305 : decode cL_areRiddles 305 = .ok (.fstore_n 2, 1) := by decide +kernel
theorem dL_areRiddles_306 : decode cL_areRiddles 306 = .ok (.aload_n 0, 1) := by decide +kernel
theorem dL_areRiddles_307 : decode cL_areRiddles 307 = .ok (.invokestatic 230, 3) := by decide +kernel
theorem dL_areRiddles_310 : decode cL_areRiddles 310 = .ok (.dstore_n 3, 1) := by decide +kernel
theorem dL_areRiddles_311 : decode cL_areRiddles 311 = .ok (.iload_n 1, 1) := by decide +kernel
theorem dL_areRiddles_312 : decode cL_areRiddles 312 = .ok (.ifCond .eq 46, 3) := by decide +kernel
theorem dL_areRiddles_315 : decode cL_areRiddles 315 = .ok (.fload_n 2, 1) := by decide +kernel
theorem dL_areRiddles_316 : decode cL_areRiddles 316 = .ok (.fconst 0, 1) := by decide +kernel
theorem dL_areRiddles_317 : decode cL_areRiddles 317 = .ok (.fcmp .l, 1) := by decide +kernel
theorem dL_areRiddles_318 : decode cL_areRiddles 318 = .ok (.ifCond .lt 40, 3) := by decide +kernel
theorem dL_areRiddles_321 : decode cL_areRiddles 321 = .ok (.fload_n 2, 1) := by decide +kernel
theorem dL_areRiddles_322 : decode cL_areRiddles 322 = .ok (.fconst 1, 1) := by decide +kernel
theorem dL_areRiddles_323 : decode cL_areRiddles 323 = .ok (.fcmp .g, 1) := by decide +kernel
theorem dL_areRiddles_324 : decode cL_areRiddles 324 = .ok (.ifCond .gt 34, 3) := by decide +kernel
theorem dL_areRiddles_327 : decode cL_areRiddles 327 = .ok (.fload_n 2, 1) := by decide +kernel
theorem dL_areRiddles_328 : decode cL_areRiddles 328 = .ok (.fconst 0, 1) := by decide +kernel
theorem dL_areRiddles_329 : decode cL_areRiddles 329 = .ok (.fcmp .l, 1) := by decide +kernel
theorem dL_areRiddles_330 : decode cL_areRiddles 330 = .ok (.ifCond .ne 7, 3) := by decide +kernel
theorem dL_areRiddles_333 : decode cL_areRiddles 333 = .ok (.iconst 1, 1) := by decide +kernel
theorem dL_areRiddles_334 : decode cL_areRiddles 334 = .ok (.goto 4, 3) := by decide +kernel
theorem dL_areRiddles_337 : decode cL_areRiddles 337 = .ok (.iconst 0, 1) := by decide +kernel
theorem dL_areRiddles_338 : decode cL_areRiddles 338 = .ok (.dload_n 3, 1) := by decide +kernel
theorem dL_areRiddles_339 : decode cL_areRiddles 339 = .ok (.ldc2_w 123, 3) := by decide +kernel
theorem dL_areRiddles_342 : decode cL_areRiddles 342 = .ok (.dcmp .l, 1) := by decide +kernel
theorem dL_areRiddles_343 : decode cL_areRiddles 343 = .ok (.ifCond .ne 7, 3) := by decide +kernel
theorem dL_areRiddles_346 : decode cL_areRiddles 346 = .ok (.iconst 1, 1) := by decide +kernel
theorem dL_areRiddles_347 : decode cL_areRiddles 347 = .ok (.goto 4, 3) := by decide +kernel
theorem dL_areRiddles_350 : decode cL_areRiddles 350 = .ok (.iconst 0, 1) := by decide +kernel
theorem dL_areRiddles_351 : decode cL_areRiddles 351 = .ok (.if_icmp .ne 7, 3) := by decide +kernel
theorem dL_areRiddles_354 : decode cL_areRiddles 354 = .ok (.iconst 1, 1) := by decide +kernel
theorem dL_areRiddles_355 : decode cL_areRiddles 355 = .ok (.goto 4, 3) := by decide +kernel
theorem dL_areRiddles_358 : decode cL_areRiddles 358 = .ok (.iconst 0, 1) := by decide +kernel
theorem dL_areRiddles_359 : decode cL_areRiddles 359 = .ok (.ireturn, 1) := by decide +kernel
theorem dL_areIssues_0 : decode cL_areIssues 0 = .ok (.iconst 1, 1) := by decide +kernel
theorem dL_areIssues_1 : decode cL_areIssues 1 = .ok (.istore_n 1, 1) := by decide +kernel
theorem dL_areIssues_2 : decode cL_areIssues 2 = .ok (.iconst 0, 1) := by decide +kernel
theorem dL_areIssues_3 : decode cL_areIssues 3 = .ok (.istore_n 2, 1) := by decide +kernel
theorem dL_areIssues_4 : decode cL_areIssues 4 = .ok (.iconst 0, 1) := by decide +kernel
theorem dL_areIssues_5 : decode cL_areIssues 5 = .ok (.istore_n 3, 1) := by decide +kernel
theorem dL_areIssues_6 : decode cL_areIssues 6 = .ok (.iload_n 3, 1) := by decide +kernel
theorem dL_areIssues_7 : decode cL_areIssues 7 = .ok (.iconst 4, 1) := by decide +kernel
theorem dL_areIssues_8 : decode cL_areIssues 8 = .ok (.if_icmp .ge 134, 3) := by decide +kernel
theorem dL_areIssues_11 : decode cL_areIssues 11 = .ok (.aload_n 0, 1) := by decide +kernel
theorem dL_areIssues_12 : decode cL_areIssues 12 = .ok (.iload_n 3, 1) := by decide +kernel
theorem dL_areIssues_13 : decode cL_areIssues 13 = .ok (.invokestatic 186, 3) := by decide +kernel
theorem dL_areIssues_16 : decode cL_areIssues 16 = .ok (.istore 4, 2) := by decide +kernel
theorem dL_areIssues_18 : decode cL_areIssues 18 = .ok (.iload_n 1, 1) := by decide +kernel
theorem dL_areIssues_19 : decode cL_areIssues 19 = .ok (.iload 4, 2) := by decide +kernel
theorem dL_areIssues_21 : decode cL_areIssues 21 = .ok (.bipush (-77), 2) := by decide +kernel
theorem dL_areIssues_23 : decode cL_areIssues 23 = .ok (.if_icmp .eq 24, 3) := by decide +kernel
theorem dL_areIssues_26 : decode cL_areIssues 26 = .ok (.iload 4, 2) := by decide +kernel
theorem dL_areIssues_28 : decode cL_areIssues 28 = .ok (.bipush 109, 2) := by decide +kernel
theorem dL_areIssues_30 : decode cL_areIssues 30 = .ok (.if_icmp .eq 17, 3) := by decide +kernel
theorem dL_areIssues_33 : decode cL_areIssues 33 = .ok (.iload 4, 2) := by decide +kernel
theorem dL_areIssues_35 : decode cL_areIssues 35 = .ok (.bipush 115, 2) := by decide +kernel
theorem dL_areIssues_37 : decode cL_areIssues 37 = .ok (.if_icmp .eq 10, 3) := by decide +kernel
theorem dL_areIssues_40 : decode cL_areIssues 40 = .ok (.iload 4, 2) := by decide +kernel
theorem dL_areIssues_42 : decode cL_areIssues 42 = .ok (.bipush 114, 2) := by decide +kernel
theorem dL_areIssues_44 : decode cL_areIssues 44 = .ok (.if_icmp .ne 7, 3) := by decide +kernel
theorem dL_areIssues_47 : decode cL_areIssues 47 = .ok (.iconst 1, 1) := by decide +kernel
theorem dL_areIssues_48 : decode cL_areIssues 48 = .ok (.goto 4, 3) := by decide +kernel
theorem dL_areIssues_51 : decode cL_areIssues 51 = .ok (.iconst 0, 1) := by decide +kernel
theorem dL_areIssues_52 : decode cL_areIssues 52 = .ok (.iand, 1) := by decide +kernel
theorem dL_areIssues_53 : decode cL_areIssues 53 = .ok (.istore_n 1, 1) := by decide +kernel
theorem dL_areIssues_54 : decode cL_areIssues 54 = .ok (.iload_n 2, 1) := by decide +kernel
theorem dL_areIssues_55 : decode cL_areIssues 55 = .ok (.iload 4, 2) := by decide +kernel
theorem dL_areIssues_57 : decode cL_areIssues 57 = .ok (.bipush 115, 2) := by decide +kernel
theorem dL_areIssues_59 : decode cL_areIssues 59 = .ok (.if_icmp .ne 7, 3) := by decide +kernel
theorem dL_areIssues_62 : decode cL_areIssues 62 = .ok (.iconst 1, 1) := by decide +kernel
theorem dL_areIssues_63 : decode cL_areIssues 63 = .ok (.goto 4, 3) := by decide +kernel
theorem dL_areIssues_66 : decode cL_areIssues 66 = .ok (.iconst 0, 1) := by decide +kernel
theorem dL_areIssues_67 : decode cL_areIssues 67 = .ok (.iadd, 1) := by decide +kernel
theorem dL_areIssues_68 : decode cL_areIssues 68 = .ok (.istore_n 2, 1) := by decide +kernel
theorem dL_areIssues_69 : decode cL_areIssues 69 = .ok (.iconst 0, 1) := by decide +kernel
theorem dL_areIssues_70 : decode cL_areIssues 70 = .ok (.istore 5, 2) := by decide +kernel
theorem dL_areIssues_72 : decode cL_areIssues 72 = .ok (.iload 5, 2) := by decide +kernel
theorem dL_areIssues_74 : decode cL_areIssues 74 = .ok (.iconst 3, 1) := by decide +kernel
theorem dL_areIssues_75 : decode cL_areIssues 75 = .ok (.if_icmp .ge 61, 3) := by decide +kernel
theorem dL_areIssues_78 : decode cL_areIssues 78 = .ok (.iload_n 1, 1) := by decide +kernel
theorem dL_areIssues_79 : decode cL_areIssues 79 = .ok (.iload 4, 2) := by decide +kernel
theorem dL_areIssues_81 : decode cL_areIssues 81 = .ok (.bipush (-77), 2) := by decide +kernel
theorem dL_areIssues_83 : decode cL_areIssues 83 = .ok (.if_icmp .ne 23, 3) := by decide +kernel
theorem dL_areIssues_86 : decode cL_areIssues 86 = .ok (.aload_n 0, 1) := by decide +kernel
theorem dL_areIssues_87 : decode cL_areIssues 87 = .ok (.iload 5, 2) := by decide +kernel
theorem dL_areIssues_89 : decode cL_areIssues 89 = .ok (.iload_n 3, 1) := by decide +kernel
theorem dL_areIssues_90 : decode cL_areIssues 90 = .ok (.invokestatic 196, 3) := by decide +kernel
theorem dL_areIssues_93 : decode cL_areIssues 93 = .ok (.bipush (-77), 2) := by decide +kernel
theorem dL_areIssues_95 : decode cL_areIssues 95 = .ok (.if_icmp .ne 7, 3) := by decide +kernel
theorem dL_areIssues_98 : decode cL_areIssues 98 = .ok (.iconst 1, 1) := by decide +kernel
theorem dL_areIssues_99 : decode cL_areIssues 99 = .ok (.goto 29, 3) := by decide +kernel
theorem dL_areIssues_102 : decode cL_areIssues 102 = .ok (.iconst 0, 1) := by decide +kernel
theorem dL_areIssues_103 : decode cL_areIssues 103 = .ok (.goto 25, 3) := by decide +kernel
theorem dL_areIssues_106 : decode cL_areIssues 106 = .ok (.aload_n 0, 1) := by decide +kernel
theorem dL_areIssues_107 : decode cL_areIssues 107 = .ok (.iload 5, 2) := by decide +kernel
theorem dL_areIssues_109 : decode cL_areIssues 109 = .ok (.iload_n 3, 1) := by decide +kernel
theorem dL_areIssues_110 : decode cL_areIssues 110 = .ok (.invokestatic 196, 3) := by decide +kernel
theorem dL_areIssues_113 : decode cL_areIssues 113 = .ok (.ifCond .eq 10, 3) := by decide +kernel
theorem dL_areIssues_116 : decode cL_areIssues 116 = .ok (.iload 4, 2) := by decide +kernel
theorem dL_areIssues_118 : decode cL_areIssues 118 = .ok (.bipush 109, 2) := by decide +kernel
theorem dL_areIssues_120 : decode cL_areIssues 120 = .ok (.if_icmp .eq 7, 3) := by decide +kernel
theorem dL_areIssues_123 : decode cL_areIssues 123 = .ok (.iconst 1, 1) := by decide +kernel
theorem dL_areIssues_124 : decode cL_areIssues 124 = .ok (.goto 4, 3) := by decide +kernel
theorem dL_areIssues_127 : decode cL_areIssues 127 = .ok (.iconst 0, 1) := by decide +kernel
theorem dL_areIssues_128 : decode cL_areIssues 128 = .ok (.iand, 1) := by decide +kernel
theorem dL_areIssues_129 : decode cL_areIssues 129 = .ok (.istore_n 1, 1) := by decide +kernel
theorem dL_areIssues_130 : decode cL_areIssues 130 = .ok (.iinc 5 1, 3) := by decide +kernel
theorem dL_areIssues_133 : decode cL_areIssues 133 = .ok (.goto (-61), 3) := by decide +kernel
theorem dL_areIssues_136 : decode cL_areIssues 136 = .ok (.iinc 3 1, 3) := by decide +kernel
theorem dL_areIssues_139 : decode cL_areIssues 139 = .ok (.goto (-133), 3) := by decide +kernel
theorem dL_areIssues_142 : decode cL_areIssues 142 = .ok (.iconst 0, 1) := by decide +kernel
theorem dL_areIssues_143 : decode cL_areIssues 143 = .ok (.istore_n 3, 1) := by decide +kernel
theorem dL_areIssues_144 : decode cL_areIssues 144 = .ok (.iload_n 3, 1) := by decide +kernel
theorem dL_areIssues_145 : decode cL_areIssues 145 = .ok (.bipush 10, 2) := by decide +kernel
theorem dL_areIssues_147 : decode cL_areIssues 147 = .ok (.if_icmp .ge 34, 3) := by decide +kernel
theorem dL_areIssues_150 : decode cL_areIssues 150 = .ok (.iload_n 1, 1) := by decide +kernel
theorem dL_areIssues_151 : decode cL_areIssues 151 = .ok (.aload_n 0, 1) := by decide +kernel
theorem dL_areIssues_152 : decode cL_areIssues 152 = .ok (.iload_n 3, 1) := by decide +kernel
theorem dL_areIssues_153 : decode cL_areIssues 153 = .ok (.invokestatic 204, 3) := by decide +kernel
theorem dL_areIssues_156 : decode cL_areIssues 156 = .ok (.ifCond .lt 16, 3) := by decide +kernel
theorem dL_areIssues_159 : decode cL_areIssues 159 = .ok (.aload_n 0, 1) := by decide +kernel
theorem dL_areIssues_160 : decode cL_areIssues 160 = .ok (.iload_n 3, 1) := by decide +kernel
theorem dL_areIssues_161 : decode cL_areIssues 161 = .ok (.invokestatic 198, 3) := by decide +kernel
theorem dL_areIssues_164 : decode cL_areIssues 164 = .ok (.iconst 1, 1) := by decide +kernel
theorem dL_areIssues_165 : decode cL_areIssues 165 = .ok (.if_icmp .ne 7, 3) := by decide +kernel
theorem dL_areIssues_168 : decode cL_areIssues 168 = .ok (.iconst 1, 1) := by decide +kernel
theorem dL_areIssues_169 : decode cL_areIssues 169 = .ok (.goto 4, 3) := by decide +kernel
theorem dL_areIssues_172 : decode cL_areIssues 172 = .ok (.iconst 0, 1) := by decide +kernel
theorem dL_areIssues_173 : decode cL_areIssues 173 = .ok (.iand, 1) := by decide +kernel
theorem dL_areIssues_174 : decode cL_areIssues 174 = .ok (.istore_n 1, 1) := by decide +kernel
theorem dL_areIssues_175 : decode cL_areIssues 175 = .ok (.iinc 3 1, 3) := by decide +kernel
theorem dL_areIssues_178 : decode cL_areIssues 178 = .ok (.goto (-34), 3) := by decide +kernel
theorem dL_areIssues_181 : decode cL_areIssues 181 = .ok (.iload_n 1, 1) := by decide +kernel
theorem dL_areIssues_182 : decode cL_areIssues 182 = .ok (.ifCond .eq 21, 3) := by decide +kernel
theorem dL_areIssues_185 : decode cL_areIssues 185 = .ok (.iload_n 2, 1) := by decide +kernel
theorem dL_areIssues_186 : decode cL_areIssues 186 = .ok (.ifCond .eq 13, 3) := by decide +kernel
theorem dL_areIssues_189 : decode cL_areIssues 189 = .ok (.aload_n 0, 1) := by decide +kernel
theorem dL_areIssues_190 : decode cL_areIssues 190 = .ok (.iconst 0, 1) := by decide +kernel
theorem dL_areIssues_191 : decode cL_areIssues 191 = .ok (.invokestatic 204, 3) := by decide +kernel
theorem dL_areIssues_194 : decode cL_areIssues 194 = .ok (.bipush 12, 2) := by decide +kernel
theorem dL_areIssues_196 : decode cL_areIssues 196 = .ok (.if_icmp .gt 7, 3) := by decide +kernel
theorem dL_areIssues_199 : decode cL_areIssues 199 = .ok (.iconst 1, 1) := by decide +kernel
theorem dL_areIssues_200 : decode cL_areIssues 200 = .ok (.goto 4, 3) := by decide +kernel
theorem dL_areIssues_203 : decode cL_areIssues 203 = .ok (.iconst 0, 1) := by decide +kernel
theorem dL_areIssues_204 : decode cL_areIssues 204 = .ok (.ireturn, 1) := by decide +kernel
theorem dL_isThrown_0 : decode cL_isThrown 0 = .ok (.aload_n 0, 1) := by decide +kernel
theorem dL_isThrown_1 : decode cL_isThrown 1 = .ok (.invokevirtual 171, 3) := by decide +kernel
theorem dL_isThrown_4 : decode cL_isThrown 4 = .ok (.lstore_n 1, 1) := by decide +kernel
theorem dL_isThrown_5 : decode cL_isThrown 5 = .ok (.aload_n 0, 1) := by decide +kernel
theorem dL_isThrown_6 : decode cL_isThrown 6 = .ok (.iconst 1, 1) := by decide +kernel
theorem dL_isThrown_7 : decode cL_isThrown 7 = .ok (.invokestatic 175, 3) := by decide +kernel
theorem dL_isThrown_10 : decode cL_isThrown 10 = .ok (.istore_n 3, 1) := by decide +kernel
theorem dL_isThrown_11 : decode cL_isThrown 11 = .ok (.aload_n 0, 1) := by decide +kernel
theorem dL_isThrown_12 : decode cL_isThrown 12 = .ok (.iconst 0, 1) := by decide +kernel
theorem dL_isThrown_13 : decode cL_isThrown 13 = .ok (.invokestatic 180, 3) := by decide +kernel
theorem dL_isThrown_16 : decode cL_isThrown 16 = .ok (.istore 4, 2) := by decide +kernel
theorem dL_isThrown_18 : decode cL_isThrown 18 = .ok (.aload_n 0, 1) := by decide +kernel
theorem dL_isThrown_19 : decode cL_isThrown 19 = .ok (.bipush 9, 2) := by decide +kernel
theorem dL_isThrown_21 : decode cL_isThrown 21 = .ok (.invokestatic 150, 3) := by decide +kernel
theorem dL_isThrown_24 : decode cL_isThrown 24 = .ok (.bipush (-78), 2) := by decide +kernel
theorem dL_isThrown_26 : decode cL_isThrown 26 = .ok (.if_icmp .ne 129, 3) := by decide +kernel
theorem dL_isThrown_29 : decode cL_isThrown 29 = .ok (.aload_n 0, 1) := by decide +kernel
theorem dL_isThrown_30 : decode cL_isThrown 30 = .ok (.bipush 9, 2) := by decide +kernel
theorem dL_isThrown_32 : decode cL_isThrown 32 = .ok (.bipush 112, 2) := by decide +kernel
theorem dL_isThrown_34 : decode cL_isThrown 34 = .ok (.iconst 0, 1) := by decide +kernel
theorem dL_isThrown_35 : decode cL_isThrown 35 = .ok (.iconst 0, 1) := by decide +kernel
theorem dL_isThrown_36 : decode cL_isThrown 36 = .ok (.iconst 0, 1) := by decide +kernel
theorem dL_isThrown_37 : decode cL_isThrown 37 = .ok (.invokestatic 155, 3) := by decide +kernel
theorem dL_isThrown_40 : decode cL_isThrown 40 = .ok (.bipush (-77), 2) := by decide +kernel
theorem dL_isThrown_42 : decode cL_isThrown 42 = .ok (.if_icmp .ne 113, 3) := by decide +kernel
theorem dL_isThrown_45 : decode cL_isThrown 45 = .ok (.aload_n 0, 1) := by decide +kernel
theorem dL_isThrown_46 : decode cL_isThrown 46 = .ok (.iconst (-1), 1) := by decide +kernel
theorem dL_isThrown_47 : decode cL_isThrown 47 = .ok (.invokestatic 182, 3) := by decide +kernel
theorem dL_isThrown_50 : decode cL_isThrown 50 = .ok (.bipush (-77), 2) := by decide +kernel
theorem dL_isThrown_52 : decode cL_isThrown 52 = .ok (.if_icmp .ne 103, 3) := by decide +kernel
theorem dL_isThrown_55 : decode cL_isThrown 55 = .ok (.aload_n 0, 1) := by decide +kernel
theorem dL_isThrown_56 : decode cL_isThrown 56 = .ok (.iconst 0, 1) := by decide +kernel
theorem dL_isThrown_57 : decode cL_isThrown 57 = .ok (.bipush 6, 2) := by decide +kernel
theorem dL_isThrown_59 : decode cL_isThrown 59 = .ok (.invokestatic 233, 3) := by decide +kernel
theorem dL_isThrown_62 : decode cL_isThrown 62 = .ok (.bipush (-77), 2) := by decide +kernel
theorem dL_isThrown_64 : decode cL_isThrown 64 = .ok (.if_icmp .ne 91, 3) := by decide +kernel
theorem dL_isThrown_67 : decode cL_isThrown 67 = .ok (.aload_n 0, 1) := by decide +kernel
theorem dL_isThrown_68 : decode cL_isThrown 68 = .ok (.bipush 113, 2) := by decide +kernel
theorem dL_isThrown_70 : decode cL_isThrown 70 = .ok (.bipush 97, 2) := by decide +kernel
theorem dL_isThrown_72 : decode cL_isThrown 72 = .ok (.iconst 1, 1) := by decide +kernel
theorem dL_isThrown_73 : decode cL_isThrown 73 = .ok (.iconst 1, 1) := by decide +kernel
theorem dL_isThrown_74 : decode cL_isThrown 74 = .ok (.invokestatic 139, 3) := by decide +kernel
theorem dL_isThrown_77 : decode cL_isThrown 77 = .ok (.bipush (-78), 2) := by decide +kernel
theorem dL_isThrown_79 : decode cL_isThrown 79 = .ok (.if_icmp .ne 76, 3) := by decide +kernel
theorem dL_isThrown_82 : decode cL_isThrown 82 = .ok (.aload_n 0, 1) := by decide +kernel
theorem dL_isThrown_83 : decode cL_isThrown 83 = .ok (.bipush 9, 2) := by decide +kernel
theorem dL_isThrown_85 : decode cL_isThrown 85 = .ok (.invokestatic 202, 3) := by decide +kernel
theorem dL_isThrown_88 : decode cL_isThrown 88 = .ok (.bipush (-77), 2) := by decide +kernel
theorem dL_isThrown_90 : decode cL_isThrown 90 = .ok (.if_icmp .ne 65, 3) := by decide +kernel
theorem dL_isThrown_93 : decode cL_isThrown 93 = .ok (.aload_n 0, 1) := by decide +kernel
theorem dL_isThrown_94 : decode cL_isThrown 94 = .ok (.bipush 12, 2) := by decide +kernel
theorem dL_isThrown_96 : decode cL_isThrown 96 = .ok (.iconst 0, 1) := by decide +kernel
theorem dL_isThrown_97 : decode cL_isThrown 97 = .ok (.invokestatic 190, 3) := by decide +kernel
theorem dL_isThrown_100 : decode cL_isThrown 100 = .ok (.bipush (-77), 2) := by decide +kernel
theorem dL_isThrown_102 : decode cL_isThrown 102 = .ok (.if_icmp .ne 53, 3) := by decide +kernel
theorem dL_isThrown_105 : decode cL_isThrown 105 = .ok (.aload_n 0, 1) := by decide +kernel
theorem dL_isThrown_106 : decode cL_isThrown 106 = .ok (.bipush 12, 2) := by decide +kernel
theorem dL_isThrown_108 : decode cL_isThrown 108 = .ok (.iconst 0, 1) := by decide +kernel
theorem dL_isThrown_109 : decode cL_isThrown 109 = .ok (.invokestatic 188, 3) := by decide +kernel
theorem dL_isThrown_112 : decode cL_isThrown 112 = .ok (.bipush (-77), 2) := by decide +kernel
theorem dL_isThrown_114 : decode cL_isThrown 114 = .ok (.if_icmp .ne 41, 3) := by decide +kernel
theorem dL_isThrown_117 : decode cL_isThrown 117 = .ok (.aload_n 0, 1) := by decide +kernel
theorem dL_isThrown_118 : decode cL_isThrown 118 = .ok (.iconst 0, 1) := by decide +kernel
theorem dL_isThrown_119 : decode cL_isThrown 119 = .ok (.iconst 0, 1) := by decide +kernel
theorem dL_isThrown_120 : decode cL_isThrown 120 = .ok (.invokestatic 145, 3) := by decide +kernel
theorem dL_isThrown_123 : decode cL_isThrown 123 = .ok (.bipush (-78), 2) := by decide +kernel
theorem dL_isThrown_125 : decode cL_isThrown 125 = .ok (.if_icmp .ne 30, 3) := by decide +kernel
theorem dL_isThrown_128 : decode cL_isThrown 128 = .ok (.aload_n 0, 1) := by decide +kernel
theorem dL_isThrown_129 : decode cL_isThrown 129 = .ok (.iconst 3, 1) := by decide +kernel
theorem dL_isThrown_130 : decode cL_isThrown 130 = .ok (.iconst 1, 1) := by decide +kernel
theorem dL_isThrown_131 : decode cL_isThrown 131 = .ok (.invokestatic 192, 3) := by decide +kernel
theorem dL_isThrown_134 : decode cL_isThrown 134 = .ok (.bipush (-77), 2) := by decide +kernel
theorem dL_isThrown_136 : decode cL_isThrown 136 = .ok (.if_icmp .ne 19, 3) := by decide +kernel
theorem dL_isThrown_139 : decode cL_isThrown 139 = .ok (.aload_n 0, 1) := by decide +kernel
theorem dL_isThrown_140 : decode cL_isThrown 140 = .ok (.iconst 0, 1) := by decide +kernel
theorem dL_isThrown_141 : decode cL_isThrown 141 = .ok (.bipush 12, 2) := by decide +kernel
theorem dL_isThrown_143 : decode cL_isThrown 143 = .ok (.invokestatic 194, 3) := by decide +kernel
theorem dL_isThrown_146 : decode cL_isThrown 146 = .ok (.bipush (-77), 2) := by decide +kernel
theorem dL_isThrown_148 : decode cL_isThrown 148 = .ok (.if_icmp .ne 7, 3) := by decide +kernel
theorem dL_isThrown_151 : decode cL_isThrown 151 = .ok (.iconst 1, 1) := by decide +kernel
theorem dL_isThrown_152 : decode cL_isThrown 152 = .ok (.goto 4, 3) := by decide +kernel
theorem dL_isThrown_155 : decode cL_isThrown 155 = .ok (.iconst 0, 1) := by decide +kernel
theorem dL_isThrown_156 : decode cL_isThrown 156 = .ok (.istore 5, 2) := by decide +kernel
theorem dL_isThrown_158 : decode cL_isThrown 158 = .ok (.iload 5, 2) := by decide +kernel
theorem dL_isThrown_160 : decode cL_isThrown 160 = .ok (.ifCond .eq 35, 3) := by decide +kernel
theorem dL_isThrown_163 : decode cL_isThrown 163 = .ok (.aload_n 0, 1) := by decide +kernel
theorem dL_isThrown_164 : decode cL_isThrown 164 = .ok (.invokevirtual 171, 3) := by decide +kernel
theorem dL_isThrown_167 : decode cL_isThrown 167 = .ok (.lload_n 1, 1) := by decide +kernel
theorem dL_isThrown_168 : decode cL_isThrown 168 = .ok (.lcmp, 1) := by decide +kernel
theorem dL_isThrown_169 : decode cL_isThrown 169 = .ok (.ifCond .ne 26, 3) := by decide +kernel
theorem dL_isThrown_172 : decode cL_isThrown 172 = .ok (.aload_n 0, 1) := by decide +kernel
theorem dL_isThrown_173 : decode cL_isThrown 173 = .ok (.iconst 1, 1) := by decide +kernel
theorem dL_isThrown_174 : decode cL_isThrown 174 = .ok (.invokestatic 175, 3) := by decide +kernel
theorem dL_isThrown_177 : decode cL_isThrown 177 = .ok (.iload_n 3, 1) := by decide +kernel
theorem dL_isThrown_178 : decode cL_isThrown 178 = .ok (.if_icmp .ne 17, 3) := by decide +kernel
theorem dL_isThrown_181 : decode cL_isThrown 181 = .ok (.aload_n 0, 1) := by decide +kernel
theorem dL_isThrown_182 : decode cL_isThrown 182 = .ok (.iconst 0, 1) := by decide +kernel
theorem dL_isThrown_183 : decode cL_isThrown 183 = .ok (.invokestatic 180, 3) := by decide +kernel
theorem dL_isThrown_186 : decode cL_isThrown 186 = .ok (.iload 4, 2) := by decide +kernel
theorem dL_isThrown_188 : decode cL_isThrown 188 = .ok (.if_icmp .ne 7, 3) := by decide +kernel
theorem dL_isThrown_191 : decode cL_isThrown 191 = .ok (.iconst 1, 1) := by decide +kernel
theorem dL_isThrown_192 : decode cL_isThrown 192 = .ok (.goto 4, 3) := by decide +kernel
theorem dL_isThrown_195 : decode cL_isThrown 195 = .ok (.iconst 0, 1) := by decide +kernel
theorem dL_isThrown_196 : decode cL_isThrown 196 = .ok (.ireturn, 1) := by decide +kernel
