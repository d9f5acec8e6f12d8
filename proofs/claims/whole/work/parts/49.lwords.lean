/-! words of the law -/
theorem wd_1_0 : (Jvm.Cond.initialized "RiddlePressLaw") ∈ ab_T := ab_w1 0 rfl rfl
theorem wd_1_35 : (Jvm.Cond.classLink "RiddlePressLaw" (8 : Nat) "RiddlePress") ∈ ab_T := ab_w1 35 rfl rfl
theorem wd_1_36 : (Jvm.Cond.instantiable "RiddlePress" (5 : Nat)) ∈ ab_T := ab_w1 36 rfl rfl
theorem wd_1_37 : (Jvm.Cond.methodLink "RiddlePressLaw" (115 : Nat) ({ cls := "RiddlePress", name := "<init>", desc := "()V" } : Jvm.MethodName)) ∈ ab_T := ab_w1 37 rfl rfl
theorem wd_1_38 : (Jvm.Cond.instanceMethod ({ cls := "RiddlePress", name := "<init>", desc := "()V" } : Jvm.MethodName)) ∈ ab_T := ab_w1 38 rfl rfl
theorem wd_1_39 : (Jvm.Cond.code ({ cls := "RiddlePress", name := "<init>", desc := "()V" } : Jvm.MethodName) prog_1_method_1_code (1 : Nat) (Option.none : Option Jvm.ClassFile.FieldType)) ∈ ab_T := ab_w1 39 rfl rfl
theorem wd_1_85 : (Jvm.Cond.methodLink "RiddlePressLaw" (207 : Nat) ({ cls := "RiddlePress", name := "press", desc := "()J" } : Jvm.MethodName)) ∈ ab_T := ab_w1 85 rfl rfl
theorem wd_1_86 : (Jvm.Cond.instanceMethod ({ cls := "RiddlePress", name := "press", desc := "()J" } : Jvm.MethodName)) ∈ ab_T := ab_w1 86 rfl rfl
theorem wd_1_87 : (Jvm.Cond.selects "RiddlePress" ({ cls := "RiddlePress", name := "press", desc := "()J" } : Jvm.MethodName) ({ cls := "RiddlePress", name := "press", desc := "()J" } : Jvm.MethodName)) ∈ ab_T := ab_w1 87 rfl rfl
theorem wd_1_88 : (Jvm.Cond.code ({ cls := "RiddlePress", name := "press", desc := "()J" } : Jvm.MethodName) prog_1_method_28_code (1 : Nat) (Option.some Jvm.ClassFile.FieldType.long)) ∈ ab_T := ab_w1 88 rfl rfl
theorem wd_1_89 : (Jvm.Cond.methodLink "RiddlePressLaw" (212 : Nat) ({ cls := "RiddlePress", name := "isClean", desc := "()Z" } : Jvm.MethodName)) ∈ ab_T := ab_w1 89 rfl rfl
theorem wd_1_90 : (Jvm.Cond.instanceMethod ({ cls := "RiddlePress", name := "isClean", desc := "()Z" } : Jvm.MethodName)) ∈ ab_T := ab_w1 90 rfl rfl
theorem wd_1_91 : (Jvm.Cond.selects "RiddlePress" ({ cls := "RiddlePress", name := "isClean", desc := "()Z" } : Jvm.MethodName) ({ cls := "RiddlePress", name := "isClean", desc := "()Z" } : Jvm.MethodName)) ∈ ab_T := ab_w1 91 rfl rfl
theorem wd_1_92 : (Jvm.Cond.code ({ cls := "RiddlePress", name := "isClean", desc := "()Z" } : Jvm.MethodName) prog_1_method_29_code (2 : Nat) (Option.some Jvm.ClassFile.FieldType.boolean)) ∈ ab_T := ab_w1 92 rfl rfl
theorem wd_1_187 : (Jvm.Cond.methodLink "RiddlePressLaw" (119 : Nat) ({ cls := "RiddlePressLaw", name := "riddle", desc := "(LRiddlePress;I[J)I" } : Jvm.MethodName)) ∈ ab_T := ab_w1 187 rfl rfl
theorem wd_1_188 : (Jvm.Cond.static ({ cls := "RiddlePressLaw", name := "riddle", desc := "(LRiddlePress;I[J)I" } : Jvm.MethodName)) ∈ ab_T := ab_w1 188 rfl rfl
theorem wd_1_189 : (Jvm.Cond.codeWith ({ cls := "RiddlePressLaw", name := "riddle", desc := "(LRiddlePress;I[J)I" } : Jvm.MethodName) method_3_code (4 : Nat) (Option.some Jvm.ClassFile.FieldType.int) [((0 : Nat), (9 : Nat), (12 : Nat), (13 : Nat)), ((0 : Nat), (9 : Nat), (15 : Nat), (15 : Nat))]) ∈ ab_T := ab_w1 189 rfl rfl
theorem wd_1_190 : (Jvm.Cond.classLink "RiddlePressLaw" (13 : Nat) "java/lang/IllegalArgumentException") ∈ ab_T := ab_w1 190 rfl rfl
theorem wd_1_191 : (Jvm.Cond.classLink "RiddlePressLaw" (15 : Nat) "java/lang/IllegalStateException") ∈ ab_T := ab_w1 191 rfl rfl
theorem wd_1_192 : (Jvm.Cond.methodLink "RiddlePressLaw" (7 : Nat) ({ cls := "RiddlePress", name := "riddle", desc := "(I)I" } : Jvm.MethodName)) ∈ ab_T := ab_w1 192 rfl rfl
theorem wd_1_193 : (Jvm.Cond.instanceMethod ({ cls := "RiddlePress", name := "riddle", desc := "(I)I" } : Jvm.MethodName)) ∈ ab_T := ab_w1 193 rfl rfl
theorem wd_1_194 : (Jvm.Cond.selects "RiddlePress" ({ cls := "RiddlePress", name := "riddle", desc := "(I)I" } : Jvm.MethodName) ({ cls := "RiddlePress", name := "riddle", desc := "(I)I" } : Jvm.MethodName)) ∈ ab_T := ab_w1 194 rfl rfl
theorem wd_1_195 : (Jvm.Cond.code ({ cls := "RiddlePress", name := "riddle", desc := "(I)I" } : Jvm.MethodName) prog_1_method_2_code (2 : Nat) (Option.some Jvm.ClassFile.FieldType.int)) ∈ ab_T := ab_w1 195 rfl rfl
theorem wd_2_188 : (Jvm.Cond.methodLink "RiddlePressLaw" (128 : Nat) ({ cls := "RiddlePressLaw", name := "clue", desc := "(LRiddlePress;ICIII[J)I" } : Jvm.MethodName)) ∈ ab_T := ab_w2 188 rfl rfl
theorem wd_2_189 : (Jvm.Cond.static ({ cls := "RiddlePressLaw", name := "clue", desc := "(LRiddlePress;ICIII[J)I" } : Jvm.MethodName)) ∈ ab_T := ab_w2 189 rfl rfl
theorem wd_2_190 : (Jvm.Cond.codeWith ({ cls := "RiddlePressLaw", name := "clue", desc := "(LRiddlePress;ICIII[J)I" } : Jvm.MethodName) method_4_code (8 : Nat) (Option.some Jvm.ClassFile.FieldType.int) [((0 : Nat), (16 : Nat), (19 : Nat), (21 : Nat)), ((0 : Nat), (16 : Nat), (23 : Nat), (13 : Nat)), ((0 : Nat), (16 : Nat), (27 : Nat), (23 : Nat)), ((0 : Nat), (16 : Nat), (31 : Nat), (15 : Nat))]) ∈ ab_T := ab_w2 190 rfl rfl
theorem wd_2_191 : (Jvm.Cond.classLink "RiddlePressLaw" (21 : Nat) "java/lang/IndexOutOfBoundsException") ∈ ab_T := ab_w2 191 rfl rfl
theorem wd_2_215 : (Jvm.Cond.classLink "RiddlePressLaw" (23 : Nat) "java/lang/UnsupportedOperationException") ∈ ab_T := ab_w2 215 rfl rfl
theorem wd_2_216 : (Jvm.Cond.methodLink "RiddlePressLaw" (17 : Nat) ({ cls := "RiddlePress", name := "clue", desc := "(ICIII)I" } : Jvm.MethodName)) ∈ ab_T := ab_w2 216 rfl rfl
theorem wd_2_217 : (Jvm.Cond.instanceMethod ({ cls := "RiddlePress", name := "clue", desc := "(ICIII)I" } : Jvm.MethodName)) ∈ ab_T := ab_w2 217 rfl rfl
theorem wd_2_218 : (Jvm.Cond.selects "RiddlePress" ({ cls := "RiddlePress", name := "clue", desc := "(ICIII)I" } : Jvm.MethodName) ({ cls := "RiddlePress", name := "clue", desc := "(ICIII)I" } : Jvm.MethodName)) ∈ ab_T := ab_w2 218 rfl rfl
theorem wd_2_219 : (Jvm.Cond.code ({ cls := "RiddlePress", name := "clue", desc := "(ICIII)I" } : Jvm.MethodName) prog_1_method_3_code (8 : Nat) (Option.some Jvm.ClassFile.FieldType.int)) ∈ ab_T := ab_w2 219 rfl rfl
theorem wd_3_138 : (Jvm.Cond.methodLink "RiddlePressLaw" (132 : Nat) ({ cls := "RiddlePressLaw", name := "answers", desc := "(LRiddlePress;I[J)I" } : Jvm.MethodName)) ∈ ab_T := ab_w3 138 rfl rfl
theorem wd_3_139 : (Jvm.Cond.static ({ cls := "RiddlePressLaw", name := "answers", desc := "(LRiddlePress;I[J)I" } : Jvm.MethodName)) ∈ ab_T := ab_w3 139 rfl rfl
theorem wd_3_140 : (Jvm.Cond.codeWith ({ cls := "RiddlePressLaw", name := "answers", desc := "(LRiddlePress;I[J)I" } : Jvm.MethodName) method_5_code (4 : Nat) (Option.some Jvm.ClassFile.FieldType.int) [((0 : Nat), (9 : Nat), (12 : Nat), (21 : Nat))]) ∈ ab_T := ab_w3 140 rfl rfl
theorem wd_3_141 : (Jvm.Cond.methodLink "RiddlePressLaw" (25 : Nat) ({ cls := "RiddlePress", name := "answers", desc := "(I)I" } : Jvm.MethodName)) ∈ ab_T := ab_w3 141 rfl rfl
theorem wd_3_142 : (Jvm.Cond.instanceMethod ({ cls := "RiddlePress", name := "answers", desc := "(I)I" } : Jvm.MethodName)) ∈ ab_T := ab_w3 142 rfl rfl
theorem wd_3_143 : (Jvm.Cond.selects "RiddlePress" ({ cls := "RiddlePress", name := "answers", desc := "(I)I" } : Jvm.MethodName) ({ cls := "RiddlePress", name := "answers", desc := "(I)I" } : Jvm.MethodName)) ∈ ab_T := ab_w3 143 rfl rfl
theorem wd_3_144 : (Jvm.Cond.code ({ cls := "RiddlePress", name := "answers", desc := "(I)I" } : Jvm.MethodName) prog_1_method_4_code (3 : Nat) (Option.some Jvm.ClassFile.FieldType.int)) ∈ ab_T := ab_w3 144 rfl rfl
theorem wd_3_145 : (Jvm.Cond.methodLink "RiddlePressLaw" (135 : Nat) ({ cls := "RiddlePressLaw", name := "answer", desc := "(LRiddlePress;II[J)I" } : Jvm.MethodName)) ∈ ab_T := ab_w3 145 rfl rfl
theorem wd_3_146 : (Jvm.Cond.static ({ cls := "RiddlePressLaw", name := "answer", desc := "(LRiddlePress;II[J)I" } : Jvm.MethodName)) ∈ ab_T := ab_w3 146 rfl rfl
theorem wd_3_147 : (Jvm.Cond.codeWith ({ cls := "RiddlePressLaw", name := "answer", desc := "(LRiddlePress;II[J)I" } : Jvm.MethodName) method_6_code (5 : Nat) (Option.some Jvm.ClassFile.FieldType.int) [((0 : Nat), (10 : Nat), (13 : Nat), (21 : Nat)), ((0 : Nat), (10 : Nat), (17 : Nat), (32 : Nat))]) ∈ ab_T := ab_w3 147 rfl rfl
theorem wd_3_148 : (Jvm.Cond.classLink "RiddlePressLaw" (32 : Nat) "java/util/NoSuchElementException") ∈ ab_T := ab_w3 148 rfl rfl
theorem wd_3_149 : (Jvm.Cond.methodLink "RiddlePressLaw" (28 : Nat) ({ cls := "RiddlePress", name := "answer", desc := "(II)I" } : Jvm.MethodName)) ∈ ab_T := ab_w3 149 rfl rfl
theorem wd_3_150 : (Jvm.Cond.instanceMethod ({ cls := "RiddlePress", name := "answer", desc := "(II)I" } : Jvm.MethodName)) ∈ ab_T := ab_w3 150 rfl rfl
theorem wd_3_151 : (Jvm.Cond.selects "RiddlePress" ({ cls := "RiddlePress", name := "answer", desc := "(II)I" } : Jvm.MethodName) ({ cls := "RiddlePress", name := "answer", desc := "(II)I" } : Jvm.MethodName)) ∈ ab_T := ab_w3 151 rfl rfl
theorem wd_3_152 : (Jvm.Cond.code ({ cls := "RiddlePress", name := "answer", desc := "(II)I" } : Jvm.MethodName) prog_1_method_5_code (4 : Nat) (Option.some Jvm.ClassFile.FieldType.int)) ∈ ab_T := ab_w3 152 rfl rfl
theorem wd_3_170 : (Jvm.Cond.methodLink "RiddlePressLaw" (139 : Nat) ({ cls := "RiddlePressLaw", name := "prove", desc := "(LRiddlePress;I[J)I" } : Jvm.MethodName)) ∈ ab_T := ab_w3 170 rfl rfl
theorem wd_3_171 : (Jvm.Cond.static ({ cls := "RiddlePressLaw", name := "prove", desc := "(LRiddlePress;I[J)I" } : Jvm.MethodName)) ∈ ab_T := ab_w3 171 rfl rfl
theorem wd_3_172 : (Jvm.Cond.codeWith ({ cls := "RiddlePressLaw", name := "prove", desc := "(LRiddlePress;I[J)I" } : Jvm.MethodName) method_7_code (4 : Nat) (Option.some Jvm.ClassFile.FieldType.int) [((0 : Nat), (9 : Nat), (12 : Nat), (21 : Nat)), ((0 : Nat), (9 : Nat), (15 : Nat), (23 : Nat))]) ∈ ab_T := ab_w3 172 rfl rfl
theorem wd_3_173 : (Jvm.Cond.methodLink "RiddlePressLaw" (34 : Nat) ({ cls := "RiddlePress", name := "prove", desc := "(I)C" } : Jvm.MethodName)) ∈ ab_T := ab_w3 173 rfl rfl
theorem wd_3_174 : (Jvm.Cond.instanceMethod ({ cls := "RiddlePress", name := "prove", desc := "(I)C" } : Jvm.MethodName)) ∈ ab_T := ab_w3 174 rfl rfl
theorem wd_3_175 : (Jvm.Cond.selects "RiddlePress" ({ cls := "RiddlePress", name := "prove", desc := "(I)C" } : Jvm.MethodName) ({ cls := "RiddlePress", name := "prove", desc := "(I)C" } : Jvm.MethodName)) ∈ ab_T := ab_w3 175 rfl rfl
theorem wd_3_176 : (Jvm.Cond.code ({ cls := "RiddlePress", name := "prove", desc := "(I)C" } : Jvm.MethodName) prog_1_method_6_code (3 : Nat) (Option.some Jvm.ClassFile.FieldType.char)) ∈ ab_T := ab_w3 176 rfl rfl
theorem wd_4_62 : (Jvm.Cond.methodLink "RiddlePressLaw" (142 : Nat) ({ cls := "RiddlePressLaw", name := "steps", desc := "(LRiddlePress;I[J)I" } : Jvm.MethodName)) ∈ ab_T := ab_w4 62 rfl rfl
theorem wd_4_63 : (Jvm.Cond.static ({ cls := "RiddlePressLaw", name := "steps", desc := "(LRiddlePress;I[J)I" } : Jvm.MethodName)) ∈ ab_T := ab_w4 63 rfl rfl
theorem wd_4_64 : (Jvm.Cond.codeWith ({ cls := "RiddlePressLaw", name := "steps", desc := "(LRiddlePress;I[J)I" } : Jvm.MethodName) method_8_code (4 : Nat) (Option.some Jvm.ClassFile.FieldType.int) [((0 : Nat), (9 : Nat), (12 : Nat), (21 : Nat)), ((0 : Nat), (9 : Nat), (15 : Nat), (32 : Nat))]) ∈ ab_T := ab_w4 64 rfl rfl
theorem wd_4_65 : (Jvm.Cond.methodLink "RiddlePressLaw" (38 : Nat) ({ cls := "RiddlePress", name := "steps", desc := "(I)I" } : Jvm.MethodName)) ∈ ab_T := ab_w4 65 rfl rfl
theorem wd_4_66 : (Jvm.Cond.instanceMethod ({ cls := "RiddlePress", name := "steps", desc := "(I)I" } : Jvm.MethodName)) ∈ ab_T := ab_w4 66 rfl rfl
theorem wd_4_67 : (Jvm.Cond.selects "RiddlePress" ({ cls := "RiddlePress", name := "steps", desc := "(I)I" } : Jvm.MethodName) ({ cls := "RiddlePress", name := "steps", desc := "(I)I" } : Jvm.MethodName)) ∈ ab_T := ab_w4 67 rfl rfl
theorem wd_4_68 : (Jvm.Cond.code ({ cls := "RiddlePress", name := "steps", desc := "(I)I" } : Jvm.MethodName) prog_1_method_7_code (3 : Nat) (Option.some Jvm.ClassFile.FieldType.int)) ∈ ab_T := ab_w4 68 rfl rfl
theorem wd_4_70 : (Jvm.Cond.methodLink "RiddlePressLaw" (145 : Nat) ({ cls := "RiddlePressLaw", name := "ruleAt", desc := "(LRiddlePress;II[J)I" } : Jvm.MethodName)) ∈ ab_T := ab_w4 70 rfl rfl
theorem wd_4_71 : (Jvm.Cond.static ({ cls := "RiddlePressLaw", name := "ruleAt", desc := "(LRiddlePress;II[J)I" } : Jvm.MethodName)) ∈ ab_T := ab_w4 71 rfl rfl
theorem wd_4_72 : (Jvm.Cond.codeWith ({ cls := "RiddlePressLaw", name := "ruleAt", desc := "(LRiddlePress;II[J)I" } : Jvm.MethodName) method_9_code (5 : Nat) (Option.some Jvm.ClassFile.FieldType.int) [((0 : Nat), (10 : Nat), (13 : Nat), (21 : Nat)), ((0 : Nat), (10 : Nat), (17 : Nat), (32 : Nat))]) ∈ ab_T := ab_w4 72 rfl rfl
theorem wd_4_73 : (Jvm.Cond.methodLink "RiddlePressLaw" (41 : Nat) ({ cls := "RiddlePress", name := "ruleAt", desc := "(II)I" } : Jvm.MethodName)) ∈ ab_T := ab_w4 73 rfl rfl
theorem wd_4_74 : (Jvm.Cond.instanceMethod ({ cls := "RiddlePress", name := "ruleAt", desc := "(II)I" } : Jvm.MethodName)) ∈ ab_T := ab_w4 74 rfl rfl
theorem wd_4_75 : (Jvm.Cond.selects "RiddlePress" ({ cls := "RiddlePress", name := "ruleAt", desc := "(II)I" } : Jvm.MethodName) ({ cls := "RiddlePress", name := "ruleAt", desc := "(II)I" } : Jvm.MethodName)) ∈ ab_T := ab_w4 75 rfl rfl
theorem wd_4_76 : (Jvm.Cond.code ({ cls := "RiddlePress", name := "ruleAt", desc := "(II)I" } : Jvm.MethodName) prog_1_method_8_code (4 : Nat) (Option.some Jvm.ClassFile.FieldType.int)) ∈ ab_T := ab_w4 76 rfl rfl
theorem wd_4_82 : (Jvm.Cond.methodLink "RiddlePressLaw" (148 : Nat) ({ cls := "RiddlePressLaw", name := "causeAt", desc := "(LRiddlePress;II[J)I" } : Jvm.MethodName)) ∈ ab_T := ab_w4 82 rfl rfl
theorem wd_4_83 : (Jvm.Cond.static ({ cls := "RiddlePressLaw", name := "causeAt", desc := "(LRiddlePress;II[J)I" } : Jvm.MethodName)) ∈ ab_T := ab_w4 83 rfl rfl
theorem wd_4_84 : (Jvm.Cond.codeWith ({ cls := "RiddlePressLaw", name := "causeAt", desc := "(LRiddlePress;II[J)I" } : Jvm.MethodName) method_10_code (5 : Nat) (Option.some Jvm.ClassFile.FieldType.int) [((0 : Nat), (10 : Nat), (13 : Nat), (21 : Nat)), ((0 : Nat), (10 : Nat), (17 : Nat), (32 : Nat))]) ∈ ab_T := ab_w4 84 rfl rfl
theorem wd_4_85 : (Jvm.Cond.methodLink "RiddlePressLaw" (44 : Nat) ({ cls := "RiddlePress", name := "causeAt", desc := "(II)I" } : Jvm.MethodName)) ∈ ab_T := ab_w4 85 rfl rfl
theorem wd_4_86 : (Jvm.Cond.instanceMethod ({ cls := "RiddlePress", name := "causeAt", desc := "(II)I" } : Jvm.MethodName)) ∈ ab_T := ab_w4 86 rfl rfl
theorem wd_4_87 : (Jvm.Cond.selects "RiddlePress" ({ cls := "RiddlePress", name := "causeAt", desc := "(II)I" } : Jvm.MethodName) ({ cls := "RiddlePress", name := "causeAt", desc := "(II)I" } : Jvm.MethodName)) ∈ ab_T := ab_w4 87 rfl rfl
theorem wd_4_88 : (Jvm.Cond.code ({ cls := "RiddlePress", name := "causeAt", desc := "(II)I" } : Jvm.MethodName) prog_1_method_9_code (4 : Nat) (Option.some Jvm.ClassFile.FieldType.int)) ∈ ab_T := ab_w4 88 rfl rfl
theorem wd_4_89 : (Jvm.Cond.methodLink "RiddlePressLaw" (151 : Nat) ({ cls := "RiddlePressLaw", name := "takenAt", desc := "(LRiddlePress;II[J)I" } : Jvm.MethodName)) ∈ ab_T := ab_w4 89 rfl rfl
theorem wd_4_90 : (Jvm.Cond.static ({ cls := "RiddlePressLaw", name := "takenAt", desc := "(LRiddlePress;II[J)I" } : Jvm.MethodName)) ∈ ab_T := ab_w4 90 rfl rfl
theorem wd_4_91 : (Jvm.Cond.codeWith ({ cls := "RiddlePressLaw", name := "takenAt", desc := "(LRiddlePress;II[J)I" } : Jvm.MethodName) method_11_code (5 : Nat) (Option.some Jvm.ClassFile.FieldType.int) [((0 : Nat), (10 : Nat), (13 : Nat), (21 : Nat)), ((0 : Nat), (10 : Nat), (17 : Nat), (32 : Nat))]) ∈ ab_T := ab_w4 91 rfl rfl
theorem wd_4_92 : (Jvm.Cond.methodLink "RiddlePressLaw" (47 : Nat) ({ cls := "RiddlePress", name := "takenAt", desc := "(II)I" } : Jvm.MethodName)) ∈ ab_T := ab_w4 92 rfl rfl
theorem wd_4_93 : (Jvm.Cond.instanceMethod ({ cls := "RiddlePress", name := "takenAt", desc := "(II)I" } : Jvm.MethodName)) ∈ ab_T := ab_w4 93 rfl rfl
theorem wd_4_94 : (Jvm.Cond.selects "RiddlePress" ({ cls := "RiddlePress", name := "takenAt", desc := "(II)I" } : Jvm.MethodName) ({ cls := "RiddlePress", name := "takenAt", desc := "(II)I" } : Jvm.MethodName)) ∈ ab_T := ab_w4 94 rfl rfl
theorem wd_4_95 : (Jvm.Cond.code ({ cls := "RiddlePress", name := "takenAt", desc := "(II)I" } : Jvm.MethodName) prog_1_method_10_code (4 : Nat) (Option.some Jvm.ClassFile.FieldType.int)) ∈ ab_T := ab_w4 95 rfl rfl
theorem wd_4_96 : (Jvm.Cond.methodLink "RiddlePressLaw" (154 : Nat) ({ cls := "RiddlePressLaw", name := "leansOn", desc := "(LRiddlePress;II[J)I" } : Jvm.MethodName)) ∈ ab_T := ab_w4 96 rfl rfl
theorem wd_4_97 : (Jvm.Cond.static ({ cls := "RiddlePressLaw", name := "leansOn", desc := "(LRiddlePress;II[J)I" } : Jvm.MethodName)) ∈ ab_T := ab_w4 97 rfl rfl
theorem wd_4_98 : (Jvm.Cond.codeWith ({ cls := "RiddlePressLaw", name := "leansOn", desc := "(LRiddlePress;II[J)I" } : Jvm.MethodName) method_12_code (5 : Nat) (Option.some Jvm.ClassFile.FieldType.int) [((0 : Nat), (17 : Nat), (20 : Nat), (21 : Nat))]) ∈ ab_T := ab_w4 98 rfl rfl
theorem wd_4_99 : (Jvm.Cond.methodLink "RiddlePressLaw" (50 : Nat) ({ cls := "RiddlePress", name := "leansOn", desc := "(II)Z" } : Jvm.MethodName)) ∈ ab_T := ab_w4 99 rfl rfl
theorem wd_4_100 : (Jvm.Cond.instanceMethod ({ cls := "RiddlePress", name := "leansOn", desc := "(II)Z" } : Jvm.MethodName)) ∈ ab_T := ab_w4 100 rfl rfl
theorem wd_4_101 : (Jvm.Cond.selects "RiddlePress" ({ cls := "RiddlePress", name := "leansOn", desc := "(II)Z" } : Jvm.MethodName) ({ cls := "RiddlePress", name := "leansOn", desc := "(II)Z" } : Jvm.MethodName)) ∈ ab_T := ab_w4 101 rfl rfl
theorem wd_4_102 : (Jvm.Cond.code ({ cls := "RiddlePress", name := "leansOn", desc := "(II)Z" } : Jvm.MethodName) prog_1_method_11_code (4 : Nat) (Option.some Jvm.ClassFile.FieldType.boolean)) ∈ ab_T := ab_w4 102 rfl rfl
theorem wd_4_108 : (Jvm.Cond.methodLink "RiddlePressLaw" (157 : Nat) ({ cls := "RiddlePressLaw", name := "state", desc := "(LRiddlePress;I[J)I" } : Jvm.MethodName)) ∈ ab_T := ab_w4 108 rfl rfl
theorem wd_4_109 : (Jvm.Cond.static ({ cls := "RiddlePressLaw", name := "state", desc := "(LRiddlePress;I[J)I" } : Jvm.MethodName)) ∈ ab_T := ab_w4 109 rfl rfl
theorem wd_4_110 : (Jvm.Cond.codeWith ({ cls := "RiddlePressLaw", name := "state", desc := "(LRiddlePress;I[J)I" } : Jvm.MethodName) method_13_code (4 : Nat) (Option.some Jvm.ClassFile.FieldType.int) [((0 : Nat), (9 : Nat), (12 : Nat), (21 : Nat))]) ∈ ab_T := ab_w4 110 rfl rfl
theorem wd_4_111 : (Jvm.Cond.methodLink "RiddlePressLaw" (54 : Nat) ({ cls := "RiddlePress", name := "state", desc := "(I)C" } : Jvm.MethodName)) ∈ ab_T := ab_w4 111 rfl rfl
theorem wd_4_112 : (Jvm.Cond.instanceMethod ({ cls := "RiddlePress", name := "state", desc := "(I)C" } : Jvm.MethodName)) ∈ ab_T := ab_w4 112 rfl rfl
theorem wd_4_113 : (Jvm.Cond.selects "RiddlePress" ({ cls := "RiddlePress", name := "state", desc := "(I)C" } : Jvm.MethodName) ({ cls := "RiddlePress", name := "state", desc := "(I)C" } : Jvm.MethodName)) ∈ ab_T := ab_w4 113 rfl rfl
theorem wd_4_114 : (Jvm.Cond.code ({ cls := "RiddlePress", name := "state", desc := "(I)C" } : Jvm.MethodName) prog_1_method_12_code (2 : Nat) (Option.some Jvm.ClassFile.FieldType.char)) ∈ ab_T := ab_w4 114 rfl rfl
theorem wd_4_115 : (Jvm.Cond.methodLink "RiddlePressLaw" (160 : Nat) ({ cls := "RiddlePressLaw", name := "rule", desc := "(LRiddlePress;CCZI[J)I" } : Jvm.MethodName)) ∈ ab_T := ab_w4 115 rfl rfl
theorem wd_4_116 : (Jvm.Cond.static ({ cls := "RiddlePressLaw", name := "rule", desc := "(LRiddlePress;CCZI[J)I" } : Jvm.MethodName)) ∈ ab_T := ab_w4 116 rfl rfl
theorem wd_4_117 : (Jvm.Cond.codeWith ({ cls := "RiddlePressLaw", name := "rule", desc := "(LRiddlePress;CCZI[J)I" } : Jvm.MethodName) method_14_code (7 : Nat) (Option.some Jvm.ClassFile.FieldType.int) [((0 : Nat), (14 : Nat), (17 : Nat), (13 : Nat)), ((0 : Nat), (14 : Nat), (21 : Nat), (15 : Nat))]) ∈ ab_T := ab_w4 117 rfl rfl
theorem wd_4_118 : (Jvm.Cond.methodLink "RiddlePressLaw" (57 : Nat) ({ cls := "RiddlePress", name := "rule", desc := "(CCZI)I" } : Jvm.MethodName)) ∈ ab_T := ab_w4 118 rfl rfl
theorem wd_4_119 : (Jvm.Cond.instanceMethod ({ cls := "RiddlePress", name := "rule", desc := "(CCZI)I" } : Jvm.MethodName)) ∈ ab_T := ab_w4 119 rfl rfl
theorem wd_4_120 : (Jvm.Cond.selects "RiddlePress" ({ cls := "RiddlePress", name := "rule", desc := "(CCZI)I" } : Jvm.MethodName) ({ cls := "RiddlePress", name := "rule", desc := "(CCZI)I" } : Jvm.MethodName)) ∈ ab_T := ab_w4 120 rfl rfl
theorem wd_4_121 : (Jvm.Cond.code ({ cls := "RiddlePress", name := "rule", desc := "(CCZI)I" } : Jvm.MethodName) prog_1_method_13_code (6 : Nat) (Option.some Jvm.ClassFile.FieldType.int)) ∈ ab_T := ab_w4 121 rfl rfl
theorem wd_4_178 : (Jvm.Cond.methodLink "RiddlePressLaw" (164 : Nat) ({ cls := "RiddlePressLaw", name := "stands", desc := "(LRiddlePress;I[J)I" } : Jvm.MethodName)) ∈ ab_T := ab_w4 178 rfl rfl
theorem wd_4_179 : (Jvm.Cond.static ({ cls := "RiddlePressLaw", name := "stands", desc := "(LRiddlePress;I[J)I" } : Jvm.MethodName)) ∈ ab_T := ab_w4 179 rfl rfl
theorem wd_4_180 : (Jvm.Cond.codeWith ({ cls := "RiddlePressLaw", name := "stands", desc := "(LRiddlePress;I[J)I" } : Jvm.MethodName) method_15_code (4 : Nat) (Option.some Jvm.ClassFile.FieldType.int) [((0 : Nat), (16 : Nat), (19 : Nat), (21 : Nat))]) ∈ ab_T := ab_w4 180 rfl rfl
theorem wd_4_181 : (Jvm.Cond.methodLink "RiddlePressLaw" (61 : Nat) ({ cls := "RiddlePress", name := "stands", desc := "(I)Z" } : Jvm.MethodName)) ∈ ab_T := ab_w4 181 rfl rfl
theorem wd_4_182 : (Jvm.Cond.instanceMethod ({ cls := "RiddlePress", name := "stands", desc := "(I)Z" } : Jvm.MethodName)) ∈ ab_T := ab_w4 182 rfl rfl
theorem wd_4_183 : (Jvm.Cond.selects "RiddlePress" ({ cls := "RiddlePress", name := "stands", desc := "(I)Z" } : Jvm.MethodName) ({ cls := "RiddlePress", name := "stands", desc := "(I)Z" } : Jvm.MethodName)) ∈ ab_T := ab_w4 183 rfl rfl
theorem wd_4_184 : (Jvm.Cond.code ({ cls := "RiddlePress", name := "stands", desc := "(I)Z" } : Jvm.MethodName) prog_1_method_14_code (2 : Nat) (Option.some Jvm.ClassFile.FieldType.boolean)) ∈ ab_T := ab_w4 184 rfl rfl
theorem wd_4_190 : (Jvm.Cond.methodLink "RiddlePressLaw" (167 : Nat) ({ cls := "RiddlePressLaw", name := "counterexample", desc := "(LRiddlePress;I[J)I" } : Jvm.MethodName)) ∈ ab_T := ab_w4 190 rfl rfl
theorem wd_4_191 : (Jvm.Cond.static ({ cls := "RiddlePressLaw", name := "counterexample", desc := "(LRiddlePress;I[J)I" } : Jvm.MethodName)) ∈ ab_T := ab_w4 191 rfl rfl
theorem wd_4_192 : (Jvm.Cond.codeWith ({ cls := "RiddlePressLaw", name := "counterexample", desc := "(LRiddlePress;I[J)I" } : Jvm.MethodName) method_16_code (4 : Nat) (Option.some Jvm.ClassFile.FieldType.int) [((0 : Nat), (9 : Nat), (12 : Nat), (21 : Nat)), ((0 : Nat), (9 : Nat), (15 : Nat), (32 : Nat))]) ∈ ab_T := ab_w4 192 rfl rfl
theorem wd_4_193 : (Jvm.Cond.methodLink "RiddlePressLaw" (65 : Nat) ({ cls := "RiddlePress", name := "counterexample", desc := "(I)I" } : Jvm.MethodName)) ∈ ab_T := ab_w4 193 rfl rfl
theorem wd_4_194 : (Jvm.Cond.instanceMethod ({ cls := "RiddlePress", name := "counterexample", desc := "(I)I" } : Jvm.MethodName)) ∈ ab_T := ab_w4 194 rfl rfl
theorem wd_4_195 : (Jvm.Cond.selects "RiddlePress" ({ cls := "RiddlePress", name := "counterexample", desc := "(I)I" } : Jvm.MethodName) ({ cls := "RiddlePress", name := "counterexample", desc := "(I)I" } : Jvm.MethodName)) ∈ ab_T := ab_w4 195 rfl rfl
theorem wd_4_196 : (Jvm.Cond.code ({ cls := "RiddlePress", name := "counterexample", desc := "(I)I" } : Jvm.MethodName) prog_1_method_15_code (3 : Nat) (Option.some Jvm.ClassFile.FieldType.int)) ∈ ab_T := ab_w4 196 rfl rfl
theorem wd_4_198 : (Jvm.Cond.methodLink "RiddlePressLaw" (170 : Nat) ({ cls := "RiddlePressLaw", name := "fall", desc := "(LRiddlePress;I[J)I" } : Jvm.MethodName)) ∈ ab_T := ab_w4 198 rfl rfl
theorem wd_4_199 : (Jvm.Cond.static ({ cls := "RiddlePressLaw", name := "fall", desc := "(LRiddlePress;I[J)I" } : Jvm.MethodName)) ∈ ab_T := ab_w4 199 rfl rfl
theorem wd_4_200 : (Jvm.Cond.codeWith ({ cls := "RiddlePressLaw", name := "fall", desc := "(LRiddlePress;I[J)I" } : Jvm.MethodName) method_17_code (4 : Nat) (Option.some Jvm.ClassFile.FieldType.int) [((0 : Nat), (9 : Nat), (12 : Nat), (21 : Nat)), ((0 : Nat), (9 : Nat), (15 : Nat), (23 : Nat))]) ∈ ab_T := ab_w4 200 rfl rfl
theorem wd_4_201 : (Jvm.Cond.methodLink "RiddlePressLaw" (68 : Nat) ({ cls := "RiddlePress", name := "fall", desc := "(I)I" } : Jvm.MethodName)) ∈ ab_T := ab_w4 201 rfl rfl
theorem wd_4_202 : (Jvm.Cond.instanceMethod ({ cls := "RiddlePress", name := "fall", desc := "(I)I" } : Jvm.MethodName)) ∈ ab_T := ab_w4 202 rfl rfl
theorem wd_4_203 : (Jvm.Cond.selects "RiddlePress" ({ cls := "RiddlePress", name := "fall", desc := "(I)I" } : Jvm.MethodName) ({ cls := "RiddlePress", name := "fall", desc := "(I)I" } : Jvm.MethodName)) ∈ ab_T := ab_w4 203 rfl rfl
theorem wd_4_204 : (Jvm.Cond.code ({ cls := "RiddlePress", name := "fall", desc := "(I)I" } : Jvm.MethodName) prog_1_method_16_code (5 : Nat) (Option.some Jvm.ClassFile.FieldType.int)) ∈ ab_T := ab_w4 204 rfl rfl
theorem wd_4_231 : (Jvm.Cond.methodLink "RiddlePressLaw" (173 : Nat) ({ cls := "RiddlePressLaw", name := "issue", desc := "(LRiddlePress;[J)I" } : Jvm.MethodName)) ∈ ab_T := ab_w4 231 rfl rfl
theorem wd_4_232 : (Jvm.Cond.static ({ cls := "RiddlePressLaw", name := "issue", desc := "(LRiddlePress;[J)I" } : Jvm.MethodName)) ∈ ab_T := ab_w4 232 rfl rfl
theorem wd_4_233 : (Jvm.Cond.codeWith ({ cls := "RiddlePressLaw", name := "issue", desc := "(LRiddlePress;[J)I" } : Jvm.MethodName) method_18_code (3 : Nat) (Option.some Jvm.ClassFile.FieldType.int) [((0 : Nat), (8 : Nat), (11 : Nat), (15 : Nat))]) ∈ ab_T := ab_w4 233 rfl rfl
theorem wd_4_234 : (Jvm.Cond.methodLink "RiddlePressLaw" (71 : Nat) ({ cls := "RiddlePress", name := "issue", desc := "()I" } : Jvm.MethodName)) ∈ ab_T := ab_w4 234 rfl rfl
theorem wd_4_235 : (Jvm.Cond.instanceMethod ({ cls := "RiddlePress", name := "issue", desc := "()I" } : Jvm.MethodName)) ∈ ab_T := ab_w4 235 rfl rfl
theorem wd_4_236 : (Jvm.Cond.selects "RiddlePress" ({ cls := "RiddlePress", name := "issue", desc := "()I" } : Jvm.MethodName) ({ cls := "RiddlePress", name := "issue", desc := "()I" } : Jvm.MethodName)) ∈ ab_T := ab_w4 236 rfl rfl
theorem wd_4_237 : (Jvm.Cond.code ({ cls := "RiddlePress", name := "issue", desc := "()I" } : Jvm.MethodName) prog_1_method_17_code (1 : Nat) (Option.some Jvm.ClassFile.FieldType.int)) ∈ ab_T := ab_w4 237 rfl rfl
theorem wd_5_13 : (Jvm.Cond.methodLink "RiddlePressLaw" (177 : Nat) ({ cls := "RiddlePressLaw", name := "put", desc := "(LRiddlePress;II[J)I" } : Jvm.MethodName)) ∈ ab_T := ab_w5 13 rfl rfl
theorem wd_5_14 : (Jvm.Cond.static ({ cls := "RiddlePressLaw", name := "put", desc := "(LRiddlePress;II[J)I" } : Jvm.MethodName)) ∈ ab_T := ab_w5 14 rfl rfl
theorem wd_5_15 : (Jvm.Cond.codeWith ({ cls := "RiddlePressLaw", name := "put", desc := "(LRiddlePress;II[J)I" } : Jvm.MethodName) method_19_code (5 : Nat) (Option.some Jvm.ClassFile.FieldType.int) [((0 : Nat), (10 : Nat), (13 : Nat), (21 : Nat)), ((0 : Nat), (10 : Nat), (17 : Nat), (23 : Nat)), ((0 : Nat), (10 : Nat), (21 : Nat), (15 : Nat))]) ∈ ab_T := ab_w5 15 rfl rfl
theorem wd_5_16 : (Jvm.Cond.methodLink "RiddlePressLaw" (75 : Nat) ({ cls := "RiddlePress", name := "put", desc := "(II)I" } : Jvm.MethodName)) ∈ ab_T := ab_w5 16 rfl rfl
theorem wd_5_17 : (Jvm.Cond.instanceMethod ({ cls := "RiddlePress", name := "put", desc := "(II)I" } : Jvm.MethodName)) ∈ ab_T := ab_w5 17 rfl rfl
theorem wd_5_18 : (Jvm.Cond.selects "RiddlePress" ({ cls := "RiddlePress", name := "put", desc := "(II)I" } : Jvm.MethodName) ({ cls := "RiddlePress", name := "put", desc := "(II)I" } : Jvm.MethodName)) ∈ ab_T := ab_w5 18 rfl rfl
theorem wd_5_19 : (Jvm.Cond.code ({ cls := "RiddlePress", name := "put", desc := "(II)I" } : Jvm.MethodName) prog_1_method_18_code (6 : Nat) (Option.some Jvm.ClassFile.FieldType.int)) ∈ ab_T := ab_w5 19 rfl rfl
theorem wd_5_34 : (Jvm.Cond.methodLink "RiddlePressLaw" (180 : Nat) ({ cls := "RiddlePressLaw", name := "publish", desc := "(LRiddlePress;II[J)I" } : Jvm.MethodName)) ∈ ab_T := ab_w5 34 rfl rfl
theorem wd_5_35 : (Jvm.Cond.static ({ cls := "RiddlePressLaw", name := "publish", desc := "(LRiddlePress;II[J)I" } : Jvm.MethodName)) ∈ ab_T := ab_w5 35 rfl rfl
theorem wd_5_36 : (Jvm.Cond.codeWith ({ cls := "RiddlePressLaw", name := "publish", desc := "(LRiddlePress;II[J)I" } : Jvm.MethodName) method_20_code (5 : Nat) (Option.some Jvm.ClassFile.FieldType.int) [((0 : Nat), (10 : Nat), (13 : Nat), (21 : Nat)), ((0 : Nat), (10 : Nat), (17 : Nat), (13 : Nat)), ((0 : Nat), (10 : Nat), (21 : Nat), (23 : Nat))]) ∈ ab_T := ab_w5 36 rfl rfl
theorem wd_5_37 : (Jvm.Cond.methodLink "RiddlePressLaw" (78 : Nat) ({ cls := "RiddlePress", name := "publish", desc := "(II)I" } : Jvm.MethodName)) ∈ ab_T := ab_w5 37 rfl rfl
theorem wd_5_38 : (Jvm.Cond.instanceMethod ({ cls := "RiddlePress", name := "publish", desc := "(II)I" } : Jvm.MethodName)) ∈ ab_T := ab_w5 38 rfl rfl
theorem wd_5_39 : (Jvm.Cond.selects "RiddlePress" ({ cls := "RiddlePress", name := "publish", desc := "(II)I" } : Jvm.MethodName) ({ cls := "RiddlePress", name := "publish", desc := "(II)I" } : Jvm.MethodName)) ∈ ab_T := ab_w5 39 rfl rfl
theorem wd_5_40 : (Jvm.Cond.code ({ cls := "RiddlePress", name := "publish", desc := "(II)I" } : Jvm.MethodName) prog_1_method_19_code (5 : Nat) (Option.some Jvm.ClassFile.FieldType.int)) ∈ ab_T := ab_w5 40 rfl rfl
theorem wd_5_55 : (Jvm.Cond.methodLink "RiddlePressLaw" (183 : Nat) ({ cls := "RiddlePressLaw", name := "issueState", desc := "(LRiddlePress;I[J)I" } : Jvm.MethodName)) ∈ ab_T := ab_w5 55 rfl rfl
theorem wd_5_56 : (Jvm.Cond.static ({ cls := "RiddlePressLaw", name := "issueState", desc := "(LRiddlePress;I[J)I" } : Jvm.MethodName)) ∈ ab_T := ab_w5 56 rfl rfl
theorem wd_5_57 : (Jvm.Cond.codeWith ({ cls := "RiddlePressLaw", name := "issueState", desc := "(LRiddlePress;I[J)I" } : Jvm.MethodName) method_21_code (4 : Nat) (Option.some Jvm.ClassFile.FieldType.int) [((0 : Nat), (9 : Nat), (12 : Nat), (21 : Nat))]) ∈ ab_T := ab_w5 57 rfl rfl
theorem wd_5_58 : (Jvm.Cond.methodLink "RiddlePressLaw" (81 : Nat) ({ cls := "RiddlePress", name := "issueState", desc := "(I)C" } : Jvm.MethodName)) ∈ ab_T := ab_w5 58 rfl rfl
theorem wd_5_59 : (Jvm.Cond.instanceMethod ({ cls := "RiddlePress", name := "issueState", desc := "(I)C" } : Jvm.MethodName)) ∈ ab_T := ab_w5 59 rfl rfl
theorem wd_5_60 : (Jvm.Cond.selects "RiddlePress" ({ cls := "RiddlePress", name := "issueState", desc := "(I)C" } : Jvm.MethodName) ({ cls := "RiddlePress", name := "issueState", desc := "(I)C" } : Jvm.MethodName)) ∈ ab_T := ab_w5 60 rfl rfl
theorem wd_5_61 : (Jvm.Cond.code ({ cls := "RiddlePress", name := "issueState", desc := "(I)C" } : Jvm.MethodName) prog_1_method_20_code (2 : Nat) (Option.some Jvm.ClassFile.FieldType.char)) ∈ ab_T := ab_w5 61 rfl rfl
theorem wd_5_62 : (Jvm.Cond.methodLink "RiddlePressLaw" (186 : Nat) ({ cls := "RiddlePressLaw", name := "indexed", desc := "(LRiddlePress;I[J)I" } : Jvm.MethodName)) ∈ ab_T := ab_w5 62 rfl rfl
theorem wd_5_63 : (Jvm.Cond.static ({ cls := "RiddlePressLaw", name := "indexed", desc := "(LRiddlePress;I[J)I" } : Jvm.MethodName)) ∈ ab_T := ab_w5 63 rfl rfl
theorem wd_5_64 : (Jvm.Cond.codeWith ({ cls := "RiddlePressLaw", name := "indexed", desc := "(LRiddlePress;I[J)I" } : Jvm.MethodName) method_22_code (4 : Nat) (Option.some Jvm.ClassFile.FieldType.int) [((0 : Nat), (9 : Nat), (12 : Nat), (21 : Nat))]) ∈ ab_T := ab_w5 64 rfl rfl
theorem wd_5_65 : (Jvm.Cond.methodLink "RiddlePressLaw" (84 : Nat) ({ cls := "RiddlePress", name := "indexed", desc := "(I)I" } : Jvm.MethodName)) ∈ ab_T := ab_w5 65 rfl rfl
theorem wd_5_66 : (Jvm.Cond.instanceMethod ({ cls := "RiddlePress", name := "indexed", desc := "(I)I" } : Jvm.MethodName)) ∈ ab_T := ab_w5 66 rfl rfl
theorem wd_5_67 : (Jvm.Cond.selects "RiddlePress" ({ cls := "RiddlePress", name := "indexed", desc := "(I)I" } : Jvm.MethodName) ({ cls := "RiddlePress", name := "indexed", desc := "(I)I" } : Jvm.MethodName)) ∈ ab_T := ab_w5 67 rfl rfl
theorem wd_5_68 : (Jvm.Cond.code ({ cls := "RiddlePress", name := "indexed", desc := "(I)I" } : Jvm.MethodName) prog_1_method_21_code (4 : Nat) (Option.some Jvm.ClassFile.FieldType.int)) ∈ ab_T := ab_w5 68 rfl rfl
theorem wd_5_69 : (Jvm.Cond.methodLink "RiddlePressLaw" (189 : Nat) ({ cls := "RiddlePressLaw", name := "customer", desc := "(LRiddlePress;[J)I" } : Jvm.MethodName)) ∈ ab_T := ab_w5 69 rfl rfl
theorem wd_5_70 : (Jvm.Cond.static ({ cls := "RiddlePressLaw", name := "customer", desc := "(LRiddlePress;[J)I" } : Jvm.MethodName)) ∈ ab_T := ab_w5 70 rfl rfl
theorem wd_5_71 : (Jvm.Cond.codeWith ({ cls := "RiddlePressLaw", name := "customer", desc := "(LRiddlePress;[J)I" } : Jvm.MethodName) method_23_code (3 : Nat) (Option.some Jvm.ClassFile.FieldType.int) [((0 : Nat), (8 : Nat), (11 : Nat), (15 : Nat))]) ∈ ab_T := ab_w5 71 rfl rfl
theorem wd_5_72 : (Jvm.Cond.methodLink "RiddlePressLaw" (87 : Nat) ({ cls := "RiddlePress", name := "customer", desc := "()I" } : Jvm.MethodName)) ∈ ab_T := ab_w5 72 rfl rfl
theorem wd_5_73 : (Jvm.Cond.instanceMethod ({ cls := "RiddlePress", name := "customer", desc := "()I" } : Jvm.MethodName)) ∈ ab_T := ab_w5 73 rfl rfl
theorem wd_5_74 : (Jvm.Cond.selects "RiddlePress" ({ cls := "RiddlePress", name := "customer", desc := "()I" } : Jvm.MethodName) ({ cls := "RiddlePress", name := "customer", desc := "()I" } : Jvm.MethodName)) ∈ ab_T := ab_w5 74 rfl rfl
theorem wd_5_75 : (Jvm.Cond.code ({ cls := "RiddlePress", name := "customer", desc := "()I" } : Jvm.MethodName) prog_1_method_22_code (1 : Nat) (Option.some Jvm.ClassFile.FieldType.int)) ∈ ab_T := ab_w5 75 rfl rfl
theorem wd_5_95 : (Jvm.Cond.methodLink "RiddlePressLaw" (192 : Nat) ({ cls := "RiddlePressLaw", name := "deposit", desc := "(LRiddlePress;II[J)I" } : Jvm.MethodName)) ∈ ab_T := ab_w5 95 rfl rfl
theorem wd_5_96 : (Jvm.Cond.static ({ cls := "RiddlePressLaw", name := "deposit", desc := "(LRiddlePress;II[J)I" } : Jvm.MethodName)) ∈ ab_T := ab_w5 96 rfl rfl
theorem wd_5_97 : (Jvm.Cond.codeWith ({ cls := "RiddlePressLaw", name := "deposit", desc := "(LRiddlePress;II[J)I" } : Jvm.MethodName) method_24_code (5 : Nat) (Option.some Jvm.ClassFile.FieldType.int) [((0 : Nat), (10 : Nat), (13 : Nat), (21 : Nat)), ((0 : Nat), (10 : Nat), (17 : Nat), (13 : Nat)), ((0 : Nat), (10 : Nat), (21 : Nat), (93 : Nat))]) ∈ ab_T := ab_w5 97 rfl rfl
theorem wd_5_98 : (Jvm.Cond.classLink "RiddlePressLaw" (93 : Nat) "java/lang/ArithmeticException") ∈ ab_T := ab_w5 98 rfl rfl
theorem wd_5_112 : (Jvm.Cond.methodLink "RiddlePressLaw" (90 : Nat) ({ cls := "RiddlePress", name := "deposit", desc := "(II)I" } : Jvm.MethodName)) ∈ ab_T := ab_w5 112 rfl rfl
theorem wd_5_113 : (Jvm.Cond.instanceMethod ({ cls := "RiddlePress", name := "deposit", desc := "(II)I" } : Jvm.MethodName)) ∈ ab_T := ab_w5 113 rfl rfl
theorem wd_5_114 : (Jvm.Cond.selects "RiddlePress" ({ cls := "RiddlePress", name := "deposit", desc := "(II)I" } : Jvm.MethodName) ({ cls := "RiddlePress", name := "deposit", desc := "(II)I" } : Jvm.MethodName)) ∈ ab_T := ab_w5 114 rfl rfl
theorem wd_5_115 : (Jvm.Cond.code ({ cls := "RiddlePress", name := "deposit", desc := "(II)I" } : Jvm.MethodName) prog_1_method_23_code (4 : Nat) (Option.some Jvm.ClassFile.FieldType.int)) ∈ ab_T := ab_w5 115 rfl rfl
theorem wd_5_126 : (Jvm.Cond.methodLink "RiddlePressLaw" (195 : Nat) ({ cls := "RiddlePressLaw", name := "subscribe", desc := "(LRiddlePress;II[J)I" } : Jvm.MethodName)) ∈ ab_T := ab_w5 126 rfl rfl
theorem wd_5_127 : (Jvm.Cond.static ({ cls := "RiddlePressLaw", name := "subscribe", desc := "(LRiddlePress;II[J)I" } : Jvm.MethodName)) ∈ ab_T := ab_w5 127 rfl rfl
theorem wd_5_128 : (Jvm.Cond.codeWith ({ cls := "RiddlePressLaw", name := "subscribe", desc := "(LRiddlePress;II[J)I" } : Jvm.MethodName) method_25_code (5 : Nat) (Option.some Jvm.ClassFile.FieldType.int) [((0 : Nat), (10 : Nat), (13 : Nat), (21 : Nat)), ((0 : Nat), (10 : Nat), (17 : Nat), (13 : Nat))]) ∈ ab_T := ab_w5 128 rfl rfl
theorem wd_5_129 : (Jvm.Cond.methodLink "RiddlePressLaw" (95 : Nat) ({ cls := "RiddlePress", name := "subscribe", desc := "(II)I" } : Jvm.MethodName)) ∈ ab_T := ab_w5 129 rfl rfl
theorem wd_5_130 : (Jvm.Cond.instanceMethod ({ cls := "RiddlePress", name := "subscribe", desc := "(II)I" } : Jvm.MethodName)) ∈ ab_T := ab_w5 130 rfl rfl
theorem wd_5_131 : (Jvm.Cond.selects "RiddlePress" ({ cls := "RiddlePress", name := "subscribe", desc := "(II)I" } : Jvm.MethodName) ({ cls := "RiddlePress", name := "subscribe", desc := "(II)I" } : Jvm.MethodName)) ∈ ab_T := ab_w5 131 rfl rfl
theorem wd_5_132 : (Jvm.Cond.code ({ cls := "RiddlePress", name := "subscribe", desc := "(II)I" } : Jvm.MethodName) prog_1_method_24_code (4 : Nat) (Option.some Jvm.ClassFile.FieldType.int)) ∈ ab_T := ab_w5 132 rfl rfl
theorem wd_5_134 : (Jvm.Cond.methodLink "RiddlePressLaw" (198 : Nat) ({ cls := "RiddlePressLaw", name := "buy", desc := "(LRiddlePress;II[J)I" } : Jvm.MethodName)) ∈ ab_T := ab_w5 134 rfl rfl
theorem wd_5_135 : (Jvm.Cond.static ({ cls := "RiddlePressLaw", name := "buy", desc := "(LRiddlePress;II[J)I" } : Jvm.MethodName)) ∈ ab_T := ab_w5 135 rfl rfl
theorem wd_5_136 : (Jvm.Cond.codeWith ({ cls := "RiddlePressLaw", name := "buy", desc := "(LRiddlePress;II[J)I" } : Jvm.MethodName) method_26_code (5 : Nat) (Option.some Jvm.ClassFile.FieldType.int) [((0 : Nat), (10 : Nat), (13 : Nat), (21 : Nat)), ((0 : Nat), (10 : Nat), (17 : Nat), (23 : Nat))]) ∈ ab_T := ab_w5 136 rfl rfl
theorem wd_5_137 : (Jvm.Cond.methodLink "RiddlePressLaw" (98 : Nat) ({ cls := "RiddlePress", name := "buy", desc := "(II)I" } : Jvm.MethodName)) ∈ ab_T := ab_w5 137 rfl rfl
theorem wd_5_138 : (Jvm.Cond.instanceMethod ({ cls := "RiddlePress", name := "buy", desc := "(II)I" } : Jvm.MethodName)) ∈ ab_T := ab_w5 138 rfl rfl
theorem wd_5_139 : (Jvm.Cond.selects "RiddlePress" ({ cls := "RiddlePress", name := "buy", desc := "(II)I" } : Jvm.MethodName) ({ cls := "RiddlePress", name := "buy", desc := "(II)I" } : Jvm.MethodName)) ∈ ab_T := ab_w5 139 rfl rfl
theorem wd_5_140 : (Jvm.Cond.code ({ cls := "RiddlePress", name := "buy", desc := "(II)I" } : Jvm.MethodName) prog_1_method_25_code (5 : Nat) (Option.some Jvm.ClassFile.FieldType.int)) ∈ ab_T := ab_w5 140 rfl rfl
theorem wd_5_142 : (Jvm.Cond.methodLink "RiddlePressLaw" (201 : Nat) ({ cls := "RiddlePressLaw", name := "credits", desc := "(LRiddlePress;I[J)I" } : Jvm.MethodName)) ∈ ab_T := ab_w5 142 rfl rfl
theorem wd_5_143 : (Jvm.Cond.static ({ cls := "RiddlePressLaw", name := "credits", desc := "(LRiddlePress;I[J)I" } : Jvm.MethodName)) ∈ ab_T := ab_w5 143 rfl rfl
theorem wd_5_144 : (Jvm.Cond.codeWith ({ cls := "RiddlePressLaw", name := "credits", desc := "(LRiddlePress;I[J)I" } : Jvm.MethodName) method_27_code (4 : Nat) (Option.some Jvm.ClassFile.FieldType.int) [((0 : Nat), (9 : Nat), (12 : Nat), (21 : Nat))]) ∈ ab_T := ab_w5 144 rfl rfl
theorem wd_5_145 : (Jvm.Cond.methodLink "RiddlePressLaw" (101 : Nat) ({ cls := "RiddlePress", name := "credits", desc := "(I)I" } : Jvm.MethodName)) ∈ ab_T := ab_w5 145 rfl rfl
theorem wd_5_146 : (Jvm.Cond.instanceMethod ({ cls := "RiddlePress", name := "credits", desc := "(I)I" } : Jvm.MethodName)) ∈ ab_T := ab_w5 146 rfl rfl
theorem wd_5_147 : (Jvm.Cond.selects "RiddlePress" ({ cls := "RiddlePress", name := "credits", desc := "(I)I" } : Jvm.MethodName) ({ cls := "RiddlePress", name := "credits", desc := "(I)I" } : Jvm.MethodName)) ∈ ab_T := ab_w5 147 rfl rfl
theorem wd_5_148 : (Jvm.Cond.code ({ cls := "RiddlePress", name := "credits", desc := "(I)I" } : Jvm.MethodName) prog_1_method_26_code (2 : Nat) (Option.some Jvm.ClassFile.FieldType.int)) ∈ ab_T := ab_w5 148 rfl rfl
theorem wd_5_149 : (Jvm.Cond.methodLink "RiddlePressLaw" (204 : Nat) ({ cls := "RiddlePressLaw", name := "has", desc := "(LRiddlePress;II[J)I" } : Jvm.MethodName)) ∈ ab_T := ab_w5 149 rfl rfl
theorem wd_5_150 : (Jvm.Cond.static ({ cls := "RiddlePressLaw", name := "has", desc := "(LRiddlePress;II[J)I" } : Jvm.MethodName)) ∈ ab_T := ab_w5 150 rfl rfl
theorem wd_5_151 : (Jvm.Cond.codeWith ({ cls := "RiddlePressLaw", name := "has", desc := "(LRiddlePress;II[J)I" } : Jvm.MethodName) method_28_code (5 : Nat) (Option.some Jvm.ClassFile.FieldType.int) [((0 : Nat), (17 : Nat), (20 : Nat), (21 : Nat))]) ∈ ab_T := ab_w5 151 rfl rfl
theorem wd_5_152 : (Jvm.Cond.methodLink "RiddlePressLaw" (104 : Nat) ({ cls := "RiddlePress", name := "has", desc := "(II)Z" } : Jvm.MethodName)) ∈ ab_T := ab_w5 152 rfl rfl
theorem wd_5_153 : (Jvm.Cond.instanceMethod ({ cls := "RiddlePress", name := "has", desc := "(II)Z" } : Jvm.MethodName)) ∈ ab_T := ab_w5 153 rfl rfl
theorem wd_5_154 : (Jvm.Cond.selects "RiddlePress" ({ cls := "RiddlePress", name := "has", desc := "(II)Z" } : Jvm.MethodName) ({ cls := "RiddlePress", name := "has", desc := "(II)Z" } : Jvm.MethodName)) ∈ ab_T := ab_w5 154 rfl rfl
theorem wd_5_155 : (Jvm.Cond.code ({ cls := "RiddlePress", name := "has", desc := "(II)Z" } : Jvm.MethodName) prog_1_method_27_code (4 : Nat) (Option.some Jvm.ClassFile.FieldType.boolean)) ∈ ab_T := ab_w5 155 rfl rfl
theorem wd_5_156 : (Jvm.Cond.methodLink "RiddlePressLaw" (217 : Nat) ({ cls := "RiddlePressLaw", name := "provedShare", desc := "(LRiddlePress;[D)I" } : Jvm.MethodName)) ∈ ab_T := ab_w5 156 rfl rfl
theorem wd_5_157 : (Jvm.Cond.static ({ cls := "RiddlePressLaw", name := "provedShare", desc := "(LRiddlePress;[D)I" } : Jvm.MethodName)) ∈ ab_T := ab_w5 157 rfl rfl
theorem wd_5_158 : (Jvm.Cond.codeWith ({ cls := "RiddlePressLaw", name := "provedShare", desc := "(LRiddlePress;[D)I" } : Jvm.MethodName) method_29_code (3 : Nat) (Option.some Jvm.ClassFile.FieldType.int) [((0 : Nat), (8 : Nat), (11 : Nat), (93 : Nat))]) ∈ ab_T := ab_w5 158 rfl rfl
theorem wd_5_159 : (Jvm.Cond.methodLink "RiddlePressLaw" (107 : Nat) ({ cls := "RiddlePress", name := "provedShare", desc := "()F" } : Jvm.MethodName)) ∈ ab_T := ab_w5 159 rfl rfl
theorem wd_5_160 : (Jvm.Cond.instanceMethod ({ cls := "RiddlePress", name := "provedShare", desc := "()F" } : Jvm.MethodName)) ∈ ab_T := ab_w5 160 rfl rfl
theorem wd_5_161 : (Jvm.Cond.selects "RiddlePress" ({ cls := "RiddlePress", name := "provedShare", desc := "()F" } : Jvm.MethodName) ({ cls := "RiddlePress", name := "provedShare", desc := "()F" } : Jvm.MethodName)) ∈ ab_T := ab_w5 161 rfl rfl
theorem wd_5_162 : (Jvm.Cond.code ({ cls := "RiddlePress", name := "provedShare", desc := "()F" } : Jvm.MethodName) prog_1_method_30_code (1 : Nat) (Option.some Jvm.ClassFile.FieldType.float)) ∈ ab_T := ab_w5 162 rfl rfl
theorem wd_5_177 : (Jvm.Cond.methodLink "RiddlePressLaw" (221 : Nat) ({ cls := "RiddlePressLaw", name := "meanSteps", desc := "(LRiddlePress;[D)I" } : Jvm.MethodName)) ∈ ab_T := ab_w5 177 rfl rfl
theorem wd_5_178 : (Jvm.Cond.static ({ cls := "RiddlePressLaw", name := "meanSteps", desc := "(LRiddlePress;[D)I" } : Jvm.MethodName)) ∈ ab_T := ab_w5 178 rfl rfl
theorem wd_5_179 : (Jvm.Cond.codeWith ({ cls := "RiddlePressLaw", name := "meanSteps", desc := "(LRiddlePress;[D)I" } : Jvm.MethodName) method_30_code (3 : Nat) (Option.some Jvm.ClassFile.FieldType.int) [((0 : Nat), (7 : Nat), (10 : Nat), (93 : Nat))]) ∈ ab_T := ab_w5 179 rfl rfl
theorem wd_5_180 : (Jvm.Cond.methodLink "RiddlePressLaw" (111 : Nat) ({ cls := "RiddlePress", name := "meanSteps", desc := "()D" } : Jvm.MethodName)) ∈ ab_T := ab_w5 180 rfl rfl
theorem wd_5_181 : (Jvm.Cond.instanceMethod ({ cls := "RiddlePress", name := "meanSteps", desc := "()D" } : Jvm.MethodName)) ∈ ab_T := ab_w5 181 rfl rfl
theorem wd_5_182 : (Jvm.Cond.selects "RiddlePress" ({ cls := "RiddlePress", name := "meanSteps", desc := "()D" } : Jvm.MethodName) ({ cls := "RiddlePress", name := "meanSteps", desc := "()D" } : Jvm.MethodName)) ∈ ab_T := ab_w5 182 rfl rfl
theorem wd_5_183 : (Jvm.Cond.code ({ cls := "RiddlePress", name := "meanSteps", desc := "()D" } : Jvm.MethodName) prog_1_method_31_code (4 : Nat) (Option.some Jvm.ClassFile.FieldType.double)) ∈ ab_T := ab_w5 183 rfl rfl
theorem wd_5_185 : (Jvm.Cond.classLink "RiddlePressLaw" (116 : Nat) "RiddlePressModel") ∈ ab_T := ab_w5 185 rfl rfl
theorem wd_5_186 : (Jvm.Cond.instantiable "RiddlePressModel" (36 : Nat)) ∈ ab_T := ab_w5 186 rfl rfl
theorem wd_5_187 : (Jvm.Cond.methodLink "RiddlePressLaw" (118 : Nat) ({ cls := "RiddlePressModel", name := "<init>", desc := "()V" } : Jvm.MethodName)) ∈ ab_T := ab_w5 187 rfl rfl
theorem wd_5_188 : (Jvm.Cond.instanceMethod ({ cls := "RiddlePressModel", name := "<init>", desc := "()V" } : Jvm.MethodName)) ∈ ab_T := ab_w5 188 rfl rfl
theorem wd_5_189 : (Jvm.Cond.code ({ cls := "RiddlePressModel", name := "<init>", desc := "()V" } : Jvm.MethodName) prog_11_method_1_code (1 : Nat) (Option.none : Option Jvm.ClassFile.FieldType)) ∈ ab_T := ab_w5 189 rfl rfl
theorem wd_6_60 : (Jvm.Cond.methodLink "RiddlePressLaw" (125 : Nat) ({ cls := "RiddlePressModel", name := "thrown", desc := "()I" } : Jvm.MethodName)) ∈ ab_T := ab_w6 60 rfl rfl
theorem wd_6_61 : (Jvm.Cond.instanceMethod ({ cls := "RiddlePressModel", name := "thrown", desc := "()I" } : Jvm.MethodName)) ∈ ab_T := ab_w6 61 rfl rfl
theorem wd_6_62 : (Jvm.Cond.selects "RiddlePressModel" ({ cls := "RiddlePressModel", name := "thrown", desc := "()I" } : Jvm.MethodName) ({ cls := "RiddlePressModel", name := "thrown", desc := "()I" } : Jvm.MethodName)) ∈ ab_T := ab_w6 62 rfl rfl
theorem wd_6_63 : (Jvm.Cond.code ({ cls := "RiddlePressModel", name := "thrown", desc := "()I" } : Jvm.MethodName) prog_11_method_2_code (1 : Nat) (Option.some Jvm.ClassFile.FieldType.int)) ∈ ab_T := ab_w6 63 rfl rfl
theorem wd_6_64 : (Jvm.Cond.methodLink "RiddlePressLaw" (124 : Nat) ({ cls := "RiddlePressModel", name := "riddle", desc := "(I)I" } : Jvm.MethodName)) ∈ ab_T := ab_w6 64 rfl rfl
theorem wd_6_65 : (Jvm.Cond.instanceMethod ({ cls := "RiddlePressModel", name := "riddle", desc := "(I)I" } : Jvm.MethodName)) ∈ ab_T := ab_w6 65 rfl rfl
theorem wd_6_66 : (Jvm.Cond.selects "RiddlePressModel" ({ cls := "RiddlePressModel", name := "riddle", desc := "(I)I" } : Jvm.MethodName) ({ cls := "RiddlePressModel", name := "riddle", desc := "(I)I" } : Jvm.MethodName)) ∈ ab_T := ab_w6 66 rfl rfl
theorem wd_6_67 : (Jvm.Cond.code ({ cls := "RiddlePressModel", name := "riddle", desc := "(I)I" } : Jvm.MethodName) prog_11_method_42_code (2 : Nat) (Option.some Jvm.ClassFile.FieldType.int)) ∈ ab_T := ab_w6 67 rfl rfl
theorem wd_6_79 : (Jvm.Cond.methodLink "RiddlePressLaw" (131 : Nat) ({ cls := "RiddlePressModel", name := "clue", desc := "(ICIII)I" } : Jvm.MethodName)) ∈ ab_T := ab_w6 79 rfl rfl
theorem wd_6_80 : (Jvm.Cond.instanceMethod ({ cls := "RiddlePressModel", name := "clue", desc := "(ICIII)I" } : Jvm.MethodName)) ∈ ab_T := ab_w6 80 rfl rfl
theorem wd_6_81 : (Jvm.Cond.selects "RiddlePressModel" ({ cls := "RiddlePressModel", name := "clue", desc := "(ICIII)I" } : Jvm.MethodName) ({ cls := "RiddlePressModel", name := "clue", desc := "(ICIII)I" } : Jvm.MethodName)) ∈ ab_T := ab_w6 81 rfl rfl
theorem wd_6_82 : (Jvm.Cond.code ({ cls := "RiddlePressModel", name := "clue", desc := "(ICIII)I" } : Jvm.MethodName) prog_11_method_44_code (7 : Nat) (Option.some Jvm.ClassFile.FieldType.int)) ∈ ab_T := ab_w6 82 rfl rfl
theorem wd_6_91 : (Jvm.Cond.methodLink "RiddlePressLaw" (134 : Nat) ({ cls := "RiddlePressModel", name := "answers", desc := "(I)I" } : Jvm.MethodName)) ∈ ab_T := ab_w6 91 rfl rfl
theorem wd_6_92 : (Jvm.Cond.instanceMethod ({ cls := "RiddlePressModel", name := "answers", desc := "(I)I" } : Jvm.MethodName)) ∈ ab_T := ab_w6 92 rfl rfl
theorem wd_6_93 : (Jvm.Cond.selects "RiddlePressModel" ({ cls := "RiddlePressModel", name := "answers", desc := "(I)I" } : Jvm.MethodName) ({ cls := "RiddlePressModel", name := "answers", desc := "(I)I" } : Jvm.MethodName)) ∈ ab_T := ab_w6 93 rfl rfl
theorem wd_6_94 : (Jvm.Cond.code ({ cls := "RiddlePressModel", name := "answers", desc := "(I)I" } : Jvm.MethodName) prog_11_method_45_code (2 : Nat) (Option.some Jvm.ClassFile.FieldType.int)) ∈ ab_T := ab_w6 94 rfl rfl
theorem wd_6_119 : (Jvm.Cond.methodLink "RiddlePressLaw" (138 : Nat) ({ cls := "RiddlePressModel", name := "answer", desc := "(II)I" } : Jvm.MethodName)) ∈ ab_T := ab_w6 119 rfl rfl
theorem wd_6_120 : (Jvm.Cond.instanceMethod ({ cls := "RiddlePressModel", name := "answer", desc := "(II)I" } : Jvm.MethodName)) ∈ ab_T := ab_w6 120 rfl rfl
theorem wd_6_121 : (Jvm.Cond.selects "RiddlePressModel" ({ cls := "RiddlePressModel", name := "answer", desc := "(II)I" } : Jvm.MethodName) ({ cls := "RiddlePressModel", name := "answer", desc := "(II)I" } : Jvm.MethodName)) ∈ ab_T := ab_w6 121 rfl rfl
theorem wd_6_122 : (Jvm.Cond.code ({ cls := "RiddlePressModel", name := "answer", desc := "(II)I" } : Jvm.MethodName) prog_11_method_46_code (3 : Nat) (Option.some Jvm.ClassFile.FieldType.int)) ∈ ab_T := ab_w6 122 rfl rfl
theorem wd_6_123 : (Jvm.Cond.methodLink "RiddlePressLaw" (141 : Nat) ({ cls := "RiddlePressModel", name := "prove", desc := "(I)C" } : Jvm.MethodName)) ∈ ab_T := ab_w6 123 rfl rfl
theorem wd_6_124 : (Jvm.Cond.instanceMethod ({ cls := "RiddlePressModel", name := "prove", desc := "(I)C" } : Jvm.MethodName)) ∈ ab_T := ab_w6 124 rfl rfl
theorem wd_6_125 : (Jvm.Cond.selects "RiddlePressModel" ({ cls := "RiddlePressModel", name := "prove", desc := "(I)C" } : Jvm.MethodName) ({ cls := "RiddlePressModel", name := "prove", desc := "(I)C" } : Jvm.MethodName)) ∈ ab_T := ab_w6 125 rfl rfl
theorem wd_6_126 : (Jvm.Cond.code ({ cls := "RiddlePressModel", name := "prove", desc := "(I)C" } : Jvm.MethodName) prog_11_method_47_code (3 : Nat) (Option.some Jvm.ClassFile.FieldType.char)) ∈ ab_T := ab_w6 126 rfl rfl
theorem wd_6_213 : (Jvm.Cond.methodLink "RiddlePressLaw" (144 : Nat) ({ cls := "RiddlePressModel", name := "steps", desc := "(I)I" } : Jvm.MethodName)) ∈ ab_T := ab_w6 213 rfl rfl
theorem wd_6_214 : (Jvm.Cond.instanceMethod ({ cls := "RiddlePressModel", name := "steps", desc := "(I)I" } : Jvm.MethodName)) ∈ ab_T := ab_w6 214 rfl rfl
theorem wd_6_215 : (Jvm.Cond.selects "RiddlePressModel" ({ cls := "RiddlePressModel", name := "steps", desc := "(I)I" } : Jvm.MethodName) ({ cls := "RiddlePressModel", name := "steps", desc := "(I)I" } : Jvm.MethodName)) ∈ ab_T := ab_w6 215 rfl rfl
theorem wd_6_216 : (Jvm.Cond.code ({ cls := "RiddlePressModel", name := "steps", desc := "(I)I" } : Jvm.MethodName) prog_11_method_48_code (2 : Nat) (Option.some Jvm.ClassFile.FieldType.int)) ∈ ab_T := ab_w6 216 rfl rfl
theorem wd_6_217 : (Jvm.Cond.methodLink "RiddlePressLaw" (147 : Nat) ({ cls := "RiddlePressModel", name := "ruleAt", desc := "(II)I" } : Jvm.MethodName)) ∈ ab_T := ab_w6 217 rfl rfl
theorem wd_6_218 : (Jvm.Cond.instanceMethod ({ cls := "RiddlePressModel", name := "ruleAt", desc := "(II)I" } : Jvm.MethodName)) ∈ ab_T := ab_w6 218 rfl rfl
theorem wd_6_219 : (Jvm.Cond.selects "RiddlePressModel" ({ cls := "RiddlePressModel", name := "ruleAt", desc := "(II)I" } : Jvm.MethodName) ({ cls := "RiddlePressModel", name := "ruleAt", desc := "(II)I" } : Jvm.MethodName)) ∈ ab_T := ab_w6 219 rfl rfl
theorem wd_6_220 : (Jvm.Cond.code ({ cls := "RiddlePressModel", name := "ruleAt", desc := "(II)I" } : Jvm.MethodName) prog_11_method_50_code (4 : Nat) (Option.some Jvm.ClassFile.FieldType.int)) ∈ ab_T := ab_w6 220 rfl rfl
theorem wd_6_225 : (Jvm.Cond.methodLink "RiddlePressLaw" (150 : Nat) ({ cls := "RiddlePressModel", name := "causeAt", desc := "(II)I" } : Jvm.MethodName)) ∈ ab_T := ab_w6 225 rfl rfl
theorem wd_6_226 : (Jvm.Cond.instanceMethod ({ cls := "RiddlePressModel", name := "causeAt", desc := "(II)I" } : Jvm.MethodName)) ∈ ab_T := ab_w6 226 rfl rfl
theorem wd_6_227 : (Jvm.Cond.selects "RiddlePressModel" ({ cls := "RiddlePressModel", name := "causeAt", desc := "(II)I" } : Jvm.MethodName) ({ cls := "RiddlePressModel", name := "causeAt", desc := "(II)I" } : Jvm.MethodName)) ∈ ab_T := ab_w6 227 rfl rfl
theorem wd_6_228 : (Jvm.Cond.code ({ cls := "RiddlePressModel", name := "causeAt", desc := "(II)I" } : Jvm.MethodName) prog_11_method_51_code (4 : Nat) (Option.some Jvm.ClassFile.FieldType.int)) ∈ ab_T := ab_w6 228 rfl rfl
theorem wd_6_229 : (Jvm.Cond.methodLink "RiddlePressLaw" (153 : Nat) ({ cls := "RiddlePressModel", name := "takenAt", desc := "(II)I" } : Jvm.MethodName)) ∈ ab_T := ab_w6 229 rfl rfl
theorem wd_6_230 : (Jvm.Cond.instanceMethod ({ cls := "RiddlePressModel", name := "takenAt", desc := "(II)I" } : Jvm.MethodName)) ∈ ab_T := ab_w6 230 rfl rfl
theorem wd_6_231 : (Jvm.Cond.selects "RiddlePressModel" ({ cls := "RiddlePressModel", name := "takenAt", desc := "(II)I" } : Jvm.MethodName) ({ cls := "RiddlePressModel", name := "takenAt", desc := "(II)I" } : Jvm.MethodName)) ∈ ab_T := ab_w6 231 rfl rfl
theorem wd_6_232 : (Jvm.Cond.code ({ cls := "RiddlePressModel", name := "takenAt", desc := "(II)I" } : Jvm.MethodName) prog_11_method_52_code (4 : Nat) (Option.some Jvm.ClassFile.FieldType.int)) ∈ ab_T := ab_w6 232 rfl rfl
theorem wd_6_233 : (Jvm.Cond.methodLink "RiddlePressLaw" (156 : Nat) ({ cls := "RiddlePressModel", name := "leansOn", desc := "(II)Z" } : Jvm.MethodName)) ∈ ab_T := ab_w6 233 rfl rfl
theorem wd_6_234 : (Jvm.Cond.instanceMethod ({ cls := "RiddlePressModel", name := "leansOn", desc := "(II)Z" } : Jvm.MethodName)) ∈ ab_T := ab_w6 234 rfl rfl
theorem wd_6_235 : (Jvm.Cond.selects "RiddlePressModel" ({ cls := "RiddlePressModel", name := "leansOn", desc := "(II)Z" } : Jvm.MethodName) ({ cls := "RiddlePressModel", name := "leansOn", desc := "(II)Z" } : Jvm.MethodName)) ∈ ab_T := ab_w6 235 rfl rfl
theorem wd_6_236 : (Jvm.Cond.code ({ cls := "RiddlePressModel", name := "leansOn", desc := "(II)Z" } : Jvm.MethodName) prog_11_method_54_code (3 : Nat) (Option.some Jvm.ClassFile.FieldType.boolean)) ∈ ab_T := ab_w6 236 rfl rfl
theorem wd_7_13 : (Jvm.Cond.methodLink "RiddlePressLaw" (159 : Nat) ({ cls := "RiddlePressModel", name := "state", desc := "(I)C" } : Jvm.MethodName)) ∈ ab_T := ab_w7 13 rfl rfl
theorem wd_7_14 : (Jvm.Cond.instanceMethod ({ cls := "RiddlePressModel", name := "state", desc := "(I)C" } : Jvm.MethodName)) ∈ ab_T := ab_w7 14 rfl rfl
theorem wd_7_15 : (Jvm.Cond.selects "RiddlePressModel" ({ cls := "RiddlePressModel", name := "state", desc := "(I)C" } : Jvm.MethodName) ({ cls := "RiddlePressModel", name := "state", desc := "(I)C" } : Jvm.MethodName)) ∈ ab_T := ab_w7 15 rfl rfl
theorem wd_7_16 : (Jvm.Cond.code ({ cls := "RiddlePressModel", name := "state", desc := "(I)C" } : Jvm.MethodName) prog_11_method_55_code (2 : Nat) (Option.some Jvm.ClassFile.FieldType.char)) ∈ ab_T := ab_w7 16 rfl rfl
theorem wd_7_17 : (Jvm.Cond.methodLink "RiddlePressLaw" (163 : Nat) ({ cls := "RiddlePressModel", name := "rule", desc := "(CCZI)I" } : Jvm.MethodName)) ∈ ab_T := ab_w7 17 rfl rfl
theorem wd_7_18 : (Jvm.Cond.instanceMethod ({ cls := "RiddlePressModel", name := "rule", desc := "(CCZI)I" } : Jvm.MethodName)) ∈ ab_T := ab_w7 18 rfl rfl
theorem wd_7_19 : (Jvm.Cond.selects "RiddlePressModel" ({ cls := "RiddlePressModel", name := "rule", desc := "(CCZI)I" } : Jvm.MethodName) ({ cls := "RiddlePressModel", name := "rule", desc := "(CCZI)I" } : Jvm.MethodName)) ∈ ab_T := ab_w7 19 rfl rfl
theorem wd_7_20 : (Jvm.Cond.code ({ cls := "RiddlePressModel", name := "rule", desc := "(CCZI)I" } : Jvm.MethodName) prog_11_method_56_code (6 : Nat) (Option.some Jvm.ClassFile.FieldType.int)) ∈ ab_T := ab_w7 20 rfl rfl
theorem wd_7_21 : (Jvm.Cond.methodLink "RiddlePressLaw" (166 : Nat) ({ cls := "RiddlePressModel", name := "stands", desc := "(I)Z" } : Jvm.MethodName)) ∈ ab_T := ab_w7 21 rfl rfl
theorem wd_7_22 : (Jvm.Cond.instanceMethod ({ cls := "RiddlePressModel", name := "stands", desc := "(I)Z" } : Jvm.MethodName)) ∈ ab_T := ab_w7 22 rfl rfl
theorem wd_7_23 : (Jvm.Cond.selects "RiddlePressModel" ({ cls := "RiddlePressModel", name := "stands", desc := "(I)Z" } : Jvm.MethodName) ({ cls := "RiddlePressModel", name := "stands", desc := "(I)Z" } : Jvm.MethodName)) ∈ ab_T := ab_w7 23 rfl rfl
theorem wd_7_24 : (Jvm.Cond.code ({ cls := "RiddlePressModel", name := "stands", desc := "(I)Z" } : Jvm.MethodName) prog_11_method_57_code (2 : Nat) (Option.some Jvm.ClassFile.FieldType.boolean)) ∈ ab_T := ab_w7 24 rfl rfl
theorem wd_7_25 : (Jvm.Cond.methodLink "RiddlePressLaw" (169 : Nat) ({ cls := "RiddlePressModel", name := "counterexample", desc := "(I)I" } : Jvm.MethodName)) ∈ ab_T := ab_w7 25 rfl rfl
theorem wd_7_26 : (Jvm.Cond.instanceMethod ({ cls := "RiddlePressModel", name := "counterexample", desc := "(I)I" } : Jvm.MethodName)) ∈ ab_T := ab_w7 26 rfl rfl
theorem wd_7_27 : (Jvm.Cond.selects "RiddlePressModel" ({ cls := "RiddlePressModel", name := "counterexample", desc := "(I)I" } : Jvm.MethodName) ({ cls := "RiddlePressModel", name := "counterexample", desc := "(I)I" } : Jvm.MethodName)) ∈ ab_T := ab_w7 27 rfl rfl
theorem wd_7_28 : (Jvm.Cond.code ({ cls := "RiddlePressModel", name := "counterexample", desc := "(I)I" } : Jvm.MethodName) prog_11_method_59_code (3 : Nat) (Option.some Jvm.ClassFile.FieldType.int)) ∈ ab_T := ab_w7 28 rfl rfl
theorem wd_7_45 : (Jvm.Cond.methodLink "RiddlePressLaw" (172 : Nat) ({ cls := "RiddlePressModel", name := "fall", desc := "(I)I" } : Jvm.MethodName)) ∈ ab_T := ab_w7 45 rfl rfl
theorem wd_7_46 : (Jvm.Cond.instanceMethod ({ cls := "RiddlePressModel", name := "fall", desc := "(I)I" } : Jvm.MethodName)) ∈ ab_T := ab_w7 46 rfl rfl
theorem wd_7_47 : (Jvm.Cond.selects "RiddlePressModel" ({ cls := "RiddlePressModel", name := "fall", desc := "(I)I" } : Jvm.MethodName) ({ cls := "RiddlePressModel", name := "fall", desc := "(I)I" } : Jvm.MethodName)) ∈ ab_T := ab_w7 47 rfl rfl
theorem wd_7_48 : (Jvm.Cond.code ({ cls := "RiddlePressModel", name := "fall", desc := "(I)I" } : Jvm.MethodName) prog_11_method_63_code (4 : Nat) (Option.some Jvm.ClassFile.FieldType.int)) ∈ ab_T := ab_w7 48 rfl rfl
theorem wd_7_63 : (Jvm.Cond.methodLink "RiddlePressLaw" (176 : Nat) ({ cls := "RiddlePressModel", name := "issue", desc := "()I" } : Jvm.MethodName)) ∈ ab_T := ab_w7 63 rfl rfl
theorem wd_7_64 : (Jvm.Cond.instanceMethod ({ cls := "RiddlePressModel", name := "issue", desc := "()I" } : Jvm.MethodName)) ∈ ab_T := ab_w7 64 rfl rfl
theorem wd_7_65 : (Jvm.Cond.selects "RiddlePressModel" ({ cls := "RiddlePressModel", name := "issue", desc := "()I" } : Jvm.MethodName) ({ cls := "RiddlePressModel", name := "issue", desc := "()I" } : Jvm.MethodName)) ∈ ab_T := ab_w7 65 rfl rfl
theorem wd_7_66 : (Jvm.Cond.code ({ cls := "RiddlePressModel", name := "issue", desc := "()I" } : Jvm.MethodName) prog_11_method_65_code (1 : Nat) (Option.some Jvm.ClassFile.FieldType.int)) ∈ ab_T := ab_w7 66 rfl rfl
theorem wd_7_67 : (Jvm.Cond.methodLink "RiddlePressLaw" (179 : Nat) ({ cls := "RiddlePressModel", name := "put", desc := "(II)I" } : Jvm.MethodName)) ∈ ab_T := ab_w7 67 rfl rfl
theorem wd_7_68 : (Jvm.Cond.instanceMethod ({ cls := "RiddlePressModel", name := "put", desc := "(II)I" } : Jvm.MethodName)) ∈ ab_T := ab_w7 68 rfl rfl
theorem wd_7_69 : (Jvm.Cond.selects "RiddlePressModel" ({ cls := "RiddlePressModel", name := "put", desc := "(II)I" } : Jvm.MethodName) ({ cls := "RiddlePressModel", name := "put", desc := "(II)I" } : Jvm.MethodName)) ∈ ab_T := ab_w7 69 rfl rfl
theorem wd_7_70 : (Jvm.Cond.code ({ cls := "RiddlePressModel", name := "put", desc := "(II)I" } : Jvm.MethodName) prog_11_method_66_code (3 : Nat) (Option.some Jvm.ClassFile.FieldType.int)) ∈ ab_T := ab_w7 70 rfl rfl
theorem wd_7_75 : (Jvm.Cond.methodLink "RiddlePressLaw" (182 : Nat) ({ cls := "RiddlePressModel", name := "publish", desc := "(II)I" } : Jvm.MethodName)) ∈ ab_T := ab_w7 75 rfl rfl
theorem wd_7_76 : (Jvm.Cond.instanceMethod ({ cls := "RiddlePressModel", name := "publish", desc := "(II)I" } : Jvm.MethodName)) ∈ ab_T := ab_w7 76 rfl rfl
theorem wd_7_77 : (Jvm.Cond.selects "RiddlePressModel" ({ cls := "RiddlePressModel", name := "publish", desc := "(II)I" } : Jvm.MethodName) ({ cls := "RiddlePressModel", name := "publish", desc := "(II)I" } : Jvm.MethodName)) ∈ ab_T := ab_w7 77 rfl rfl
theorem wd_7_78 : (Jvm.Cond.code ({ cls := "RiddlePressModel", name := "publish", desc := "(II)I" } : Jvm.MethodName) prog_11_method_68_code (5 : Nat) (Option.some Jvm.ClassFile.FieldType.int)) ∈ ab_T := ab_w7 78 rfl rfl
theorem wd_7_83 : (Jvm.Cond.methodLink "RiddlePressLaw" (185 : Nat) ({ cls := "RiddlePressModel", name := "issueState", desc := "(I)C" } : Jvm.MethodName)) ∈ ab_T := ab_w7 83 rfl rfl
theorem wd_7_84 : (Jvm.Cond.instanceMethod ({ cls := "RiddlePressModel", name := "issueState", desc := "(I)C" } : Jvm.MethodName)) ∈ ab_T := ab_w7 84 rfl rfl
theorem wd_7_85 : (Jvm.Cond.selects "RiddlePressModel" ({ cls := "RiddlePressModel", name := "issueState", desc := "(I)C" } : Jvm.MethodName) ({ cls := "RiddlePressModel", name := "issueState", desc := "(I)C" } : Jvm.MethodName)) ∈ ab_T := ab_w7 85 rfl rfl
theorem wd_7_86 : (Jvm.Cond.code ({ cls := "RiddlePressModel", name := "issueState", desc := "(I)C" } : Jvm.MethodName) prog_11_method_69_code (2 : Nat) (Option.some Jvm.ClassFile.FieldType.char)) ∈ ab_T := ab_w7 86 rfl rfl
theorem wd_7_87 : (Jvm.Cond.methodLink "RiddlePressLaw" (188 : Nat) ({ cls := "RiddlePressModel", name := "indexed", desc := "(I)I" } : Jvm.MethodName)) ∈ ab_T := ab_w7 87 rfl rfl
theorem wd_7_88 : (Jvm.Cond.instanceMethod ({ cls := "RiddlePressModel", name := "indexed", desc := "(I)I" } : Jvm.MethodName)) ∈ ab_T := ab_w7 88 rfl rfl
theorem wd_7_89 : (Jvm.Cond.selects "RiddlePressModel" ({ cls := "RiddlePressModel", name := "indexed", desc := "(I)I" } : Jvm.MethodName) ({ cls := "RiddlePressModel", name := "indexed", desc := "(I)I" } : Jvm.MethodName)) ∈ ab_T := ab_w7 89 rfl rfl
theorem wd_7_90 : (Jvm.Cond.code ({ cls := "RiddlePressModel", name := "indexed", desc := "(I)I" } : Jvm.MethodName) prog_11_method_70_code (4 : Nat) (Option.some Jvm.ClassFile.FieldType.int)) ∈ ab_T := ab_w7 90 rfl rfl
theorem wd_7_91 : (Jvm.Cond.methodLink "RiddlePressLaw" (191 : Nat) ({ cls := "RiddlePressModel", name := "customer", desc := "()I" } : Jvm.MethodName)) ∈ ab_T := ab_w7 91 rfl rfl
theorem wd_7_92 : (Jvm.Cond.instanceMethod ({ cls := "RiddlePressModel", name := "customer", desc := "()I" } : Jvm.MethodName)) ∈ ab_T := ab_w7 92 rfl rfl
theorem wd_7_93 : (Jvm.Cond.selects "RiddlePressModel" ({ cls := "RiddlePressModel", name := "customer", desc := "()I" } : Jvm.MethodName) ({ cls := "RiddlePressModel", name := "customer", desc := "()I" } : Jvm.MethodName)) ∈ ab_T := ab_w7 93 rfl rfl
theorem wd_7_94 : (Jvm.Cond.code ({ cls := "RiddlePressModel", name := "customer", desc := "()I" } : Jvm.MethodName) prog_11_method_72_code (1 : Nat) (Option.some Jvm.ClassFile.FieldType.int)) ∈ ab_T := ab_w7 94 rfl rfl
theorem wd_7_95 : (Jvm.Cond.methodLink "RiddlePressLaw" (194 : Nat) ({ cls := "RiddlePressModel", name := "deposit", desc := "(II)I" } : Jvm.MethodName)) ∈ ab_T := ab_w7 95 rfl rfl
theorem wd_7_96 : (Jvm.Cond.instanceMethod ({ cls := "RiddlePressModel", name := "deposit", desc := "(II)I" } : Jvm.MethodName)) ∈ ab_T := ab_w7 96 rfl rfl
theorem wd_7_97 : (Jvm.Cond.selects "RiddlePressModel" ({ cls := "RiddlePressModel", name := "deposit", desc := "(II)I" } : Jvm.MethodName) ({ cls := "RiddlePressModel", name := "deposit", desc := "(II)I" } : Jvm.MethodName)) ∈ ab_T := ab_w7 97 rfl rfl
theorem wd_7_98 : (Jvm.Cond.code ({ cls := "RiddlePressModel", name := "deposit", desc := "(II)I" } : Jvm.MethodName) prog_11_method_73_code (3 : Nat) (Option.some Jvm.ClassFile.FieldType.int)) ∈ ab_T := ab_w7 98 rfl rfl
theorem wd_7_104 : (Jvm.Cond.methodLink "RiddlePressLaw" (197 : Nat) ({ cls := "RiddlePressModel", name := "subscribe", desc := "(II)I" } : Jvm.MethodName)) ∈ ab_T := ab_w7 104 rfl rfl
theorem wd_7_105 : (Jvm.Cond.instanceMethod ({ cls := "RiddlePressModel", name := "subscribe", desc := "(II)I" } : Jvm.MethodName)) ∈ ab_T := ab_w7 105 rfl rfl
theorem wd_7_106 : (Jvm.Cond.selects "RiddlePressModel" ({ cls := "RiddlePressModel", name := "subscribe", desc := "(II)I" } : Jvm.MethodName) ({ cls := "RiddlePressModel", name := "subscribe", desc := "(II)I" } : Jvm.MethodName)) ∈ ab_T := ab_w7 106 rfl rfl
theorem wd_7_107 : (Jvm.Cond.code ({ cls := "RiddlePressModel", name := "subscribe", desc := "(II)I" } : Jvm.MethodName) prog_11_method_74_code (3 : Nat) (Option.some Jvm.ClassFile.FieldType.int)) ∈ ab_T := ab_w7 107 rfl rfl
theorem wd_7_108 : (Jvm.Cond.methodLink "RiddlePressLaw" (200 : Nat) ({ cls := "RiddlePressModel", name := "buy", desc := "(II)I" } : Jvm.MethodName)) ∈ ab_T := ab_w7 108 rfl rfl
theorem wd_7_109 : (Jvm.Cond.instanceMethod ({ cls := "RiddlePressModel", name := "buy", desc := "(II)I" } : Jvm.MethodName)) ∈ ab_T := ab_w7 109 rfl rfl
theorem wd_7_110 : (Jvm.Cond.selects "RiddlePressModel" ({ cls := "RiddlePressModel", name := "buy", desc := "(II)I" } : Jvm.MethodName) ({ cls := "RiddlePressModel", name := "buy", desc := "(II)I" } : Jvm.MethodName)) ∈ ab_T := ab_w7 110 rfl rfl
theorem wd_7_111 : (Jvm.Cond.code ({ cls := "RiddlePressModel", name := "buy", desc := "(II)I" } : Jvm.MethodName) prog_11_method_75_code (3 : Nat) (Option.some Jvm.ClassFile.FieldType.int)) ∈ ab_T := ab_w7 111 rfl rfl
theorem wd_7_112 : (Jvm.Cond.methodLink "RiddlePressLaw" (203 : Nat) ({ cls := "RiddlePressModel", name := "credits", desc := "(I)I" } : Jvm.MethodName)) ∈ ab_T := ab_w7 112 rfl rfl
theorem wd_7_113 : (Jvm.Cond.instanceMethod ({ cls := "RiddlePressModel", name := "credits", desc := "(I)I" } : Jvm.MethodName)) ∈ ab_T := ab_w7 113 rfl rfl
theorem wd_7_114 : (Jvm.Cond.selects "RiddlePressModel" ({ cls := "RiddlePressModel", name := "credits", desc := "(I)I" } : Jvm.MethodName) ({ cls := "RiddlePressModel", name := "credits", desc := "(I)I" } : Jvm.MethodName)) ∈ ab_T := ab_w7 114 rfl rfl
theorem wd_7_115 : (Jvm.Cond.code ({ cls := "RiddlePressModel", name := "credits", desc := "(I)I" } : Jvm.MethodName) prog_11_method_76_code (2 : Nat) (Option.some Jvm.ClassFile.FieldType.int)) ∈ ab_T := ab_w7 115 rfl rfl
theorem wd_7_116 : (Jvm.Cond.methodLink "RiddlePressLaw" (206 : Nat) ({ cls := "RiddlePressModel", name := "has", desc := "(II)Z" } : Jvm.MethodName)) ∈ ab_T := ab_w7 116 rfl rfl
theorem wd_7_117 : (Jvm.Cond.instanceMethod ({ cls := "RiddlePressModel", name := "has", desc := "(II)Z" } : Jvm.MethodName)) ∈ ab_T := ab_w7 117 rfl rfl
theorem wd_7_118 : (Jvm.Cond.selects "RiddlePressModel" ({ cls := "RiddlePressModel", name := "has", desc := "(II)Z" } : Jvm.MethodName) ({ cls := "RiddlePressModel", name := "has", desc := "(II)Z" } : Jvm.MethodName)) ∈ ab_T := ab_w7 118 rfl rfl
theorem wd_7_119 : (Jvm.Cond.code ({ cls := "RiddlePressModel", name := "has", desc := "(II)Z" } : Jvm.MethodName) prog_11_method_77_code (3 : Nat) (Option.some Jvm.ClassFile.FieldType.boolean)) ∈ ab_T := ab_w7 119 rfl rfl
theorem wd_7_120 : (Jvm.Cond.methodLink "RiddlePressLaw" (211 : Nat) ({ cls := "RiddlePressModel", name := "press", desc := "()J" } : Jvm.MethodName)) ∈ ab_T := ab_w7 120 rfl rfl
theorem wd_7_121 : (Jvm.Cond.instanceMethod ({ cls := "RiddlePressModel", name := "press", desc := "()J" } : Jvm.MethodName)) ∈ ab_T := ab_w7 121 rfl rfl
theorem wd_7_122 : (Jvm.Cond.selects "RiddlePressModel" ({ cls := "RiddlePressModel", name := "press", desc := "()J" } : Jvm.MethodName) ({ cls := "RiddlePressModel", name := "press", desc := "()J" } : Jvm.MethodName)) ∈ ab_T := ab_w7 122 rfl rfl
theorem wd_7_123 : (Jvm.Cond.code ({ cls := "RiddlePressModel", name := "press", desc := "()J" } : Jvm.MethodName) prog_11_method_78_code (1 : Nat) (Option.some Jvm.ClassFile.FieldType.long)) ∈ ab_T := ab_w7 123 rfl rfl
theorem wd_7_124 : (Jvm.Cond.methodLink "RiddlePressLaw" (216 : Nat) ({ cls := "RiddlePressModel", name := "isClean", desc := "()Z" } : Jvm.MethodName)) ∈ ab_T := ab_w7 124 rfl rfl
theorem wd_7_125 : (Jvm.Cond.instanceMethod ({ cls := "RiddlePressModel", name := "isClean", desc := "()Z" } : Jvm.MethodName)) ∈ ab_T := ab_w7 125 rfl rfl
theorem wd_7_126 : (Jvm.Cond.selects "RiddlePressModel" ({ cls := "RiddlePressModel", name := "isClean", desc := "()Z" } : Jvm.MethodName) ({ cls := "RiddlePressModel", name := "isClean", desc := "()Z" } : Jvm.MethodName)) ∈ ab_T := ab_w7 126 rfl rfl
theorem wd_7_127 : (Jvm.Cond.code ({ cls := "RiddlePressModel", name := "isClean", desc := "()Z" } : Jvm.MethodName) prog_11_method_80_code (4 : Nat) (Option.some Jvm.ClassFile.FieldType.boolean)) ∈ ab_T := ab_w7 127 rfl rfl
theorem wd_7_132 : (Jvm.Cond.methodLink "RiddlePressLaw" (220 : Nat) ({ cls := "RiddlePressModel", name := "provedShare", desc := "()F" } : Jvm.MethodName)) ∈ ab_T := ab_w7 132 rfl rfl
theorem wd_7_133 : (Jvm.Cond.instanceMethod ({ cls := "RiddlePressModel", name := "provedShare", desc := "()F" } : Jvm.MethodName)) ∈ ab_T := ab_w7 133 rfl rfl
theorem wd_7_134 : (Jvm.Cond.selects "RiddlePressModel" ({ cls := "RiddlePressModel", name := "provedShare", desc := "()F" } : Jvm.MethodName) ({ cls := "RiddlePressModel", name := "provedShare", desc := "()F" } : Jvm.MethodName)) ∈ ab_T := ab_w7 134 rfl rfl
theorem wd_7_135 : (Jvm.Cond.code ({ cls := "RiddlePressModel", name := "provedShare", desc := "()F" } : Jvm.MethodName) prog_11_method_81_code (3 : Nat) (Option.some Jvm.ClassFile.FieldType.float)) ∈ ab_T := ab_w7 135 rfl rfl
theorem wd_7_136 : (Jvm.Cond.methodLink "RiddlePressLaw" (223 : Nat) ({ cls := "RiddlePressModel", name := "meanSteps", desc := "()D" } : Jvm.MethodName)) ∈ ab_T := ab_w7 136 rfl rfl
theorem wd_7_137 : (Jvm.Cond.instanceMethod ({ cls := "RiddlePressModel", name := "meanSteps", desc := "()D" } : Jvm.MethodName)) ∈ ab_T := ab_w7 137 rfl rfl
theorem wd_7_138 : (Jvm.Cond.selects "RiddlePressModel" ({ cls := "RiddlePressModel", name := "meanSteps", desc := "()D" } : Jvm.MethodName) ({ cls := "RiddlePressModel", name := "meanSteps", desc := "()D" } : Jvm.MethodName)) ∈ ab_T := ab_w7 138 rfl rfl
theorem wd_7_139 : (Jvm.Cond.code ({ cls := "RiddlePressModel", name := "meanSteps", desc := "()D" } : Jvm.MethodName) prog_11_method_82_code (4 : Nat) (Option.some Jvm.ClassFile.FieldType.double)) ∈ ab_T := ab_w7 139 rfl rfl
theorem wd_7_140 : (Jvm.Cond.arrayClass Jvm.ClassFile.FieldType.long) ∈ ab_T := ab_w7 140 rfl rfl
theorem wd_7_141 : (Jvm.Cond.arrayClass Jvm.ClassFile.FieldType.double) ∈ ab_T := ab_w7 141 rfl rfl
theorem dL_riddle_0 : decode cL_riddle 0 = .ok (.aload_n 2, 1) := by decide +kernel
theorem dL_riddle_1 : decode cL_riddle 1 = .ok (.iconst 0, 1) := by decide +kernel
theorem dL_riddle_2 : decode cL_riddle 2 = .ok (.aload_n 0, 1) := by decide +kernel
theorem dL_riddle_3 : decode cL_riddle 3 = .ok (.iload_n 1, 1) := by decide +kernel
theorem dL_riddle_4 : decode cL_riddle 4 = .ok (.invokevirtual 7, 3) := by decide +kernel
theorem dL_riddle_7 : decode cL_riddle 7 = .ok (.i2l, 1) := by decide +kernel
theorem dL_riddle_8 : decode cL_riddle 8 = .ok (.lastore, 1) := by decide +kernel
theorem dL_riddle_9 : decode cL_riddle 9 = .ok (.goto 9, 3) := by decide +kernel
theorem dL_riddle_12 : decode cL_riddle 12 = .ok (.astore_n 3, 1) := by decide +kernel
theorem dL_riddle_13 : decode cL_riddle 13 = .ok (.iconst 1, 1) := by decide +kernel
theorem dL_riddle_14 : decode cL_riddle 14 = .ok (.ireturn, 1) := by decide +kernel
theorem dL_riddle_15 : decode cL_riddle 15 = .ok (.astore_n 3, 1) := by decide +kernel
theorem dL_riddle_16 : decode cL_riddle 16 = .ok (.iconst 2, 1) := by decide +kernel
theorem dL_riddle_17 : decode cL_riddle 17 = .ok (.ireturn, 1) := by decide +kernel
theorem dL_riddle_18 : decode cL_riddle 18 = .ok (.iconst 0, 1) := by decide +kernel
theorem dL_riddle_19 : decode cL_riddle 19 = .ok (.ireturn, 1) := by decide +kernel
theorem dL_clue_0 : decode cL_clue 0 = .ok (.aload 6, 2) := by decide +kernel
theorem dL_clue_2 : decode cL_clue 2 = .ok (.iconst 0, 1) := by decide +kernel
theorem dL_clue_3 : decode cL_clue 3 = .ok (.aload_n 0, 1) := by decide +kernel
theorem dL_clue_4 : decode cL_clue 4 = .ok (.iload_n 1, 1) := by decide +kernel
theorem dL_clue_5 : decode cL_clue 5 = .ok (.iload_n 2, 1) := by decide +kernel
theorem dL_clue_6 : decode cL_clue 6 = .ok (.iload_n 3, 1) := by decide +kernel
theorem dL_clue_7 : decode cL_clue 7 = .ok (.iload 4, 2) := by decide +kernel
theorem dL_clue_9 : decode cL_clue 9 = .ok (.iload 5, 2) := by decide +kernel
theorem dL_clue_11 : decode cL_clue 11 = .ok (.invokevirtual 17, 3) := by decide +kernel
theorem dL_clue_14 : decode cL_clue 14 = .ok (.i2l, 1) := by decide +kernel
theorem dL_clue_15 : decode cL_clue 15 = .ok (.lastore, 1) := by decide +kernel
theorem dL_clue_16 : decode cL_clue 16 = .ok (.goto 19, 3) := by decide +kernel
theorem dL_clue_19 : decode cL_clue 19 = .ok (.astore 7, 2) := by decide +kernel
theorem dL_clue_21 : decode cL_clue 21 = .ok (.iconst 1, 1) := by decide +kernel
theorem dL_clue_22 : decode cL_clue 22 = .ok (.ireturn, 1) := by decide +kernel
theorem dL_clue_23 : decode cL_clue 23 = .ok (.astore 7, 2) := by decide +kernel
theorem dL_clue_25 : decode cL_clue 25 = .ok (.iconst 2, 1) := by decide +kernel
theorem dL_clue_26 : decode cL_clue 26 = .ok (.ireturn, 1) := by decide +kernel
theorem dL_clue_27 : decode cL_clue 27 = .ok (.astore 7, 2) := by decide +kernel
theorem dL_clue_29 : decode cL_clue 29 = .ok (.iconst 3, 1) := by decide +kernel
theorem dL_clue_30 : decode cL_clue 30 = .ok (.ireturn, 1) := by decide +kernel
theorem dL_clue_31 : decode cL_clue 31 = .ok (.astore 7, 2) := by decide +kernel
theorem dL_clue_33 : decode cL_clue 33 = .ok (.iconst 4, 1) := by decide +kernel
theorem dL_clue_34 : decode cL_clue 34 = .ok (.ireturn, 1) := by decide +kernel
theorem dL_clue_35 : decode cL_clue 35 = .ok (.iconst 0, 1) := by decide +kernel
theorem dL_clue_36 : decode cL_clue 36 = .ok (.ireturn, 1) := by decide +kernel
theorem dL_answers_0 : decode cL_answers 0 = .ok (.aload_n 2, 1) := by decide +kernel
theorem dL_answers_1 : decode cL_answers 1 = .ok (.iconst 0, 1) := by decide +kernel
theorem dL_answers_2 : decode cL_answers 2 = .ok (.aload_n 0, 1) := by decide +kernel
theorem dL_answers_3 : decode cL_answers 3 = .ok (.iload_n 1, 1) := by decide +kernel
theorem dL_answers_4 : decode cL_answers 4 = .ok (.invokevirtual 25, 3) := by decide +kernel
theorem dL_answers_7 : decode cL_answers 7 = .ok (.i2l, 1) := by decide +kernel
theorem dL_answers_8 : decode cL_answers 8 = .ok (.lastore, 1) := by decide +kernel
theorem dL_answers_9 : decode cL_answers 9 = .ok (.goto 6, 3) := by decide +kernel
theorem dL_answers_12 : decode cL_answers 12 = .ok (.astore_n 3, 1) := by decide +kernel
theorem dL_answers_13 : decode cL_answers 13 = .ok (.iconst 1, 1) := by decide +kernel
theorem dL_answers_14 : decode cL_answers 14 = .ok (.ireturn, 1) := by decide +kernel
theorem dL_answers_15 : decode cL_answers 15 = .ok (.iconst 0, 1) := by decide +kernel
theorem dL_answers_16 : decode cL_answers 16 = .ok (.ireturn, 1) := by decide +kernel
theorem dL_answer_0 : decode cL_answer 0 = .ok (.aload_n 3, 1) := by decide +kernel
theorem dL_answer_1 : decode cL_answer 1 = .ok (.iconst 0, 1) := by decide +kernel
theorem dL_answer_2 : decode cL_answer 2 = .ok (.aload_n 0, 1) := by decide +kernel
theorem dL_answer_3 : decode cL_answer 3 = .ok (.iload_n 1, 1) := by decide +kernel
theorem dL_answer_4 : decode cL_answer 4 = .ok (.iload_n 2, 1) := by decide +kernel
theorem dL_answer_5 : decode cL_answer 5 = .ok (.invokevirtual 28, 3) := by decide +kernel
theorem dL_answer_8 : decode cL_answer 8 = .ok (.i2l, 1) := by decide +kernel
theorem dL_answer_9 : decode cL_answer 9 = .ok (.lastore, 1) := by decide +kernel
theorem dL_answer_10 : decode cL_answer 10 = .ok (.goto 11, 3) := by decide +kernel
theorem dL_answer_13 : decode cL_answer 13 = .ok (.astore 4, 2) := by decide +kernel
theorem dL_answer_15 : decode cL_answer 15 = .ok (.iconst 1, 1) := by decide +kernel
theorem dL_answer_16 : decode cL_answer 16 = .ok (.ireturn, 1) := by decide +kernel
theorem dL_answer_17 : decode cL_answer 17 = .ok (.astore 4, 2) := by decide +kernel
theorem dL_answer_19 : decode cL_answer 19 = .ok (.iconst 2, 1) := by decide +kernel
theorem dL_answer_20 : decode cL_answer 20 = .ok (.ireturn, 1) := by decide +kernel
theorem dL_answer_21 : decode cL_answer 21 = .ok (.iconst 0, 1) := by decide +kernel
theorem dL_answer_22 : decode cL_answer 22 = .ok (.ireturn, 1) := by decide +kernel
theorem dL_prove_0 : decode cL_prove 0 = .ok (.aload_n 2, 1) := by decide +kernel
theorem dL_prove_1 : decode cL_prove 1 = .ok (.iconst 0, 1) := by decide +kernel
theorem dL_prove_2 : decode cL_prove 2 = .ok (.aload_n 0, 1) := by decide +kernel
theorem dL_prove_3 : decode cL_prove 3 = .ok (.iload_n 1, 1) := by decide +kernel
theorem dL_prove_4 : decode cL_prove 4 = .ok (.invokevirtual 34, 3) := by decide +kernel
theorem dL_prove_7 : decode cL_prove 7 = .ok (.i2l, 1) := by decide +kernel
theorem dL_prove_8 : decode cL_prove 8 = .ok (.lastore, 1) := by decide +kernel
theorem dL_prove_9 : decode cL_prove 9 = .ok (.goto 9, 3) := by decide +kernel
theorem dL_prove_12 : decode cL_prove 12 = .ok (.astore_n 3, 1) := by decide +kernel
theorem dL_prove_13 : decode cL_prove 13 = .ok (.iconst 1, 1) := by decide +kernel
theorem dL_prove_14 : decode cL_prove 14 = .ok (.ireturn, 1) := by decide +kernel
theorem dL_prove_15 : decode cL_prove 15 = .ok (.astore_n 3, 1) := by decide +kernel
theorem dL_prove_16 : decode cL_prove 16 = .ok (.iconst 2, 1) := by decide +kernel
theorem dL_prove_17 : decode cL_prove 17 = .ok (.ireturn, 1) := by decide +kernel
theorem dL_prove_18 : decode cL_prove 18 = .ok (.iconst 0, 1) := by decide +kernel
theorem dL_prove_19 : decode cL_prove 19 = .ok (.ireturn, 1) := by decide +kernel
theorem dL_steps_0 : decode cL_steps 0 = .ok (.aload_n 2, 1) := by decide +kernel
theorem dL_steps_1 : decode cL_steps 1 = .ok (.iconst 0, 1) := by decide +kernel
theorem dL_steps_2 : decode cL_steps 2 = .ok (.aload_n 0, 1) := by decide +kernel
theorem dL_steps_3 : decode cL_steps 3 = .ok (.iload_n 1, 1) := by decide +kernel
theorem dL_steps_4 : decode cL_steps 4 = .ok (.invokevirtual 38, 3) := by decide +kernel
theorem dL_steps_7 : decode cL_steps 7 = .ok (.i2l, 1) := by decide +kernel
theorem dL_steps_8 : decode cL_steps 8 = .ok (.lastore, 1) := by decide +kernel
theorem dL_steps_9 : decode cL_steps 9 = .ok (.goto 9, 3) := by decide +kernel
theorem dL_steps_12 : decode cL_steps 12 = .ok (.astore_n 3, 1) := by decide +kernel
theorem dL_steps_13 : decode cL_steps 13 = .ok (.iconst 1, 1) := by decide +kernel
theorem dL_steps_14 : decode cL_steps 14 = .ok (.ireturn, 1) := by decide +kernel
theorem dL_steps_15 : decode cL_steps 15 = .ok (.astore_n 3, 1) := by decide +kernel
theorem dL_steps_16 : decode cL_steps 16 = .ok (.iconst 2, 1) := by decide +kernel
theorem dL_steps_17 : decode cL_steps 17 = .ok (.ireturn, 1) := by decide +kernel
theorem dL_steps_18 : decode cL_steps 18 = .ok (.iconst 0, 1) := by decide +kernel
theorem dL_steps_19 : decode cL_steps 19 = .ok (.ireturn, 1) := by decide +kernel
theorem dL_ruleAt_0 : decode cL_ruleAt 0 = .ok (.aload_n 3, 1) := by decide +kernel
theorem dL_ruleAt_1 : decode cL_ruleAt 1 = .ok (.iconst 0, 1) := by decide +kernel
theorem dL_ruleAt_2 : decode cL_ruleAt 2 = .ok (.aload_n 0, 1) := by decide +kernel
theorem dL_ruleAt_3 : decode cL_ruleAt 3 = .ok (.iload_n 1, 1) := by decide +kernel
theorem dL_ruleAt_4 : decode cL_ruleAt 4 = .ok (.iload_n 2, 1) := by decide +kernel
theorem dL_ruleAt_5 : decode cL_ruleAt 5 = .ok (.invokevirtual 41, 3) := by decide +kernel
theorem dL_ruleAt_8 : decode cL_ruleAt 8 = .ok (.i2l, 1) := by decide +kernel
theorem dL_ruleAt_9 : decode cL_ruleAt 9 = .ok (.lastore, 1) := by decide +kernel
theorem dL_ruleAt_10 : decode cL_ruleAt 10 = .ok (.goto 11, 3) := by decide +kernel
theorem dL_ruleAt_13 : decode cL_ruleAt 13 = .ok (.astore 4, 2) := by decide +kernel
theorem dL_ruleAt_15 : decode cL_ruleAt 15 = .ok (.iconst 1, 1) := by decide +kernel
theorem dL_ruleAt_16 : decode cL_ruleAt 16 = .ok (.ireturn, 1) := by decide +kernel
theorem dL_ruleAt_17 : decode cL_ruleAt 17 = .ok (.astore 4, 2) := by decide +kernel
theorem dL_ruleAt_19 : decode cL_ruleAt 19 = .ok (.iconst 2, 1) := by decide +kernel
theorem dL_ruleAt_20 : decode cL_ruleAt 20 = .ok (.ireturn, 1) := by decide +kernel
theorem dL_ruleAt_21 : decode cL_ruleAt 21 = .ok (.iconst 0, 1) := by decide +kernel
theorem dL_ruleAt_22 : decode cL_ruleAt 22 = .ok (.ireturn, 1) := by decide +kernel
theorem dL_causeAt_0 : decode cL_causeAt 0 = .ok (.aload_n 3, 1) := by decide +kernel
theorem dL_causeAt_1 : decode cL_causeAt 1 = .ok (.iconst 0, 1) := by decide +kernel
theorem dL_causeAt_2 : decode cL_causeAt 2 = .ok (.aload_n 0, 1) := by decide +kernel
theorem dL_causeAt_3 : decode cL_causeAt 3 = .ok (.iload_n 1, 1) := by decide +kernel
theorem dL_causeAt_4 : decode cL_causeAt 4 = .ok (.iload_n 2, 1) := by decide +kernel
theorem dL_causeAt_5 : decode cL_causeAt 5 = .ok (.invokevirtual 44, 3) := by decide +kernel
theorem dL_causeAt_8 : decode cL_causeAt 8 = .ok (.i2l, 1) := by decide +kernel
theorem dL_causeAt_9 : decode cL_causeAt 9 = .ok (.lastore, 1) := by decide +kernel
theorem dL_causeAt_10 : decode cL_causeAt 10 = .ok (.goto 11, 3) := by decide +kernel
theorem dL_causeAt_13 : decode cL_causeAt 13 = .ok (.astore 4, 2) := by decide +kernel
theorem dL_causeAt_15 : decode cL_causeAt 15 = .ok (.iconst 1, 1) := by decide +kernel
theorem dL_causeAt_16 : decode cL_causeAt 16 = .ok (.ireturn, 1) := by decide +kernel
theorem dL_causeAt_17 : decode cL_causeAt 17 = .ok (.astore 4, 2) := by decide +kernel
theorem dL_causeAt_19 : decode cL_causeAt 19 = .ok (.iconst 2, 1) := by decide +kernel
theorem dL_causeAt_20 : decode cL_causeAt 20 = .ok (.ireturn, 1) := by decide +kernel
theorem dL_causeAt_21 : decode cL_causeAt 21 = .ok (.iconst 0, 1) := by decide +kernel
theorem dL_causeAt_22 : decode cL_causeAt 22 = .ok (.ireturn, 1) := by decide +kernel
theorem dL_takenAt_0 : decode cL_takenAt 0 = .ok (.aload_n 3, 1) := by decide +kernel
theorem dL_takenAt_1 : decode cL_takenAt 1 = .ok (.iconst 0, 1) := by decide +kernel
theorem dL_takenAt_2 : decode cL_takenAt 2 = .ok (.aload_n 0, 1) := by decide +kernel
theorem dL_takenAt_3 : decode cL_takenAt 3 = .ok (.iload_n 1, 1) := by decide +kernel
theorem dL_takenAt_4 : decode cL_takenAt 4 = .ok (.iload_n 2, 1) := by decide +kernel
theorem dL_takenAt_5 : decode cL_takenAt 5 = .ok (.invokevirtual 47, 3) := by decide +kernel
theorem dL_takenAt_8 : decode cL_takenAt 8 = .ok (.i2l, 1) := by decide +kernel
theorem dL_takenAt_9 : decode cL_takenAt 9 = .ok (.lastore, 1) := by decide +kernel
theorem dL_takenAt_10 : decode cL_takenAt 10 = .ok (.goto 11, 3) := by decide +kernel
theorem dL_takenAt_13 : decode cL_takenAt 13 = .ok (.astore 4, 2) := by decide +kernel
theorem dL_takenAt_15 : decode cL_takenAt 15 = .ok (.iconst 1, 1) := by decide +kernel
theorem dL_takenAt_16 : decode cL_takenAt 16 = .ok (.ireturn, 1) := by decide +kernel
theorem dL_takenAt_17 : decode cL_takenAt 17 = .ok (.astore 4, 2) := by decide +kernel
theorem dL_takenAt_19 : decode cL_takenAt 19 = .ok (.iconst 2, 1) := by decide +kernel
theorem dL_takenAt_20 : decode cL_takenAt 20 = .ok (.ireturn, 1) := by decide +kernel
theorem dL_takenAt_21 : decode cL_takenAt 21 = .ok (.iconst 0, 1) := by decide +kernel
theorem dL_takenAt_22 : decode cL_takenAt 22 = .ok (.ireturn, 1) := by decide +kernel
theorem dL_leansOn_0 : decode cL_leansOn 0 = .ok (.aload_n 3, 1) := by decide +kernel
theorem dL_leansOn_1 : decode cL_leansOn 1 = .ok (.iconst 0, 1) := by decide +kernel
theorem dL_leansOn_2 : decode cL_leansOn 2 = .ok (.aload_n 0, 1) := by decide +kernel
theorem dL_leansOn_3 : decode cL_leansOn 3 = .ok (.iload_n 1, 1) := by decide +kernel
theorem dL_leansOn_4 : decode cL_leansOn 4 = .ok (.iload_n 2, 1) := by decide +kernel
theorem dL_leansOn_5 : decode cL_leansOn 5 = .ok (.invokevirtual 50, 3) := by decide +kernel
theorem dL_leansOn_8 : decode cL_leansOn 8 = .ok (.ifCond .eq 7, 3) := by decide +kernel
theorem dL_leansOn_11 : decode cL_leansOn 11 = .ok (.lconst 1, 1) := by decide +kernel
theorem dL_leansOn_12 : decode cL_leansOn 12 = .ok (.goto 4, 3) := by decide +kernel
theorem dL_leansOn_15 : decode cL_leansOn 15 = .ok (.lconst 0, 1) := by decide +kernel
theorem dL_leansOn_16 : decode cL_leansOn 16 = .ok (.lastore, 1) := by decide +kernel
theorem dL_leansOn_17 : decode cL_leansOn 17 = .ok (.goto 7, 3) := by decide +kernel
theorem dL_leansOn_20 : decode cL_leansOn 20 = .ok (.astore 4, 2) := by decide +kernel
theorem dL_leansOn_22 : decode cL_leansOn 22 = .ok (.iconst 1, 1) := by decide +kernel
theorem dL_leansOn_23 : decode cL_leansOn 23 = .ok (.ireturn, 1) := by decide +kernel
theorem dL_leansOn_24 : decode cL_leansOn 24 = .ok (.iconst 0, 1) := by decide +kernel
theorem dL_leansOn_25 : decode cL_leansOn 25 = .ok (.ireturn, 1) := by decide +kernel
theorem dL_state_0 : decode cL_state 0 = .ok (.aload_n 2, 1) := by decide +kernel
theorem dL_state_1 : decode cL_state 1 = .ok (.iconst 0, 1) := by decide +kernel
theorem dL_state_2 : decode cL_state 2 = .ok (.aload_n 0, 1) := by decide +kernel
theorem dL_state_3 : decode cL_state 3 = .ok (.iload_n 1, 1) := by decide +kernel
theorem dL_state_4 : decode cL_state 4 = .ok (.invokevirtual 54, 3) := by decide +kernel
theorem dL_state_7 : decode cL_state 7 = .ok (.i2l, 1) := by decide +kernel
theorem dL_state_8 : decode cL_state 8 = .ok (.lastore, 1) := by decide +kernel
theorem dL_state_9 : decode cL_state 9 = .ok (.goto 6, 3) := by decide +kernel
theorem dL_state_12 : decode cL_state 12 = .ok (.astore_n 3, 1) := by decide +kernel
theorem dL_state_13 : decode cL_state 13 = .ok (.iconst 1, 1) := by decide +kernel
theorem dL_state_14 : decode cL_state 14 = .ok (.ireturn, 1) := by decide +kernel
theorem dL_state_15 : decode cL_state 15 = .ok (.iconst 0, 1) := by decide +kernel
theorem dL_state_16 : decode cL_state 16 = .ok (.ireturn, 1) := by decide +kernel
theorem dL_rule_0 : decode cL_rule 0 = .ok (.aload 5, 2) := by decide +kernel
theorem dL_rule_2 : decode cL_rule 2 = .ok (.iconst 0, 1) := by decide +kernel
theorem dL_rule_3 : decode cL_rule 3 = .ok (.aload_n 0, 1) := by decide +kernel
theorem dL_rule_4 : decode cL_rule 4 = .ok (.iload_n 1, 1) := by decide +kernel
theorem dL_rule_5 : decode cL_rule 5 = .ok (.iload_n 2, 1) := by decide +kernel
theorem dL_rule_6 : decode cL_rule 6 = .ok (.iload_n 3, 1) := by decide +kernel
theorem dL_rule_7 : decode cL_rule 7 = .ok (.iload 4, 2) := by decide +kernel
theorem dL_rule_9 : decode cL_rule 9 = .ok (.invokevirtual 57, 3) := by decide +kernel
theorem dL_rule_12 : decode cL_rule 12 = .ok (.i2l, 1) := by decide +kernel
theorem dL_rule_13 : decode cL_rule 13 = .ok (.lastore, 1) := by decide +kernel
theorem dL_rule_14 : decode cL_rule 14 = .ok (.goto 11, 3) := by decide +kernel
theorem dL_rule_17 : decode cL_rule 17 = .ok (.astore 6, 2) := by decide +kernel
theorem dL_rule_19 : decode cL_rule 19 = .ok (.iconst 1, 1) := by decide +kernel
theorem dL_rule_20 : decode cL_rule 20 = .ok (.ireturn, 1) := by decide +kernel
theorem dL_rule_21 : decode cL_rule 21 = .ok (.astore 6, 2) := by decide +kernel
theorem dL_rule_23 : decode cL_rule 23 = .ok (.iconst 2, 1) := by decide +kernel
theorem dL_rule_24 : decode cL_rule 24 = .ok (.ireturn, 1) := by decide +kernel
theorem dL_rule_25 : decode cL_rule 25 = .ok (.iconst 0, 1) := by decide +kernel
theorem dL_rule_26 : decode cL_rule 26 = .ok (.ireturn, 1) := by decide +kernel
theorem dL_stands_0 : decode cL_stands 0 = .ok (.aload_n 2, 1) := by decide +kernel
theorem dL_stands_1 : decode cL_stands 1 = .ok (.iconst 0, 1) := by decide +kernel
theorem dL_stands_2 : decode cL_stands 2 = .ok (.aload_n 0, 1) := by decide +kernel
theorem dL_stands_3 : decode cL_stands 3 = .ok (.iload_n 1, 1) := by decide +kernel
theorem dL_stands_4 : decode cL_stands 4 = .ok (.invokevirtual 61, 3) := by decide +kernel
theorem dL_stands_7 : decode cL_stands 7 = .ok (.ifCond .eq 7, 3) := by decide +kernel
theorem dL_stands_10 : decode cL_stands 10 = .ok (.lconst 1, 1) := by decide +kernel
theorem dL_stands_11 : decode cL_stands 11 = .ok (.goto 4, 3) := by decide +kernel
theorem dL_stands_14 : decode cL_stands 14 = .ok (.lconst 0, 1) := by decide +kernel
theorem dL_stands_15 : decode cL_stands 15 = .ok (.lastore, 1) := by decide +kernel
theorem dL_stands_16 : decode cL_stands 16 = .ok (.goto 6, 3) := by decide +kernel
theorem dL_stands_19 : decode cL_stands 19 = .ok (.astore_n 3, 1) := by decide +kernel
theorem dL_stands_20 : decode cL_stands 20 = .ok (.iconst 1, 1) := by decide +kernel
theorem dL_stands_21 : decode cL_stands 21 = .ok (.ireturn, 1) := by decide +kernel
theorem dL_stands_22 : decode cL_stands 22 = .ok (.iconst 0, 1) := by decide +kernel
theorem dL_stands_23 : decode cL_stands 23 = .ok (.ireturn, 1) := by decide +kernel
theorem dL_counterexample_0 : decode cL_counterexample 0 = .ok (.aload_n 2, 1) := by decide +kernel
theorem dL_counterexample_1 : decode cL_counterexample 1 = .ok (.iconst 0, 1) := by decide +kernel
theorem dL_counterexample_2 : decode cL_counterexample 2 = .ok (.aload_n 0, 1) := by decide +kernel
theorem dL_counterexample_3 : decode cL_counterexample 3 = .ok (.iload_n 1, 1) := by decide +kernel
theorem dL_counterexample_4 : decode cL_counterexample 4 = .ok (.invokevirtual 65, 3) := by decide +kernel
theorem dL_counterexample_7 : decode cL_counterexample 7 = .ok (.i2l, 1) := by decide +kernel
theorem dL_counterexample_8 : decode cL_counterexample 8 = .ok (.lastore, 1) := by decide +kernel
theorem dL_counterexample_9 : decode cL_counterexample 9 = .ok (.goto 9, 3) := by decide +kernel
theorem dL_counterexample_12 : decode cL_counterexample 12 = .ok (.astore_n 3, 1) := by decide +kernel
theorem dL_counterexample_13 : decode cL_counterexample 13 = .ok (.iconst 1, 1) := by decide +kernel
theorem dL_counterexample_14 : decode cL_counterexample 14 = .ok (.ireturn, 1) := by decide +kernel
theorem dL_counterexample_15 : decode cL_counterexample 15 = .ok (.astore_n 3, 1) := by decide +kernel
theorem dL_counterexample_16 : decode cL_counterexample 16 = .ok (.iconst 2, 1) := by decide +kernel
theorem dL_counterexample_17 : decode cL_counterexample 17 = .ok (.ireturn, 1) := by decide +kernel
theorem dL_counterexample_18 : decode cL_counterexample 18 = .ok (.iconst 0, 1) := by decide +kernel
theorem dL_counterexample_19 : decode cL_counterexample 19 = .ok (.ireturn, 1) := by decide +kernel
theorem dL_fall_0 : decode cL_fall 0 = .ok (.aload_n 2, 1) := by decide +kernel
theorem dL_fall_1 : decode cL_fall 1 = .ok (.iconst 0, 1) := by decide +kernel
theorem dL_fall_2 : decode cL_fall 2 = .ok (.aload_n 0, 1) := by decide +kernel
theorem dL_fall_3 : decode cL_fall 3 = .ok (.iload_n 1, 1) := by decide +kernel
theorem dL_fall_4 : decode cL_fall 4 = .ok (.invokevirtual 68, 3) := by decide +kernel
theorem dL_fall_7 : decode cL_fall 7 = .ok (.i2l, 1) := by decide +kernel
theorem dL_fall_8 : decode cL_fall 8 = .ok (.lastore, 1) := by decide +kernel
theorem dL_fall_9 : decode cL_fall 9 = .ok (.goto 9, 3) := by decide +kernel
theorem dL_fall_12 : decode cL_fall 12 = .ok (.astore_n 3, 1) := by decide +kernel
theorem dL_fall_13 : decode cL_fall 13 = .ok (.iconst 1, 1) := by decide +kernel
theorem dL_fall_14 : decode cL_fall 14 = .ok (.ireturn, 1) := by decide +kernel
theorem dL_fall_15 : decode cL_fall 15 = .ok (.astore_n 3, 1) := by decide +kernel
theorem dL_fall_16 : decode cL_fall 16 = .ok (.iconst 2, 1) := by decide +kernel
theorem dL_fall_17 : decode cL_fall 17 = .ok (.ireturn, 1) := by decide +kernel
theorem dL_fall_18 : decode cL_fall 18 = .ok (.iconst 0, 1) := by decide +kernel
theorem dL_fall_19 : decode cL_fall 19 = .ok (.ireturn, 1) := by decide +kernel
theorem dL_issue_0 : decode cL_issue 0 = .ok (.aload_n 1, 1) := by decide +kernel
theorem dL_issue_1 : decode cL_issue 1 = .ok (.iconst 0, 1) := by decide +kernel
theorem dL_issue_2 : decode cL_issue 2 = .ok (.aload_n 0, 1) := by decide +kernel
theorem dL_issue_3 : decode cL_issue 3 = .ok (.invokevirtual 71, 3) := by decide +kernel
theorem dL_issue_6 : decode cL_issue 6 = .ok (.i2l, 1) := by decide +kernel
theorem dL_issue_7 : decode cL_issue 7 = .ok (.lastore, 1) := by decide +kernel
theorem dL_issue_8 : decode cL_issue 8 = .ok (.goto 6, 3) := by decide +kernel
theorem dL_issue_11 : decode cL_issue 11 = .ok (.astore_n 2, 1) := by decide +kernel
theorem dL_issue_12 : decode cL_issue 12 = .ok (.iconst 1, 1) := by decide +kernel
theorem dL_issue_13 : decode cL_issue 13 = .ok (.ireturn, 1) := by decide +kernel
theorem dL_issue_14 : decode cL_issue 14 = .ok (.iconst 0, 1) := by decide +kernel
theorem dL_issue_15 : decode cL_issue 15 = .ok (.ireturn, 1) := by decide +kernel
theorem dL_put_0 : decode cL_put 0 = .ok (.aload_n 3, 1) := by decide +kernel
theorem dL_put_1 : decode cL_put 1 = .ok (.iconst 0, 1) := by decide +kernel
theorem dL_put_2 : decode cL_put 2 = .ok (.aload_n 0, 1) := by decide +kernel
theorem dL_put_3 : decode cL_put 3 = .ok (.iload_n 1, 1) := by decide +kernel
theorem dL_put_4 : decode cL_put 4 = .ok (.iload_n 2, 1) := by decide +kernel
theorem dL_put_5 : decode cL_put 5 = .ok (.invokevirtual 75, 3) := by decide +kernel
theorem dL_put_8 : decode cL_put 8 = .ok (.i2l, 1) := by decide +kernel
theorem dL_put_9 : decode cL_put 9 = .ok (.lastore, 1) := by decide +kernel
theorem dL_put_10 : decode cL_put 10 = .ok (.goto 15, 3) := by decide +kernel
theorem dL_put_13 : decode cL_put 13 = .ok (.astore 4, 2) := by decide +kernel
theorem dL_put_15 : decode cL_put 15 = .ok (.iconst 1, 1) := by decide +kernel
theorem dL_put_16 : decode cL_put 16 = .ok (.ireturn, 1) := by decide +kernel
theorem dL_put_17 : decode cL_put 17 = .ok (.astore 4, 2) := by decide +kernel
theorem dL_put_19 : decode cL_put 19 = .ok (.iconst 2, 1) := by decide +kernel
theorem dL_put_20 : decode cL_put 20 = .ok (.ireturn, 1) := by decide +kernel
theorem dL_put_21 : decode cL_put 21 = .ok (.astore 4, 2) := by decide +kernel
theorem dL_put_23 : decode cL_put 23 = .ok (.iconst 3, 1) := by decide +kernel
theorem dL_put_24 : decode cL_put 24 = .ok (.ireturn, 1) := by decide +kernel
theorem dL_put_25 : decode cL_put 25 = .ok (.iconst 0, 1) := by decide +kernel
theorem dL_put_26 : decode cL_put 26 = .ok (.ireturn, 1) := by decide +kernel
theorem dL_publish_0 : decode cL_publish 0 = .ok (.aload_n 3, 1) := by decide +kernel
theorem dL_publish_1 : decode cL_publish 1 = .ok (.iconst 0, 1) := by decide +kernel
theorem dL_publish_2 : decode cL_publish 2 = .ok (.aload_n 0, 1) := by decide +kernel
theorem dL_publish_3 : decode cL_publish 3 = .ok (.iload_n 1, 1) := by decide +kernel
theorem dL_publish_4 : decode cL_publish 4 = .ok (.iload_n 2, 1) := by decide +kernel
theorem dL_publish_5 : decode cL_publish 5 = .ok (.invokevirtual 78, 3) := by decide +kernel
theorem dL_publish_8 : decode cL_publish 8 = .ok (.i2l, 1) := by decide +kernel
theorem dL_publish_9 : decode cL_publish 9 = .ok (.lastore, 1) := by decide +kernel
theorem dL_publish_10 : decode cL_publish 10 = .ok (.goto 15, 3) := by decide +kernel
theorem dL_publish_13 : decode cL_publish 13 = .ok (.astore 4, 2) := by decide +kernel
theorem dL_publish_15 : decode cL_publish 15 = .ok (.iconst 1, 1) := by decide +kernel
theorem dL_publish_16 : decode cL_publish 16 = .ok (.ireturn, 1) := by decide +kernel
theorem dL_publish_17 : decode cL_publish 17 = .ok (.astore 4, 2) := by decide +kernel
theorem dL_publish_19 : decode cL_publish 19 = .ok (.iconst 2, 1) := by decide +kernel
theorem dL_publish_20 : decode cL_publish 20 = .ok (.ireturn, 1) := by decide +kernel
theorem dL_publish_21 : decode cL_publish 21 = .ok (.astore 4, 2) := by decide +kernel
theorem dL_publish_23 : decode cL_publish 23 = .ok (.iconst 3, 1) := by decide +kernel
theorem dL_publish_24 : decode cL_publish 24 = .ok (.ireturn, 1) := by decide +kernel
theorem dL_publish_25 : decode cL_publish 25 = .ok (.iconst 0, 1) := by decide +kernel
theorem dL_publish_26 : decode cL_publish 26 = .ok (.ireturn, 1) := by decide +kernel
theorem dL_issueState_0 : decode cL_issueState 0 = .ok (.aload_n 2, 1) := by decide +kernel
theorem dL_issueState_1 : decode cL_issueState 1 = .ok (.iconst 0, 1) := by decide +kernel
theorem dL_issueState_2 : decode cL_issueState 2 = .ok (.aload_n 0, 1) := by decide +kernel
theorem dL_issueState_3 : decode cL_issueState 3 = .ok (.iload_n 1, 1) := by decide +kernel
theorem dL_issueState_4 : decode cL_issueState 4 = .ok (.invokevirtual 81, 3) := by decide +kernel
theorem dL_issueState_7 : decode cL_issueState 7 = .ok (.i2l, 1) := by decide +kernel
theorem dL_issueState_8 : decode cL_issueState 8 = .ok (.lastore, 1) := by decide +kernel
theorem dL_issueState_9 : decode cL_issueState 9 = .ok (.goto 6, 3) := by decide +kernel
theorem dL_issueState_12 : decode cL_issueState 12 = .ok (.astore_n 3, 1) := by decide +kernel
theorem dL_issueState_13 : decode cL_issueState 13 = .ok (.iconst 1, 1) := by decide +kernel
theorem dL_issueState_14 : decode cL_issueState 14 = .ok (.ireturn, 1) := by decide +kernel
theorem dL_issueState_15 : decode cL_issueState 15 = .ok (.iconst 0, 1) := by decide +kernel
theorem dL_issueState_16 : decode cL_issueState 16 = .ok (.ireturn, 1) := by decide +kernel
theorem dL_indexed_0 : decode cL_indexed 0 = .ok (.aload_n 2, 1) := by decide +kernel
theorem dL_indexed_1 : decode cL_indexed 1 = .ok (.iconst 0, 1) := by decide +kernel
theorem dL_indexed_2 : decode cL_indexed 2 = .ok (.aload_n 0, 1) := by decide +kernel
theorem dL_indexed_3 : decode cL_indexed 3 = .ok (.iload_n 1, 1) := by decide +kernel
theorem dL_indexed_4 : decode cL_indexed 4 = .ok (.invokevirtual 84, 3) := by decide +kernel
theorem dL_indexed_7 : decode cL_indexed 7 = .ok (.i2l, 1) := by decide +kernel
theorem dL_indexed_8 : decode cL_indexed 8 = .ok (.lastore, 1) := by decide +kernel
theorem dL_indexed_9 : decode cL_indexed 9 = .ok (.goto 6, 3) := by decide +kernel
theorem dL_indexed_12 : decode cL_indexed 12 = .ok (.astore_n 3, 1) := by decide +kernel
theorem dL_indexed_13 : decode cL_indexed 13 = .ok (.iconst 1, 1) := by decide +kernel
theorem dL_indexed_14 : decode cL_indexed 14 = .ok (.ireturn, 1) := by decide +kernel
theorem dL_indexed_15 : decode cL_indexed 15 = .ok (.iconst 0, 1) := by decide +kernel
theorem dL_indexed_16 : decode cL_indexed 16 = .ok (.ireturn, 1) := by decide +kernel
theorem dL_customer_0 : decode cL_customer 0 = .ok (.aload_n 1, 1) := by decide +kernel
theorem dL_customer_1 : decode cL_customer 1 = .ok (.iconst 0, 1) := by decide +kernel
theorem dL_customer_2 : decode cL_customer 2 = .ok (.aload_n 0, 1) := by decide +kernel
theorem dL_customer_3 : decode cL_customer 3 = .ok (.invokevirtual 87, 3) := by decide +kernel
theorem dL_customer_6 : decode cL_customer 6 = .ok (.i2l, 1) := by decide +kernel
theorem dL_customer_7 : decode cL_customer 7 = .ok (.lastore, 1) := by decide +kernel
theorem dL_customer_8 : decode cL_customer 8 = .ok (.goto 6, 3) := by decide +kernel
theorem dL_customer_11 : decode cL_customer 11 = .ok (.astore_n 2, 1) := by decide +kernel
theorem dL_customer_12 : decode cL_customer 12 = .ok (.iconst 1, 1) := by decide +kernel
theorem dL_customer_13 : decode cL_customer 13 = .ok (.ireturn, 1) := by decide +kernel
theorem dL_customer_14 : decode cL_customer 14 = .ok (.iconst 0, 1) := by decide +kernel
theorem dL_customer_15 : decode cL_customer 15 = .ok (.ireturn, 1) := by decide +kernel
theorem dL_deposit_0 : decode cL_deposit 0 = .ok (.aload_n 3, 1) := by decide +kernel
theorem dL_deposit_1 : decode cL_deposit 1 = .ok (.iconst 0, 1) := by decide +kernel
theorem dL_deposit_2 : decode cL_deposit 2 = .ok (.aload_n 0, 1) := by decide +kernel
theorem dL_deposit_3 : decode cL_deposit 3 = .ok (.iload_n 1, 1) := by decide +kernel
theorem dL_deposit_4 : decode cL_deposit 4 = .ok (.iload_n 2, 1) := by decide +kernel
theorem dL_deposit_5 : decode cL_deposit 5 = .ok (.invokevirtual 90, 3) := by decide +kernel
theorem dL_deposit_8 : decode cL_deposit 8 = .ok (.i2l, 1) := by decide +kernel
theorem dL_deposit_9 : decode cL_deposit 9 = .ok (.lastore, 1) := by decide +kernel
theorem dL_deposit_10 : decode cL_deposit 10 = .ok (.goto 15, 3) := by decide +kernel
theorem dL_deposit_13 : decode cL_deposit 13 = .ok (.astore 4, 2) := by decide +kernel
theorem dL_deposit_15 : decode cL_deposit 15 = .ok (.iconst 1, 1) := by decide +kernel
theorem dL_deposit_16 : decode cL_deposit 16 = .ok (.ireturn, 1) := by decide +kernel
theorem dL_deposit_17 : decode cL_deposit 17 = .ok (.astore 4, 2) := by decide +kernel
theorem dL_deposit_19 : decode cL_deposit 19 = .ok (.iconst 2, 1) := by decide +kernel
theorem dL_deposit_20 : decode cL_deposit 20 = .ok (.ireturn, 1) := by decide +kernel
theorem dL_deposit_21 : decode cL_deposit 21 = .ok (.astore 4, 2) := by decide +kernel
theorem dL_deposit_23 : decode cL_deposit 23 = .ok (.iconst 3, 1) := by decide +kernel
theorem dL_deposit_24 : decode cL_deposit 24 = .ok (.ireturn, 1) := by decide +kernel
theorem dL_deposit_25 : decode cL_deposit 25 = .ok (.iconst 0, 1) := by decide +kernel
theorem dL_deposit_26 : decode cL_deposit 26 = .ok (.ireturn, 1) := by decide +kernel
theorem dL_subscribe_0 : decode cL_subscribe 0 = .ok (.aload_n 3, 1) := by decide +kernel
theorem dL_subscribe_1 : decode cL_subscribe 1 = .ok (.iconst 0, 1) := by decide +kernel
theorem dL_subscribe_2 : decode cL_subscribe 2 = .ok (.aload_n 0, 1) := by decide +kernel
theorem dL_subscribe_3 : decode cL_subscribe 3 = .ok (.iload_n 1, 1) := by decide +kernel
theorem dL_subscribe_4 : decode cL_subscribe 4 = .ok (.iload_n 2, 1) := by decide +kernel
theorem dL_subscribe_5 : decode cL_subscribe 5 = .ok (.invokevirtual 95, 3) := by decide +kernel
theorem dL_subscribe_8 : decode cL_subscribe 8 = .ok (.i2l, 1) := by decide +kernel
theorem dL_subscribe_9 : decode cL_subscribe 9 = .ok (.lastore, 1) := by decide +kernel
theorem dL_subscribe_10 : decode cL_subscribe 10 = .ok (.goto 11, 3) := by decide +kernel
theorem dL_subscribe_13 : decode cL_subscribe 13 = .ok (.astore 4, 2) := by decide +kernel
theorem dL_subscribe_15 : decode cL_subscribe 15 = .ok (.iconst 1, 1) := by decide +kernel
theorem dL_subscribe_16 : decode cL_subscribe 16 = .ok (.ireturn, 1) := by decide +kernel
theorem dL_subscribe_17 : decode cL_subscribe 17 = .ok (.astore 4, 2) := by decide +kernel
theorem dL_subscribe_19 : decode cL_subscribe 19 = .ok (.iconst 2, 1) := by decide +kernel
theorem dL_subscribe_20 : decode cL_subscribe 20 = .ok (.ireturn, 1) := by decide +kernel
theorem dL_subscribe_21 : decode cL_subscribe 21 = .ok (.iconst 0, 1) := by decide +kernel
theorem dL_subscribe_22 : decode cL_subscribe 22 = .ok (.ireturn, 1) := by decide +kernel
theorem dL_buy_0 : decode cL_buy 0 = .ok (.aload_n 3, 1) := by decide +kernel
theorem dL_buy_1 : decode cL_buy 1 = .ok (.iconst 0, 1) := by decide +kernel
theorem dL_buy_2 : decode cL_buy 2 = .ok (.aload_n 0, 1) := by decide +kernel
theorem dL_buy_3 : decode cL_buy 3 = .ok (.iload_n 1, 1) := by decide +kernel
theorem dL_buy_4 : decode cL_buy 4 = .ok (.iload_n 2, 1) := by decide +kernel
theorem dL_buy_5 : decode cL_buy 5 = .ok (.invokevirtual 98, 3) := by decide +kernel
theorem dL_buy_8 : decode cL_buy 8 = .ok (.i2l, 1) := by decide +kernel
theorem dL_buy_9 : decode cL_buy 9 = .ok (.lastore, 1) := by decide +kernel
theorem dL_buy_10 : decode cL_buy 10 = .ok (.goto 11, 3) := by decide +kernel
theorem dL_buy_13 : decode cL_buy 13 = .ok (.astore 4, 2) := by decide +kernel
theorem dL_buy_15 : decode cL_buy 15 = .ok (.iconst 1, 1) := by decide +kernel
theorem dL_buy_16 : decode cL_buy 16 = .ok (.ireturn, 1) := by decide +kernel
theorem dL_buy_17 : decode cL_buy 17 = .ok (.astore 4, 2) := by decide +kernel
theorem dL_buy_19 : decode cL_buy 19 = .ok (.iconst 2, 1) := by decide +kernel
theorem dL_buy_20 : decode cL_buy 20 = .ok (.ireturn, 1) := by decide +kernel
theorem dL_buy_21 : decode cL_buy 21 = .ok (.iconst 0, 1) := by decide +kernel
theorem dL_buy_22 : decode cL_buy 22 = .ok (.ireturn, 1) := by decide +kernel
theorem dL_credits_0 : decode cL_credits 0 = .ok (.aload_n 2, 1) := by decide +kernel
theorem dL_credits_1 : decode cL_credits 1 = .ok (.iconst 0, 1) := by decide +kernel
theorem dL_credits_2 : decode cL_credits 2 = .ok (.aload_n 0, 1) := by decide +kernel
theorem dL_credits_3 : decode cL_credits 3 = .ok (.iload_n 1, 1) := by decide +kernel
theorem dL_credits_4 : decode cL_credits 4 = .ok (.invokevirtual 101, 3) := by decide +kernel
theorem dL_credits_7 : decode cL_credits 7 = .ok (.i2l, 1) := by decide +kernel
theorem dL_credits_8 : decode cL_credits 8 = .ok (.lastore, 1) := by decide +kernel
theorem dL_credits_9 : decode cL_credits 9 = .ok (.goto 6, 3) := by decide +kernel
theorem dL_credits_12 : decode cL_credits 12 = .ok (.astore_n 3, 1) := by decide +kernel
theorem dL_credits_13 : decode cL_credits 13 = .ok (.iconst 1, 1) := by decide +kernel
theorem dL_credits_14 : decode cL_credits 14 = .ok (.ireturn, 1) := by decide +kernel
theorem dL_credits_15 : decode cL_credits 15 = .ok (.iconst 0, 1) := by decide +kernel
theorem dL_credits_16 : decode cL_credits 16 = .ok (.ireturn, 1) := by decide +kernel
theorem dL_has_0 : decode cL_has 0 = .ok (.aload_n 3, 1) := by decide +kernel
theorem dL_has_1 : decode cL_has 1 = .ok (.iconst 0, 1) := by decide +kernel
theorem dL_has_2 : decode cL_has 2 = .ok (.aload_n 0, 1) := by decide +kernel
theorem dL_has_3 : decode cL_has 3 = .ok (.iload_n 1, 1) := by decide +kernel
theorem dL_has_4 : decode cL_has 4 = .ok (.iload_n 2, 1) := by decide +kernel
theorem dL_has_5 : decode cL_has 5 = .ok (.invokevirtual 104, 3) := by decide +kernel
theorem dL_has_8 : decode cL_has 8 = .ok (.ifCond .eq 7, 3) := by decide +kernel
theorem dL_has_11 : decode cL_has 11 = .ok (.lconst 1, 1) := by decide +kernel
theorem dL_has_12 : decode cL_has 12 = .ok (.goto 4, 3) := by decide +kernel
theorem dL_has_15 : decode cL_has 15 = .ok (.lconst 0, 1) := by decide +kernel
theorem dL_has_16 : decode cL_has 16 = .ok (.lastore, 1) := by decide +kernel
theorem dL_has_17 : decode cL_has 17 = .ok (.goto 7, 3) := by decide +kernel
theorem dL_has_20 : decode cL_has 20 = .ok (.astore 4, 2) := by decide +kernel
theorem dL_has_22 : decode cL_has 22 = .ok (.iconst 1, 1) := by decide +kernel
theorem dL_has_23 : decode cL_has 23 = .ok (.ireturn, 1) := by decide +kernel
theorem dL_has_24 : decode cL_has 24 = .ok (.iconst 0, 1) := by decide +kernel
theorem dL_has_25 : decode cL_has 25 = .ok (.ireturn, 1) := by decide +kernel
theorem dL_provedShare_0 : decode cL_provedShare 0 = .ok (.aload_n 1, 1) := by decide +kernel
theorem dL_provedShare_1 : decode cL_provedShare 1 = .ok (.iconst 0, 1) := by decide +kernel
theorem dL_provedShare_2 : decode cL_provedShare 2 = .ok (.aload_n 0, 1) := by decide +kernel
theorem dL_provedShare_3 : decode cL_provedShare 3 = .ok (.invokevirtual 107, 3) := by decide +kernel
theorem dL_provedShare_6 : decode cL_provedShare 6 = .ok (.f2d, 1) := by decide +kernel
theorem dL_provedShare_7 : decode cL_provedShare 7 = .ok (.dastore, 1) := by decide +kernel
theorem dL_provedShare_8 : decode cL_provedShare 8 = .ok (.goto 6, 3) := by decide +kernel
theorem dL_provedShare_11 : decode cL_provedShare 11 = .ok (.astore_n 2, 1) := by decide +kernel
theorem dL_provedShare_12 : decode cL_provedShare 12 = .ok (.iconst 1, 1) := by decide +kernel
theorem dL_provedShare_13 : decode cL_provedShare 13 = .ok (.ireturn, 1) := by decide +kernel
theorem dL_provedShare_14 : decode cL_provedShare 14 = .ok (.iconst 0, 1) := by decide +kernel
theorem dL_provedShare_15 : decode cL_provedShare 15 = .ok (.ireturn, 1) := by decide +kernel
theorem dL_meanSteps_0 : decode cL_meanSteps 0 = .ok (.aload_n 1, 1) := by decide +kernel
theorem dL_meanSteps_1 : decode cL_meanSteps 1 = .ok (.iconst 0, 1) := by decide +kernel
theorem dL_meanSteps_2 : decode cL_meanSteps 2 = .ok (.aload_n 0, 1) := by decide +kernel
theorem dL_meanSteps_3 : decode cL_meanSteps 3 = .ok (.invokevirtual 111, 3) := by decide +kernel
theorem dL_meanSteps_6 : decode cL_meanSteps 6 = .ok (.dastore, 1) := by decide +kernel
theorem dL_meanSteps_7 : decode cL_meanSteps 7 = .ok (.goto 6, 3) := by decide +kernel
theorem dL_meanSteps_10 : decode cL_meanSteps 10 = .ok (.astore_n 2, 1) := by decide +kernel
theorem dL_meanSteps_11 : decode cL_meanSteps 11 = .ok (.iconst 1, 1) := by decide +kernel
theorem dL_meanSteps_12 : decode cL_meanSteps 12 = .ok (.ireturn, 1) := by decide +kernel
theorem dL_meanSteps_13 : decode cL_meanSteps 13 = .ok (.iconst 0, 1) := by decide +kernel
theorem dL_meanSteps_14 : decode cL_meanSteps 14 = .ok (.ireturn, 1) := by decide +kernel
