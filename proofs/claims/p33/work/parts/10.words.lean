/-! words of the tables, by their places -/
theorem wd_0_1 : Cond.selects "java/util/ArrayList" ⟨"java/util/ArrayList", "add", "(Ljava/lang/Object;[Ljava/lang/Object;I)V"⟩ ⟨"java/util/ArrayList", "add", "(Ljava/lang/Object;[Ljava/lang/Object;I)V"⟩ ∈ ab_T := ab_w0 1 rfl rfl
theorem wd_0_2 : Cond.selects "java/util/ArrayList" ⟨"java/util/ArrayList", "grow", "()[Ljava/lang/Object;"⟩ ⟨"java/util/ArrayList", "grow", "()[Ljava/lang/Object;"⟩ ∈ ab_T := ab_w0 2 rfl rfl
theorem wd_0_3 : Cond.selects "java/util/ArrayList" ⟨"java/util/ArrayList", "grow", "(I)[Ljava/lang/Object;"⟩ ⟨"java/util/ArrayList", "grow", "(I)[Ljava/lang/Object;"⟩ ∈ ab_T := ab_w0 3 rfl rfl
theorem wd_0_4 : Cond.selects "RiddlePress" ⟨"RiddlePress", "findRiddle", "(I)LRiddlePress$Riddle;"⟩ ⟨"RiddlePress", "findRiddle", "(I)LRiddlePress$Riddle;"⟩ ∈ ab_T := ab_w0 4 rfl rfl
theorem wd_0_5 : Cond.selects "RiddlePress$OwnRule" ⟨"RiddlePress$OwnRule", "findCounterexampleOf", "(LRiddlePress$Order;LRiddlePress$Clue;I)V"⟩ ⟨"RiddlePress$OwnRule", "findCounterexampleOf", "(LRiddlePress$Order;LRiddlePress$Clue;I)V"⟩ ∈ ab_T := ab_w0 5 rfl rfl
theorem wd_0_6 : Cond.selects "RiddlePress$Order" ⟨"RiddlePress$Order", "exchange", "(II)V"⟩ ⟨"RiddlePress$Order", "exchange", "(II)V"⟩ ∈ ab_T := ab_w0 6 rfl rfl
theorem wd_0_7 : Cond.selects "RiddlePress" ⟨"RiddlePress", "findCustomer", "(I)LRiddlePress$Customer;"⟩ ⟨"RiddlePress", "findCustomer", "(I)LRiddlePress$Customer;"⟩ ∈ ab_T := ab_w0 7 rfl rfl
theorem wd_0_8 : Cond.selects "RiddlePress$Proof" ⟨"RiddlePress$Proof", "makeStepByClues", "(Ljava/util/List;)Z"⟩ ⟨"RiddlePress$Proof", "makeStepByClues", "(Ljava/util/List;)Z"⟩ ∈ ab_T := ab_w0 8 rfl rfl
theorem wd_0_9 : Cond.selects "RiddlePress$Places" ⟨"RiddlePress$Places", "keep", "(II)I"⟩ ⟨"RiddlePress$Places", "keep", "(II)I"⟩ ∈ ab_T := ab_w0 9 rfl rfl
theorem wd_0_10 : Cond.selects "RiddlePress$Places" ⟨"RiddlePress$Places", "takeByBefore", "(II)I"⟩ ⟨"RiddlePress$Places", "takeByBefore", "(II)I"⟩ ∈ ab_T := ab_w0 10 rfl rfl
theorem wd_0_11 : Cond.selects "RiddlePress$Places" ⟨"RiddlePress$Places", "setOf", "(I)I"⟩ ⟨"RiddlePress$Places", "setOf", "(I)I"⟩ ∈ ab_T := ab_w0 11 rfl rfl
theorem wd_0_12 : Cond.selects "RiddlePress$Places" ⟨"RiddlePress$Places", "takeByDistance", "(III)I"⟩ ⟨"RiddlePress$Places", "takeByDistance", "(III)I"⟩ ∈ ab_T := ab_w0 12 rfl rfl
theorem wd_0_13 : Cond.selects "RiddlePress$Places" ⟨"RiddlePress$Places", "takeByNextLeft", "(II)I"⟩ ⟨"RiddlePress$Places", "takeByNextLeft", "(II)I"⟩ ∈ ab_T := ab_w0 13 rfl rfl
theorem wd_0_14 : Cond.selects "RiddlePress$Places" ⟨"RiddlePress$Places", "takeByBetween", "(III)I"⟩ ⟨"RiddlePress$Places", "takeByBetween", "(III)I"⟩ ∈ ab_T := ab_w0 14 rfl rfl
theorem wd_0_15 : Cond.selects "RiddlePress$Proof" ⟨"RiddlePress$Proof", "addStep", "(III)Z"⟩ ⟨"RiddlePress$Proof", "addStep", "(III)Z"⟩ ∈ ab_T := ab_w0 15 rfl rfl
theorem wd_0_16 : Cond.selects "RiddlePress$Proof" ⟨"RiddlePress$Proof", "makeStepByPersons", "()Z"⟩ ⟨"RiddlePress$Proof", "makeStepByPersons", "()Z"⟩ ∈ ab_T := ab_w0 16 rfl rfl
theorem wd_0_17 : Cond.selects "RiddlePress$Places" ⟨"RiddlePress$Places", "takeFromOthers", "(III)I"⟩ ⟨"RiddlePress$Places", "takeFromOthers", "(III)I"⟩ ∈ ab_T := ab_w0 17 rfl rfl
theorem wd_0_18 : Cond.selects "RiddlePress$Proof" ⟨"RiddlePress$Proof", "makeStepByPlaces", "()Z"⟩ ⟨"RiddlePress$Proof", "makeStepByPlaces", "()Z"⟩ ∈ ab_T := ab_w0 18 rfl rfl
theorem wd_0_19 : Cond.selects "RiddlePress$Proof" ⟨"RiddlePress$Proof", "makeStepByPairs", "()Z"⟩ ⟨"RiddlePress$Proof", "makeStepByPairs", "()Z"⟩ ∈ ab_T := ab_w0 19 rfl rfl
theorem wd_0_20 : Cond.selects "RiddlePress$Proof" ⟨"RiddlePress$Proof", "makeStepByOwnRules", "(Ljava/util/List;Ljava/util/List;)Z"⟩ ⟨"RiddlePress$Proof", "makeStepByOwnRules", "(Ljava/util/List;Ljava/util/List;)Z"⟩ ∈ ab_T := ab_w0 20 rfl rfl
theorem wd_0_21 : Cond.selects "RiddlePress" ⟨"RiddlePress", "findIssue", "(I)LRiddlePress$Issue;"⟩ ⟨"RiddlePress", "findIssue", "(I)LRiddlePress$Issue;"⟩ ∈ ab_T := ab_w0 21 rfl rfl
theorem wd_0_22 : Cond.selects "RiddlePress" ⟨"RiddlePress", "countRiddlesOf", "(LRiddlePress$Issue;)I"⟩ ⟨"RiddlePress", "countRiddlesOf", "(LRiddlePress$Issue;)I"⟩ ∈ ab_T := ab_w0 22 rfl rfl
theorem wd_0_23 : Cond.selects "RiddlePress" ⟨"RiddlePress", "sellToSubscribers", "(II)I"⟩ ⟨"RiddlePress", "sellToSubscribers", "(II)I"⟩ ∈ ab_T := ab_w0 23 rfl rfl
theorem wd_0_24 : Cond.selects "RiddlePress" ⟨"RiddlePress", "sell", "(LRiddlePress$Customer;II)V"⟩ ⟨"RiddlePress", "sell", "(LRiddlePress$Customer;II)V"⟩ ∈ ab_T := ab_w0 24 rfl rfl
theorem wd_0_25 : Cond.selects "RiddlePress" ⟨"RiddlePress", "checkRule", "(I)V"⟩ ⟨"RiddlePress", "checkRule", "(I)V"⟩ ∈ ab_T := ab_w0 25 rfl rfl
theorem wd_0_26 : Cond.selects "RiddlePress" ⟨"RiddlePress", "findOwnRule", "(I)LRiddlePress$OwnRule;"⟩ ⟨"RiddlePress", "findOwnRule", "(I)LRiddlePress$OwnRule;"⟩ ∈ ab_T := ab_w0 26 rfl rfl
theorem wd_0_27 : Cond.selects "RiddlePress" ⟨"RiddlePress", "isOnSaleBy", "(LRiddlePress$Issue;I)Z"⟩ ⟨"RiddlePress", "isOnSaleBy", "(LRiddlePress$Issue;I)Z"⟩ ∈ ab_T := ab_w0 27 rfl rfl
theorem wd_0_28 : Cond.selects "RiddlePress" ⟨"RiddlePress", "payBack", "(II)V"⟩ ⟨"RiddlePress", "payBack", "(II)V"⟩ ∈ ab_T := ab_w0 28 rfl rfl
theorem wd_0_29 : Cond.selects "RiddlePress" ⟨"RiddlePress", "takeBackRiddles", "(LRiddlePress$Issue;I)V"⟩ ⟨"RiddlePress", "takeBackRiddles", "(LRiddlePress$Issue;I)V"⟩ ∈ ab_T := ab_w0 29 rfl rfl
theorem wd_0_30 : Cond.selects "RiddlePress" ⟨"RiddlePress", "loseProofsBy", "(I)V"⟩ ⟨"RiddlePress", "loseProofsBy", "(I)V"⟩ ∈ ab_T := ab_w0 30 rfl rfl
theorem wd_0_31 : Cond.selects "RiddlePress$Riddle" ⟨"RiddlePress$Riddle", "isAnsweredBy", "(LRiddlePress$Order;)Z"⟩ ⟨"RiddlePress$Riddle", "isAnsweredBy", "(LRiddlePress$Order;)Z"⟩ ∈ ab_T := ab_w0 31 rfl rfl
theorem wd_0_32 : Cond.selects "RiddlePress$Riddle" ⟨"RiddlePress$Riddle", "addAnswer", "(LRiddlePress$Order;)V"⟩ ⟨"RiddlePress$Riddle", "addAnswer", "(LRiddlePress$Order;)V"⟩ ∈ ab_T := ab_w0 32 rfl rfl
theorem wd_0_33 : Cond.selects "RiddlePress" ⟨"RiddlePress", "isSound", "(LRiddlePress$Riddle;)Z"⟩ ⟨"RiddlePress", "isSound", "(LRiddlePress$Riddle;)Z"⟩ ∈ ab_T := ab_w0 33 rfl rfl
theorem wd_0_34 : Cond.selects "RiddlePress" ⟨"RiddlePress", "countWholeProofs", "()I"⟩ ⟨"RiddlePress", "countWholeProofs", "()I"⟩ ∈ ab_T := ab_w0 34 rfl rfl
theorem wd_1_1 : (Jvm.Cond.initialized "RiddlePress") ∈ ab_T := ab_w1 1 rfl rfl
theorem wd_1_2 : (Jvm.Cond.initialized "java/util/AbstractCollection") ∈ ab_T := ab_w1 2 rfl rfl
theorem wd_1_3 : (Jvm.Cond.initialized "java/util/AbstractList") ∈ ab_T := ab_w1 3 rfl rfl
theorem wd_1_4 : (Jvm.Cond.initialized "java/util/ArrayList") ∈ ab_T := ab_w1 4 rfl rfl
theorem wd_1_5 : (Jvm.Cond.initialized "java/lang/String") ∈ ab_T := ab_w1 5 rfl rfl
theorem wd_1_6 : (Jvm.Cond.initialized "java/lang/StringLatin1") ∈ ab_T := ab_w1 6 rfl rfl
theorem wd_1_7 : (Jvm.Cond.initialized "jdk/internal/util/Preconditions") ∈ ab_T := ab_w1 7 rfl rfl
theorem wd_1_9 : (Jvm.Cond.initialized "java/lang/Math") ∈ ab_T := ab_w1 9 rfl rfl
theorem wd_1_14 : (Jvm.Cond.initialized "java/lang/IllegalArgumentException") ∈ ab_T := ab_w1 14 rfl rfl
theorem wd_1_15 : (Jvm.Cond.initialized "java/lang/IllegalStateException") ∈ ab_T := ab_w1 15 rfl rfl
theorem wd_1_16 : (Jvm.Cond.initialized "RiddlePress$OwnRule") ∈ ab_T := ab_w1 16 rfl rfl
theorem wd_1_17 : (Jvm.Cond.initialized "RiddlePress$Clue") ∈ ab_T := ab_w1 17 rfl rfl
theorem wd_1_18 : (Jvm.Cond.initialized "RiddlePress$Order") ∈ ab_T := ab_w1 18 rfl rfl
theorem wd_1_19 : (Jvm.Cond.initialized "jdk/internal/util/ArraysSupport") ∈ ab_T := ab_w1 19 rfl rfl
theorem wd_1_20 : (Jvm.Cond.initialized "java/util/Arrays") ∈ ab_T := ab_w1 20 rfl rfl
theorem wd_1_21 : (Jvm.Cond.initialized "java/lang/System") ∈ ab_T := ab_w1 21 rfl rfl
theorem wd_1_22 : (Jvm.Cond.initialized "RiddlePress$Customer") ∈ ab_T := ab_w1 22 rfl rfl
theorem wd_1_23 : (Jvm.Cond.initialized "java/lang/IndexOutOfBoundsException") ∈ ab_T := ab_w1 23 rfl rfl
theorem wd_1_25 : (Jvm.Cond.initialized "java/lang/ArithmeticException") ∈ ab_T := ab_w1 25 rfl rfl
theorem wd_1_26 : (Jvm.Cond.initialized "java/util/Objects") ∈ ab_T := ab_w1 26 rfl rfl
theorem wd_1_27 : (Jvm.Cond.initialized "RiddlePress$Riddle") ∈ ab_T := ab_w1 27 rfl rfl
theorem wd_1_28 : (Jvm.Cond.initialized "RiddlePress$Proof") ∈ ab_T := ab_w1 28 rfl rfl
theorem wd_1_29 : (Jvm.Cond.initialized "RiddlePress$Places") ∈ ab_T := ab_w1 29 rfl rfl
theorem wd_1_30 : (Jvm.Cond.initialized "java/lang/UnsupportedOperationException") ∈ ab_T := ab_w1 30 rfl rfl
theorem wd_1_31 : (Jvm.Cond.initialized "java/lang/Integer") ∈ ab_T := ab_w1 31 rfl rfl
theorem wd_1_32 : (Jvm.Cond.initialized "RiddlePress$Issue") ∈ ab_T := ab_w1 32 rfl rfl
theorem wd_1_33 : (Jvm.Cond.initialized "java/util/NoSuchElementException") ∈ ab_T := ab_w1 33 rfl rfl
theorem wd_1_39 : (Jvm.Cond.methodLink "RiddlePress" (1 : Nat) ({ cls := "java/lang/Object", name := "<init>", desc := "()V" } : Jvm.MethodName)) ∈ ab_T := ab_w1 39 rfl rfl
theorem wd_1_40 : (Jvm.Cond.instanceMethod ({ cls := "java/lang/Object", name := "<init>", desc := "()V" } : Jvm.MethodName)) ∈ ab_T := ab_w1 40 rfl rfl
theorem wd_1_41 : (Jvm.Cond.code ({ cls := "java/lang/Object", name := "<init>", desc := "()V" } : Jvm.MethodName) object_method_1_code (1 : Nat) (Option.none : Option Jvm.ClassFile.FieldType)) ∈ ab_T := ab_w1 41 rfl rfl
theorem wd_1_42 : (Jvm.Cond.classLink "RiddlePress" (7 : Nat) "java/util/ArrayList") ∈ ab_T := ab_w1 42 rfl rfl
theorem wd_1_43 : (Jvm.Cond.instantiable "java/util/ArrayList" (3 : Nat)) ∈ ab_T := ab_w1 43 rfl rfl
theorem wd_1_44 : (Jvm.Cond.methodLink "RiddlePress" (9 : Nat) ({ cls := "java/util/ArrayList", name := "<init>", desc := "()V" } : Jvm.MethodName)) ∈ ab_T := ab_w1 44 rfl rfl
theorem wd_1_45 : (Jvm.Cond.instanceMethod ({ cls := "java/util/ArrayList", name := "<init>", desc := "()V" } : Jvm.MethodName)) ∈ ab_T := ab_w1 45 rfl rfl
theorem wd_1_46 : (Jvm.Cond.code ({ cls := "java/util/ArrayList", name := "<init>", desc := "()V" } : Jvm.MethodName) prog_37_method_2_code (1 : Nat) (Option.none : Option Jvm.ClassFile.FieldType)) ∈ ab_T := ab_w1 46 rfl rfl
theorem wd_1_47 : (Jvm.Cond.methodLink "java/util/ArrayList" (1 : Nat) ({ cls := "java/util/AbstractList", name := "<init>", desc := "()V" } : Jvm.MethodName)) ∈ ab_T := ab_w1 47 rfl rfl
theorem wd_1_48 : (Jvm.Cond.instanceMethod ({ cls := "java/util/AbstractList", name := "<init>", desc := "()V" } : Jvm.MethodName)) ∈ ab_T := ab_w1 48 rfl rfl
theorem wd_1_49 : (Jvm.Cond.code ({ cls := "java/util/AbstractList", name := "<init>", desc := "()V" } : Jvm.MethodName) prog_36_method_1_code (1 : Nat) (Option.none : Option Jvm.ClassFile.FieldType)) ∈ ab_T := ab_w1 49 rfl rfl
theorem wd_1_50 : (Jvm.Cond.methodLink "java/util/AbstractList" (1 : Nat) ({ cls := "java/util/AbstractCollection", name := "<init>", desc := "()V" } : Jvm.MethodName)) ∈ ab_T := ab_w1 50 rfl rfl
theorem wd_1_51 : (Jvm.Cond.instanceMethod ({ cls := "java/util/AbstractCollection", name := "<init>", desc := "()V" } : Jvm.MethodName)) ∈ ab_T := ab_w1 51 rfl rfl
theorem wd_1_52 : (Jvm.Cond.code ({ cls := "java/util/AbstractCollection", name := "<init>", desc := "()V" } : Jvm.MethodName) prog_35_method_1_code (1 : Nat) (Option.none : Option Jvm.ClassFile.FieldType)) ∈ ab_T := ab_w1 52 rfl rfl
theorem wd_1_53 : (Jvm.Cond.methodLink "java/util/AbstractCollection" (1 : Nat) ({ cls := "java/lang/Object", name := "<init>", desc := "()V" } : Jvm.MethodName)) ∈ ab_T := ab_w1 53 rfl rfl
theorem wd_1_54 : (Jvm.Cond.fieldLink "java/util/ArrayList" (39 : Nat) "java/util/ArrayList" "DEFAULTCAPACITY_EMPTY_ELEMENTDATA" "[Ljava/lang/Object;") ∈ ab_T := ab_w1 54 rfl rfl
theorem wd_1_56 : (Jvm.Cond.fieldLink "java/util/ArrayList" (9 : Nat) "java/util/ArrayList" "elementData" "[Ljava/lang/Object;") ∈ ab_T := ab_w1 56 rfl rfl
theorem wd_1_57 : (Jvm.Cond.fieldLink "java/util/ArrayList" (48 : Nat) "java/util/ArrayList" "size" "I") ∈ ab_T := ab_w1 57 rfl rfl
theorem wd_1_58 : (Jvm.Cond.fieldLink "java/util/AbstractList" (7 : Nat) "java/util/AbstractList" "modCount" "I") ∈ ab_T := ab_w1 58 rfl rfl
theorem wd_1_59 : (Jvm.Cond.fieldLink "java/util/ArrayList" (63 : Nat) "java/util/ArrayList" "modCount" "I") ∈ ab_T := ab_w1 59 rfl rfl
theorem wd_1_60 : (Jvm.Cond.sameField "java/util/ArrayList" "java/util/AbstractList" "modCount" "I") ∈ ab_T := ab_w1 60 rfl rfl
theorem wd_1_61 : (Jvm.Cond.lays "java/util/ArrayList" "java/util/ArrayList" "elementData" "[Ljava/lang/Object;") ∈ ab_T := ab_w1 61 rfl rfl
theorem wd_1_63 : (Jvm.Cond.lays "java/util/ArrayList" "java/util/ArrayList" "size" "I") ∈ ab_T := ab_w1 63 rfl rfl
theorem wd_1_65 : (Jvm.Cond.lays "java/util/ArrayList" "java/util/AbstractList" "modCount" "I") ∈ ab_T := ab_w1 65 rfl rfl
theorem wd_1_68 : (Jvm.Cond.fieldLink "RiddlePress" (10 : Nat) "RiddlePress" "riddles" "Ljava/util/List;") ∈ ab_T := ab_w1 68 rfl rfl
theorem wd_1_69 : (Jvm.Cond.fieldLink "RiddlePress" (16 : Nat) "RiddlePress" "ownRules" "Ljava/util/List;") ∈ ab_T := ab_w1 69 rfl rfl
theorem wd_1_70 : (Jvm.Cond.fieldLink "RiddlePress" (19 : Nat) "RiddlePress" "issues" "Ljava/util/List;") ∈ ab_T := ab_w1 70 rfl rfl
theorem wd_1_71 : (Jvm.Cond.fieldLink "RiddlePress" (22 : Nat) "RiddlePress" "customers" "Ljava/util/List;") ∈ ab_T := ab_w1 71 rfl rfl
theorem wd_1_72 : (Jvm.Cond.fieldLink "RiddlePress" (25 : Nat) "RiddlePress" "pressCredits" "J") ∈ ab_T := ab_w1 72 rfl rfl
theorem wd_1_73 : (Jvm.Cond.laysFinal "RiddlePress" "RiddlePress" "riddles" "Ljava/util/List;") ∈ ab_T := ab_w1 73 rfl rfl
theorem wd_1_75 : (Jvm.Cond.laysFinal "RiddlePress" "RiddlePress" "ownRules" "Ljava/util/List;") ∈ ab_T := ab_w1 75 rfl rfl
theorem wd_1_77 : (Jvm.Cond.laysFinal "RiddlePress" "RiddlePress" "issues" "Ljava/util/List;") ∈ ab_T := ab_w1 77 rfl rfl
theorem wd_1_79 : (Jvm.Cond.laysFinal "RiddlePress" "RiddlePress" "customers" "Ljava/util/List;") ∈ ab_T := ab_w1 79 rfl rfl
theorem wd_1_81 : (Jvm.Cond.lays "RiddlePress" "RiddlePress" "pressCredits" "J") ∈ ab_T := ab_w1 81 rfl rfl
theorem wd_1_104 : (Jvm.Cond.classLink "RiddlePress" (29 : Nat) "java/lang/IllegalArgumentException") ∈ ab_T := ab_w1 104 rfl rfl
theorem wd_1_150 : (Jvm.Cond.methodLink "RiddlePress" (33 : Nat) ({ cls := "java/lang/IllegalArgumentException", name := "<init>", desc := "(Ljava/lang/String;)V" } : Jvm.MethodName)) ∈ ab_T := ab_w1 150 rfl rfl
theorem wd_1_177 : (Jvm.Cond.methodLink "RiddlePress" (36 : Nat) ({ cls := "java/util/List", name := "size", desc := "()I" } : Jvm.MethodName)) ∈ ab_T := ab_w1 177 rfl rfl
theorem wd_1_181 : (Jvm.Cond.selects "java/util/ArrayList" ({ cls := "java/util/List", name := "size", desc := "()I" } : Jvm.MethodName) ({ cls := "java/util/ArrayList", name := "size", desc := "()I" } : Jvm.MethodName)) ∈ ab_T := ab_w1 181 rfl rfl
theorem wd_1_183 : (Jvm.Cond.instanceMethod ({ cls := "java/util/ArrayList", name := "size", desc := "()I" } : Jvm.MethodName)) ∈ ab_T := ab_w1 183 rfl rfl
theorem wd_1_185 : (Jvm.Cond.code ({ cls := "java/util/ArrayList", name := "size", desc := "()I" } : Jvm.MethodName) prog_37_method_8_code (1 : Nat) (Option.some Jvm.ClassFile.FieldType.int)) ∈ ab_T := ab_w1 185 rfl rfl
theorem wd_1_186 : (Jvm.Cond.classLink "RiddlePress" (42 : Nat) "java/lang/IllegalStateException") ∈ ab_T := ab_w1 186 rfl rfl
theorem wd_1_196 : (Jvm.Cond.methodLink "RiddlePress" (46 : Nat) ({ cls := "java/lang/IllegalStateException", name := "<init>", desc := "(Ljava/lang/String;)V" } : Jvm.MethodName)) ∈ ab_T := ab_w1 196 rfl rfl
theorem wd_1_202 : (Jvm.Cond.classLink "RiddlePress" (47 : Nat) "RiddlePress$Riddle") ∈ ab_T := ab_w1 202 rfl rfl
theorem wd_1_203 : (Jvm.Cond.instantiable "RiddlePress$Riddle" (7 : Nat)) ∈ ab_T := ab_w1 203 rfl rfl
theorem wd_1_204 : (Jvm.Cond.methodLink "RiddlePress" (49 : Nat) ({ cls := "RiddlePress$Riddle", name := "<init>", desc := "(I)V" } : Jvm.MethodName)) ∈ ab_T := ab_w1 204 rfl rfl
theorem wd_1_205 : (Jvm.Cond.instanceMethod ({ cls := "RiddlePress$Riddle", name := "<init>", desc := "(I)V" } : Jvm.MethodName)) ∈ ab_T := ab_w1 205 rfl rfl
theorem wd_1_206 : (Jvm.Cond.code ({ cls := "RiddlePress$Riddle", name := "<init>", desc := "(I)V" } : Jvm.MethodName) prog_9_method_1_code (2 : Nat) (Option.none : Option Jvm.ClassFile.FieldType)) ∈ ab_T := ab_w1 206 rfl rfl
theorem wd_1_207 : (Jvm.Cond.methodLink "RiddlePress$Riddle" (3 : Nat) ({ cls := "java/lang/Object", name := "<init>", desc := "()V" } : Jvm.MethodName)) ∈ ab_T := ab_w1 207 rfl rfl
theorem wd_1_208 : (Jvm.Cond.classLink "RiddlePress$Riddle" (15 : Nat) "java/util/ArrayList") ∈ ab_T := ab_w1 208 rfl rfl
theorem wd_1_209 : (Jvm.Cond.methodLink "RiddlePress$Riddle" (17 : Nat) ({ cls := "java/util/ArrayList", name := "<init>", desc := "()V" } : Jvm.MethodName)) ∈ ab_T := ab_w1 209 rfl rfl
theorem wd_1_210 : (Jvm.Cond.classLink "RiddlePress$Riddle" (22 : Nat) "RiddlePress$Proof") ∈ ab_T := ab_w1 210 rfl rfl
theorem wd_1_211 : (Jvm.Cond.instantiable "RiddlePress$Proof" (7 : Nat)) ∈ ab_T := ab_w1 211 rfl rfl
theorem wd_1_212 : (Jvm.Cond.methodLink "RiddlePress$Riddle" (24 : Nat) ({ cls := "RiddlePress$Proof", name := "<init>", desc := "(I)V" } : Jvm.MethodName)) ∈ ab_T := ab_w1 212 rfl rfl
theorem wd_1_213 : (Jvm.Cond.instanceMethod ({ cls := "RiddlePress$Proof", name := "<init>", desc := "(I)V" } : Jvm.MethodName)) ∈ ab_T := ab_w1 213 rfl rfl
theorem wd_1_214 : (Jvm.Cond.code ({ cls := "RiddlePress$Proof", name := "<init>", desc := "(I)V" } : Jvm.MethodName) prog_8_method_1_code (2 : Nat) (Option.none : Option Jvm.ClassFile.FieldType)) ∈ ab_T := ab_w1 214 rfl rfl
theorem wd_1_215 : (Jvm.Cond.methodLink "RiddlePress$Proof" (3 : Nat) ({ cls := "java/lang/Object", name := "<init>", desc := "()V" } : Jvm.MethodName)) ∈ ab_T := ab_w1 215 rfl rfl
theorem wd_1_216 : (Jvm.Cond.classLink "RiddlePress$Proof" (21 : Nat) "RiddlePress$Places") ∈ ab_T := ab_w1 216 rfl rfl
theorem wd_1_217 : (Jvm.Cond.instantiable "RiddlePress$Places" (1 : Nat)) ∈ ab_T := ab_w1 217 rfl rfl
theorem wd_1_218 : (Jvm.Cond.methodLink "RiddlePress$Proof" (23 : Nat) ({ cls := "RiddlePress$Places", name := "<init>", desc := "(I)V" } : Jvm.MethodName)) ∈ ab_T := ab_w1 218 rfl rfl
theorem wd_1_219 : (Jvm.Cond.instanceMethod ({ cls := "RiddlePress$Places", name := "<init>", desc := "(I)V" } : Jvm.MethodName)) ∈ ab_T := ab_w1 219 rfl rfl
theorem wd_1_220 : (Jvm.Cond.code ({ cls := "RiddlePress$Places", name := "<init>", desc := "(I)V" } : Jvm.MethodName) prog_7_method_1_code (2 : Nat) (Option.none : Option Jvm.ClassFile.FieldType)) ∈ ab_T := ab_w1 220 rfl rfl
theorem wd_1_221 : (Jvm.Cond.methodLink "RiddlePress$Places" (3 : Nat) ({ cls := "java/lang/Object", name := "<init>", desc := "()V" } : Jvm.MethodName)) ∈ ab_T := ab_w1 221 rfl rfl
theorem wd_1_222 : (Jvm.Cond.fieldLink "RiddlePress$Places" (9 : Nat) "RiddlePress$Places" "sets" "[I") ∈ ab_T := ab_w1 222 rfl rfl
theorem wd_1_223 : (Jvm.Cond.laysFinal "RiddlePress$Places" "RiddlePress$Places" "sets" "[I") ∈ ab_T := ab_w1 223 rfl rfl
theorem wd_1_226 : (Jvm.Cond.arrayClass Jvm.ClassFile.FieldType.int) ∈ ab_T := ab_w1 226 rfl rfl
theorem wd_1_227 : (Jvm.Cond.fieldLink "RiddlePress$Proof" (9 : Nat) "RiddlePress$Proof" "ruleOf" "[I") ∈ ab_T := ab_w1 227 rfl rfl
theorem wd_1_228 : (Jvm.Cond.fieldLink "RiddlePress" (138 : Nat) "RiddlePress$Proof" "ruleOf" "[I") ∈ ab_T := ab_w1 228 rfl rfl
theorem wd_1_229 : (Jvm.Cond.fieldLink "RiddlePress$Proof" (15 : Nat) "RiddlePress$Proof" "causeOf" "[I") ∈ ab_T := ab_w1 229 rfl rfl
theorem wd_1_230 : (Jvm.Cond.fieldLink "RiddlePress" (141 : Nat) "RiddlePress$Proof" "causeOf" "[I") ∈ ab_T := ab_w1 230 rfl rfl
theorem wd_1_231 : (Jvm.Cond.fieldLink "RiddlePress$Proof" (18 : Nat) "RiddlePress$Proof" "takenBy" "[I") ∈ ab_T := ab_w1 231 rfl rfl
theorem wd_1_232 : (Jvm.Cond.fieldLink "RiddlePress" (144 : Nat) "RiddlePress$Proof" "takenBy" "[I") ∈ ab_T := ab_w1 232 rfl rfl
theorem wd_1_233 : (Jvm.Cond.fieldLink "RiddlePress$Proof" (30 : Nat) "RiddlePress$Proof" "stepCount" "I") ∈ ab_T := ab_w1 233 rfl rfl
theorem wd_1_234 : (Jvm.Cond.fieldLink "RiddlePress" (130 : Nat) "RiddlePress$Proof" "stepCount" "I") ∈ ab_T := ab_w1 234 rfl rfl
theorem wd_1_235 : (Jvm.Cond.fieldLink "RiddlePress$Proof" (34 : Nat) "RiddlePress$Proof" "outcome" "C") ∈ ab_T := ab_w1 235 rfl rfl
theorem wd_1_236 : (Jvm.Cond.fieldLink "RiddlePress" (79 : Nat) "RiddlePress$Proof" "outcome" "C") ∈ ab_T := ab_w1 236 rfl rfl
theorem wd_1_237 : (Jvm.Cond.fieldLink "RiddlePress$Proof" (26 : Nat) "RiddlePress$Proof" "places" "LRiddlePress$Places;") ∈ ab_T := ab_w1 237 rfl rfl
theorem wd_1_238 : (Jvm.Cond.fieldLink "RiddlePress$Proof" (38 : Nat) "RiddlePress$Proof" "rulesUsed" "I") ∈ ab_T := ab_w1 238 rfl rfl
theorem wd_1_239 : (Jvm.Cond.laysFinal "RiddlePress$Proof" "RiddlePress$Proof" "ruleOf" "[I") ∈ ab_T := ab_w1 239 rfl rfl
theorem wd_2_1 : (Jvm.Cond.laysFinal "RiddlePress$Proof" "RiddlePress$Proof" "causeOf" "[I") ∈ ab_T := ab_w2 1 rfl rfl
theorem wd_2_3 : (Jvm.Cond.laysFinal "RiddlePress$Proof" "RiddlePress$Proof" "takenBy" "[I") ∈ ab_T := ab_w2 3 rfl rfl
theorem wd_2_5 : (Jvm.Cond.lays "RiddlePress$Proof" "RiddlePress$Proof" "stepCount" "I") ∈ ab_T := ab_w2 5 rfl rfl
theorem wd_2_7 : (Jvm.Cond.lays "RiddlePress$Proof" "RiddlePress$Proof" "outcome" "C") ∈ ab_T := ab_w2 7 rfl rfl
theorem wd_2_9 : (Jvm.Cond.laysFinal "RiddlePress$Proof" "RiddlePress$Proof" "places" "LRiddlePress$Places;") ∈ ab_T := ab_w2 9 rfl rfl
theorem wd_2_11 : (Jvm.Cond.lays "RiddlePress$Proof" "RiddlePress$Proof" "rulesUsed" "I") ∈ ab_T := ab_w2 11 rfl rfl
theorem wd_2_14 : (Jvm.Cond.fieldLink "RiddlePress$Riddle" (9 : Nat) "RiddlePress$Riddle" "persons" "I") ∈ ab_T := ab_w2 14 rfl rfl
theorem wd_2_15 : (Jvm.Cond.fieldLink "RiddlePress" (65 : Nat) "RiddlePress$Riddle" "persons" "I") ∈ ab_T := ab_w2 15 rfl rfl
theorem wd_2_16 : (Jvm.Cond.fieldLink "RiddlePress$Riddle" (18 : Nat) "RiddlePress$Riddle" "clues" "Ljava/util/List;") ∈ ab_T := ab_w2 16 rfl rfl
theorem wd_2_17 : (Jvm.Cond.fieldLink "RiddlePress" (90 : Nat) "RiddlePress$Riddle" "clues" "Ljava/util/List;") ∈ ab_T := ab_w2 17 rfl rfl
theorem wd_2_18 : (Jvm.Cond.fieldLink "RiddlePress$Riddle" (27 : Nat) "RiddlePress$Riddle" "proof" "LRiddlePress$Proof;") ∈ ab_T := ab_w2 18 rfl rfl
theorem wd_2_19 : (Jvm.Cond.fieldLink "RiddlePress" (75 : Nat) "RiddlePress$Riddle" "proof" "LRiddlePress$Proof;") ∈ ab_T := ab_w2 19 rfl rfl
theorem wd_2_20 : (Jvm.Cond.fieldLink "RiddlePress$Riddle" (31 : Nat) "RiddlePress$Riddle" "firstAnswer" "[I") ∈ ab_T := ab_w2 20 rfl rfl
theorem wd_2_21 : (Jvm.Cond.fieldLink "RiddlePress" (105 : Nat) "RiddlePress$Riddle" "firstAnswer" "[I") ∈ ab_T := ab_w2 21 rfl rfl
theorem wd_2_22 : (Jvm.Cond.fieldLink "RiddlePress$Riddle" (35 : Nat) "RiddlePress$Riddle" "answerCount" "I") ∈ ab_T := ab_w2 22 rfl rfl
theorem wd_2_23 : (Jvm.Cond.fieldLink "RiddlePress" (102 : Nat) "RiddlePress$Riddle" "answerCount" "I") ∈ ab_T := ab_w2 23 rfl rfl
theorem wd_2_24 : (Jvm.Cond.fieldLink "RiddlePress$Riddle" (38 : Nat) "RiddlePress$Riddle" "state" "C") ∈ ab_T := ab_w2 24 rfl rfl
theorem wd_2_25 : (Jvm.Cond.fieldLink "RiddlePress" (119 : Nat) "RiddlePress$Riddle" "state" "C") ∈ ab_T := ab_w2 25 rfl rfl
theorem wd_2_26 : (Jvm.Cond.fieldLink "RiddlePress$Riddle" (42 : Nat) "RiddlePress$Riddle" "issue" "LRiddlePress$Issue;") ∈ ab_T := ab_w2 26 rfl rfl
theorem wd_2_27 : (Jvm.Cond.fieldLink "RiddlePress" (236 : Nat) "RiddlePress$Riddle" "issue" "LRiddlePress$Issue;") ∈ ab_T := ab_w2 27 rfl rfl
theorem wd_2_28 : (Jvm.Cond.laysFinal "RiddlePress$Riddle" "RiddlePress$Riddle" "persons" "I") ∈ ab_T := ab_w2 28 rfl rfl
theorem wd_2_30 : (Jvm.Cond.laysFinal "RiddlePress$Riddle" "RiddlePress$Riddle" "clues" "Ljava/util/List;") ∈ ab_T := ab_w2 30 rfl rfl
theorem wd_2_32 : (Jvm.Cond.laysFinal "RiddlePress$Riddle" "RiddlePress$Riddle" "proof" "LRiddlePress$Proof;") ∈ ab_T := ab_w2 32 rfl rfl
theorem wd_2_34 : (Jvm.Cond.laysFinal "RiddlePress$Riddle" "RiddlePress$Riddle" "firstAnswer" "[I") ∈ ab_T := ab_w2 34 rfl rfl
theorem wd_2_36 : (Jvm.Cond.lays "RiddlePress$Riddle" "RiddlePress$Riddle" "answerCount" "I") ∈ ab_T := ab_w2 36 rfl rfl
theorem wd_2_38 : (Jvm.Cond.lays "RiddlePress$Riddle" "RiddlePress$Riddle" "state" "C") ∈ ab_T := ab_w2 38 rfl rfl
theorem wd_2_40 : (Jvm.Cond.lays "RiddlePress$Riddle" "RiddlePress$Riddle" "issue" "LRiddlePress$Issue;") ∈ ab_T := ab_w2 40 rfl rfl
theorem wd_2_44 : (Jvm.Cond.methodLink "RiddlePress" (52 : Nat) ({ cls := "java/util/List", name := "add", desc := "(Ljava/lang/Object;)Z" } : Jvm.MethodName)) ∈ ab_T := ab_w2 44 rfl rfl
theorem wd_2_47 : (Jvm.Cond.selects "java/util/ArrayList" ({ cls := "java/util/List", name := "add", desc := "(Ljava/lang/Object;)Z" } : Jvm.MethodName) ({ cls := "java/util/ArrayList", name := "add", desc := "(Ljava/lang/Object;)Z" } : Jvm.MethodName)) ∈ ab_T := ab_w2 47 rfl rfl
theorem wd_2_49 : (Jvm.Cond.instanceMethod ({ cls := "java/util/ArrayList", name := "add", desc := "(Ljava/lang/Object;)Z" } : Jvm.MethodName)) ∈ ab_T := ab_w2 49 rfl rfl
theorem wd_2_51 : (Jvm.Cond.code ({ cls := "java/util/ArrayList", name := "add", desc := "(Ljava/lang/Object;)Z" } : Jvm.MethodName) prog_37_method_25_code (2 : Nat) (Option.some Jvm.ClassFile.FieldType.boolean)) ∈ ab_T := ab_w2 51 rfl rfl
theorem wd_2_52 : (Jvm.Cond.methodLink "java/util/ArrayList" (131 : Nat) ({ cls := "java/util/ArrayList", name := "add", desc := "(Ljava/lang/Object;[Ljava/lang/Object;I)V" } : Jvm.MethodName)) ∈ ab_T := ab_w2 52 rfl rfl
theorem wd_2_54 : (Jvm.Cond.instanceMethod ({ cls := "java/util/ArrayList", name := "add", desc := "(Ljava/lang/Object;[Ljava/lang/Object;I)V" } : Jvm.MethodName)) ∈ ab_T := ab_w2 54 rfl rfl
theorem wd_2_55 : (Jvm.Cond.code ({ cls := "java/util/ArrayList", name := "add", desc := "(Ljava/lang/Object;[Ljava/lang/Object;I)V" } : Jvm.MethodName) prog_37_method_24_code (4 : Nat) (Option.none : Option Jvm.ClassFile.FieldType)) ∈ ab_T := ab_w2 55 rfl rfl
theorem wd_2_56 : (Jvm.Cond.methodLink "java/util/ArrayList" (129 : Nat) ({ cls := "java/util/ArrayList", name := "grow", desc := "()[Ljava/lang/Object;" } : Jvm.MethodName)) ∈ ab_T := ab_w2 56 rfl rfl
theorem wd_2_58 : (Jvm.Cond.instanceMethod ({ cls := "java/util/ArrayList", name := "grow", desc := "()[Ljava/lang/Object;" } : Jvm.MethodName)) ∈ ab_T := ab_w2 58 rfl rfl
theorem wd_2_59 : (Jvm.Cond.code ({ cls := "java/util/ArrayList", name := "grow", desc := "()[Ljava/lang/Object;" } : Jvm.MethodName) prog_37_method_7_code (1 : Nat) (Option.some (Jvm.ClassFile.FieldType.array (Jvm.ClassFile.FieldType.object "java/lang/Object")))) ∈ ab_T := ab_w2 59 rfl rfl
theorem wd_2_60 : (Jvm.Cond.methodLink "java/util/ArrayList" (69 : Nat) ({ cls := "java/util/ArrayList", name := "grow", desc := "(I)[Ljava/lang/Object;" } : Jvm.MethodName)) ∈ ab_T := ab_w2 60 rfl rfl
theorem wd_2_62 : (Jvm.Cond.instanceMethod ({ cls := "java/util/ArrayList", name := "grow", desc := "(I)[Ljava/lang/Object;" } : Jvm.MethodName)) ∈ ab_T := ab_w2 62 rfl rfl
theorem wd_2_63 : (Jvm.Cond.code ({ cls := "java/util/ArrayList", name := "grow", desc := "(I)[Ljava/lang/Object;" } : Jvm.MethodName) prog_37_method_6_code (4 : Nat) (Option.some (Jvm.ClassFile.FieldType.array (Jvm.ClassFile.FieldType.object "java/lang/Object")))) ∈ ab_T := ab_w2 63 rfl rfl
theorem wd_2_64 : (Jvm.Cond.methodLink "java/util/ArrayList" (73 : Nat) ({ cls := "jdk/internal/util/ArraysSupport", name := "newLength", desc := "(III)I" } : Jvm.MethodName)) ∈ ab_T := ab_w2 64 rfl rfl
theorem wd_2_65 : (Jvm.Cond.static ({ cls := "jdk/internal/util/ArraysSupport", name := "newLength", desc := "(III)I" } : Jvm.MethodName)) ∈ ab_T := ab_w2 65 rfl rfl
theorem wd_2_66 : (Jvm.Cond.code ({ cls := "jdk/internal/util/ArraysSupport", name := "newLength", desc := "(III)I" } : Jvm.MethodName) prog_45_method_27_code (4 : Nat) (Option.some Jvm.ClassFile.FieldType.int)) ∈ ab_T := ab_w2 66 rfl rfl
theorem wd_2_67 : (Jvm.Cond.methodLink "jdk/internal/util/ArraysSupport" (194 : Nat) ({ cls := "java/lang/Math", name := "max", desc := "(II)I" } : Jvm.MethodName)) ∈ ab_T := ab_w2 67 rfl rfl
theorem wd_2_68 : (Jvm.Cond.static ({ cls := "java/lang/Math", name := "max", desc := "(II)I" } : Jvm.MethodName)) ∈ ab_T := ab_w2 68 rfl rfl
theorem wd_2_69 : (Jvm.Cond.code ({ cls := "java/lang/Math", name := "max", desc := "(II)I" } : Jvm.MethodName) prog_25_method_65_code (2 : Nat) (Option.some Jvm.ClassFile.FieldType.int)) ∈ ab_T := ab_w2 69 rfl rfl
theorem wd_2_70 : (Jvm.Cond.constant "jdk/internal/util/ArraysSupport" (200 : Nat) (2147483639 : Int32)) ∈ ab_T := ab_w2 70 rfl rfl
theorem wd_2_74 : (Jvm.Cond.methodLink "java/util/ArrayList" (66 : Nat) ({ cls := "java/util/Arrays", name := "copyOf", desc := "([Ljava/lang/Object;I)[Ljava/lang/Object;" } : Jvm.MethodName)) ∈ ab_T := ab_w2 74 rfl rfl
theorem wd_2_75 : (Jvm.Cond.static ({ cls := "java/util/Arrays", name := "copyOf", desc := "([Ljava/lang/Object;I)[Ljava/lang/Object;" } : Jvm.MethodName)) ∈ ab_T := ab_w2 75 rfl rfl
theorem wd_2_76 : (Jvm.Cond.code ({ cls := "java/util/Arrays", name := "copyOf", desc := "([Ljava/lang/Object;I)[Ljava/lang/Object;" } : Jvm.MethodName) prog_38_method_119_code (2 : Nat) (Option.some (Jvm.ClassFile.FieldType.array (Jvm.ClassFile.FieldType.object "java/lang/Object")))) ∈ ab_T := ab_w2 76 rfl rfl
theorem wd_2_77 : (Jvm.Cond.methodLink "java/util/Arrays" (86 : Nat) ({ cls := "java/lang/Object", name := "getClass", desc := "()Ljava/lang/Class;" } : Jvm.MethodName)) ∈ ab_T := ab_w2 77 rfl rfl
theorem wd_2_78 : (Jvm.Cond.instanceMethod ({ cls := "java/lang/Object", name := "getClass", desc := "()Ljava/lang/Class;" } : Jvm.MethodName)) ∈ ab_T := ab_w2 78 rfl rfl
theorem wd_2_97 : (Jvm.Cond.native ({ cls := "java/lang/Object", name := "getClass", desc := "()Ljava/lang/Class;" } : Jvm.MethodName)) ∈ ab_T := ab_w2 97 rfl rfl
theorem wd_2_98 : (Jvm.Cond.methodLink "java/util/Arrays" (300 : Nat) ({ cls := "java/util/Arrays", name := "copyOf", desc := "([Ljava/lang/Object;ILjava/lang/Class;)[Ljava/lang/Object;" } : Jvm.MethodName)) ∈ ab_T := ab_w2 98 rfl rfl
theorem wd_2_99 : (Jvm.Cond.static ({ cls := "java/util/Arrays", name := "copyOf", desc := "([Ljava/lang/Object;ILjava/lang/Class;)[Ljava/lang/Object;" } : Jvm.MethodName)) ∈ ab_T := ab_w2 99 rfl rfl
theorem wd_2_100 : (Jvm.Cond.code ({ cls := "java/util/Arrays", name := "copyOf", desc := "([Ljava/lang/Object;ILjava/lang/Class;)[Ljava/lang/Object;" } : Jvm.MethodName) prog_38_method_120_code (4 : Nat) (Option.some (Jvm.ClassFile.FieldType.array (Jvm.ClassFile.FieldType.object "java/lang/Object")))) ∈ ab_T := ab_w2 100 rfl rfl
theorem wd_2_101 : (Jvm.Cond.classLink "java/util/Arrays" (110 : Nat) "[Ljava/lang/Object;") ∈ ab_T := ab_w2 101 rfl rfl
theorem wd_2_103 : (Jvm.Cond.classLink "java/util/Arrays" (2 : Nat) "java/lang/Object") ∈ ab_T := ab_w2 103 rfl rfl
theorem wd_2_104 : (Jvm.Cond.methodLink "java/util/Arrays" (304 : Nat) ({ cls := "java/lang/Math", name := "min", desc := "(II)I" } : Jvm.MethodName)) ∈ ab_T := ab_w2 104 rfl rfl
theorem wd_2_105 : (Jvm.Cond.static ({ cls := "java/lang/Math", name := "min", desc := "(II)I" } : Jvm.MethodName)) ∈ ab_T := ab_w2 105 rfl rfl
theorem wd_2_106 : (Jvm.Cond.code ({ cls := "java/lang/Math", name := "min", desc := "(II)I" } : Jvm.MethodName) prog_25_method_69_code (2 : Nat) (Option.some Jvm.ClassFile.FieldType.int)) ∈ ab_T := ab_w2 106 rfl rfl
theorem wd_2_107 : (Jvm.Cond.methodLink "java/util/Arrays" (150 : Nat) ({ cls := "java/lang/System", name := "arraycopy", desc := "(Ljava/lang/Object;ILjava/lang/Object;II)V" } : Jvm.MethodName)) ∈ ab_T := ab_w2 107 rfl rfl
theorem wd_2_108 : (Jvm.Cond.static ({ cls := "java/lang/System", name := "arraycopy", desc := "(Ljava/lang/Object;ILjava/lang/Object;II)V" } : Jvm.MethodName)) ∈ ab_T := ab_w2 108 rfl rfl
theorem wd_2_109 : (Jvm.Cond.native ({ cls := "java/lang/System", name := "arraycopy", desc := "(Ljava/lang/Object;ILjava/lang/Object;II)V" } : Jvm.MethodName)) ∈ ab_T := ab_w2 109 rfl rfl
theorem wd_2_110 : (Jvm.Cond.methodLink "java/util/ArrayList" (79 : Nat) ({ cls := "java/lang/Math", name := "max", desc := "(II)I" } : Jvm.MethodName)) ∈ ab_T := ab_w2 110 rfl rfl
theorem wd_2_111 : (Jvm.Cond.classLink "java/util/ArrayList" (7 : Nat) "java/lang/Object") ∈ ab_T := ab_w2 111 rfl rfl
theorem wd_2_144 : (Jvm.Cond.methodLink "RiddlePress" (56 : Nat) ({ cls := "RiddlePress", name := "findRiddle", desc := "(I)LRiddlePress$Riddle;" } : Jvm.MethodName)) ∈ ab_T := ab_w2 144 rfl rfl
theorem wd_2_146 : (Jvm.Cond.instanceMethod ({ cls := "RiddlePress", name := "findRiddle", desc := "(I)LRiddlePress$Riddle;" } : Jvm.MethodName)) ∈ ab_T := ab_w2 146 rfl rfl
theorem wd_2_147 : (Jvm.Cond.code ({ cls := "RiddlePress", name := "findRiddle", desc := "(I)LRiddlePress$Riddle;" } : Jvm.MethodName) prog_1_method_32_code (2 : Nat) (Option.some (Jvm.ClassFile.FieldType.object "RiddlePress$Riddle"))) ∈ ab_T := ab_w2 147 rfl rfl
theorem wd_2_148 : (Jvm.Cond.classLink "RiddlePress" (109 : Nat) "java/lang/IndexOutOfBoundsException") ∈ ab_T := ab_w2 148 rfl rfl
theorem wd_2_158 : (Jvm.Cond.methodLink "RiddlePress" (113 : Nat) ({ cls := "java/lang/IndexOutOfBoundsException", name := "<init>", desc := "(Ljava/lang/String;)V" } : Jvm.MethodName)) ∈ ab_T := ab_w2 158 rfl rfl
theorem wd_2_162 : (Jvm.Cond.methodLink "RiddlePress" (192 : Nat) ({ cls := "java/util/List", name := "get", desc := "(I)Ljava/lang/Object;" } : Jvm.MethodName)) ∈ ab_T := ab_w2 162 rfl rfl
theorem wd_2_165 : (Jvm.Cond.selects "java/util/ArrayList" ({ cls := "java/util/List", name := "get", desc := "(I)Ljava/lang/Object;" } : Jvm.MethodName) ({ cls := "java/util/ArrayList", name := "get", desc := "(I)Ljava/lang/Object;" } : Jvm.MethodName)) ∈ ab_T := ab_w2 165 rfl rfl
theorem wd_2_167 : (Jvm.Cond.instanceMethod ({ cls := "java/util/ArrayList", name := "get", desc := "(I)Ljava/lang/Object;" } : Jvm.MethodName)) ∈ ab_T := ab_w2 167 rfl rfl
theorem wd_2_169 : (Jvm.Cond.code ({ cls := "java/util/ArrayList", name := "get", desc := "(I)Ljava/lang/Object;" } : Jvm.MethodName) prog_37_method_20_code (2 : Nat) (Option.some (Jvm.ClassFile.FieldType.object "java/lang/Object"))) ∈ ab_T := ab_w2 169 rfl rfl
theorem wd_2_170 : (Jvm.Cond.methodLink "java/util/ArrayList" (118 : Nat) ({ cls := "java/util/Objects", name := "checkIndex", desc := "(II)I" } : Jvm.MethodName)) ∈ ab_T := ab_w2 170 rfl rfl
theorem wd_2_171 : (Jvm.Cond.static ({ cls := "java/util/Objects", name := "checkIndex", desc := "(II)I" } : Jvm.MethodName)) ∈ ab_T := ab_w2 171 rfl rfl
theorem wd_2_172 : (Jvm.Cond.code ({ cls := "java/util/Objects", name := "checkIndex", desc := "(II)I" } : Jvm.MethodName) prog_42_method_17_code (2 : Nat) (Option.some Jvm.ClassFile.FieldType.int)) ∈ ab_T := ab_w2 172 rfl rfl
theorem wd_2_173 : (Jvm.Cond.methodLink "java/util/Objects" (105 : Nat) ({ cls := "jdk/internal/util/Preconditions", name := "checkIndex", desc := "(IILjava/util/function/BiFunction;)I" } : Jvm.MethodName)) ∈ ab_T := ab_w2 173 rfl rfl
theorem wd_2_174 : (Jvm.Cond.static ({ cls := "jdk/internal/util/Preconditions", name := "checkIndex", desc := "(IILjava/util/function/BiFunction;)I" } : Jvm.MethodName)) ∈ ab_T := ab_w2 174 rfl rfl
theorem wd_2_175 : (Jvm.Cond.code ({ cls := "jdk/internal/util/Preconditions", name := "checkIndex", desc := "(IILjava/util/function/BiFunction;)I" } : Jvm.MethodName) prog_46_method_11_code (3 : Nat) (Option.some Jvm.ClassFile.FieldType.int)) ∈ ab_T := ab_w2 175 rfl rfl
theorem wd_2_176 : (Jvm.Cond.methodLink "java/util/ArrayList" (123 : Nat) ({ cls := "java/util/ArrayList", name := "elementData", desc := "(I)Ljava/lang/Object;" } : Jvm.MethodName)) ∈ ab_T := ab_w2 176 rfl rfl
theorem wd_2_177 : (Jvm.Cond.instanceMethod ({ cls := "java/util/ArrayList", name := "elementData", desc := "(I)Ljava/lang/Object;" } : Jvm.MethodName)) ∈ ab_T := ab_w2 177 rfl rfl
theorem wd_2_178 : (Jvm.Cond.selects "java/util/ArrayList" ({ cls := "java/util/ArrayList", name := "elementData", desc := "(I)Ljava/lang/Object;" } : Jvm.MethodName) ({ cls := "java/util/ArrayList", name := "elementData", desc := "(I)Ljava/lang/Object;" } : Jvm.MethodName)) ∈ ab_T := ab_w2 178 rfl rfl
theorem wd_2_179 : (Jvm.Cond.code ({ cls := "java/util/ArrayList", name := "elementData", desc := "(I)Ljava/lang/Object;" } : Jvm.MethodName) prog_37_method_18_code (2 : Nat) (Option.some (Jvm.ClassFile.FieldType.object "java/lang/Object"))) ∈ ab_T := ab_w2 179 rfl rfl
theorem wd_2_180 : (Jvm.Cond.classLink "RiddlePress" (60 : Nat) "RiddlePress$Clue") ∈ ab_T := ab_w2 180 rfl rfl
theorem wd_2_181 : (Jvm.Cond.instantiable "RiddlePress$Clue" (4 : Nat)) ∈ ab_T := ab_w2 181 rfl rfl
theorem wd_2_182 : (Jvm.Cond.methodLink "RiddlePress" (62 : Nat) ({ cls := "RiddlePress$Clue", name := "<init>", desc := "(CIII)V" } : Jvm.MethodName)) ∈ ab_T := ab_w2 182 rfl rfl
theorem wd_2_183 : (Jvm.Cond.instanceMethod ({ cls := "RiddlePress$Clue", name := "<init>", desc := "(CIII)V" } : Jvm.MethodName)) ∈ ab_T := ab_w2 183 rfl rfl
theorem wd_2_184 : (Jvm.Cond.code ({ cls := "RiddlePress$Clue", name := "<init>", desc := "(CIII)V" } : Jvm.MethodName) prog_2_method_1_code (5 : Nat) (Option.none : Option Jvm.ClassFile.FieldType)) ∈ ab_T := ab_w2 184 rfl rfl
theorem wd_2_185 : (Jvm.Cond.methodLink "RiddlePress$Clue" (3 : Nat) ({ cls := "java/lang/Object", name := "<init>", desc := "()V" } : Jvm.MethodName)) ∈ ab_T := ab_w2 185 rfl rfl
theorem wd_2_186 : (Jvm.Cond.fieldLink "RiddlePress$Clue" (9 : Nat) "RiddlePress$Clue" "kind" "C") ∈ ab_T := ab_w2 186 rfl rfl
theorem wd_2_187 : (Jvm.Cond.fieldLink "RiddlePress$Places" (21 : Nat) "RiddlePress$Clue" "kind" "C") ∈ ab_T := ab_w2 187 rfl rfl
theorem wd_2_188 : (Jvm.Cond.fieldLink "RiddlePress$Clue" (15 : Nat) "RiddlePress$Clue" "a" "I") ∈ ab_T := ab_w2 188 rfl rfl
theorem wd_2_189 : (Jvm.Cond.fieldLink "RiddlePress$OwnRule" (32 : Nat) "RiddlePress$Clue" "a" "I") ∈ ab_T := ab_w2 189 rfl rfl
theorem wd_2_190 : (Jvm.Cond.fieldLink "RiddlePress$Places" (27 : Nat) "RiddlePress$Clue" "a" "I") ∈ ab_T := ab_w2 190 rfl rfl
theorem wd_2_191 : (Jvm.Cond.fieldLink "RiddlePress$Clue" (19 : Nat) "RiddlePress$Clue" "b" "I") ∈ ab_T := ab_w2 191 rfl rfl
theorem wd_2_192 : (Jvm.Cond.fieldLink "RiddlePress$OwnRule" (37 : Nat) "RiddlePress$Clue" "b" "I") ∈ ab_T := ab_w2 192 rfl rfl
theorem wd_2_193 : (Jvm.Cond.fieldLink "RiddlePress$Places" (31 : Nat) "RiddlePress$Clue" "b" "I") ∈ ab_T := ab_w2 193 rfl rfl
theorem wd_2_194 : (Jvm.Cond.fieldLink "RiddlePress$Clue" (22 : Nat) "RiddlePress$Clue" "c" "I") ∈ ab_T := ab_w2 194 rfl rfl
theorem wd_2_195 : (Jvm.Cond.fieldLink "RiddlePress$OwnRule" (40 : Nat) "RiddlePress$Clue" "c" "I") ∈ ab_T := ab_w2 195 rfl rfl
theorem wd_2_196 : (Jvm.Cond.fieldLink "RiddlePress$Places" (48 : Nat) "RiddlePress$Clue" "c" "I") ∈ ab_T := ab_w2 196 rfl rfl
theorem wd_2_197 : (Jvm.Cond.laysFinal "RiddlePress$Clue" "RiddlePress$Clue" "kind" "C") ∈ ab_T := ab_w2 197 rfl rfl
theorem wd_2_199 : (Jvm.Cond.laysFinal "RiddlePress$Clue" "RiddlePress$Clue" "a" "I") ∈ ab_T := ab_w2 199 rfl rfl
theorem wd_2_201 : (Jvm.Cond.laysFinal "RiddlePress$Clue" "RiddlePress$Clue" "b" "I") ∈ ab_T := ab_w2 201 rfl rfl
theorem wd_2_203 : (Jvm.Cond.laysFinal "RiddlePress$Clue" "RiddlePress$Clue" "c" "I") ∈ ab_T := ab_w2 203 rfl rfl
theorem wd_2_206 : (Jvm.Cond.methodLink "RiddlePress" (69 : Nat) ({ cls := "RiddlePress$Clue", name := "isFor", desc := "(I)Z" } : Jvm.MethodName)) ∈ ab_T := ab_w2 206 rfl rfl
theorem wd_2_207 : (Jvm.Cond.instanceMethod ({ cls := "RiddlePress$Clue", name := "isFor", desc := "(I)Z" } : Jvm.MethodName)) ∈ ab_T := ab_w2 207 rfl rfl
theorem wd_2_208 : (Jvm.Cond.selects "RiddlePress$Clue" ({ cls := "RiddlePress$Clue", name := "isFor", desc := "(I)Z" } : Jvm.MethodName) ({ cls := "RiddlePress$Clue", name := "isFor", desc := "(I)Z" } : Jvm.MethodName)) ∈ ab_T := ab_w2 208 rfl rfl
theorem wd_2_209 : (Jvm.Cond.code ({ cls := "RiddlePress$Clue", name := "isFor", desc := "(I)Z" } : Jvm.MethodName) prog_2_method_3_code (2 : Nat) (Option.some Jvm.ClassFile.FieldType.boolean)) ∈ ab_T := ab_w2 209 rfl rfl
theorem wd_2_210 : (Jvm.Cond.methodLink "RiddlePress$Clue" (33 : Nat) ({ cls := "RiddlePress$Clue", name := "ruleNumber", desc := "()I" } : Jvm.MethodName)) ∈ ab_T := ab_w2 210 rfl rfl
theorem wd_2_211 : (Jvm.Cond.instanceMethod ({ cls := "RiddlePress$Clue", name := "ruleNumber", desc := "()I" } : Jvm.MethodName)) ∈ ab_T := ab_w2 211 rfl rfl
theorem wd_2_212 : (Jvm.Cond.selects "RiddlePress$Clue" ({ cls := "RiddlePress$Clue", name := "ruleNumber", desc := "()I" } : Jvm.MethodName) ({ cls := "RiddlePress$Clue", name := "ruleNumber", desc := "()I" } : Jvm.MethodName)) ∈ ab_T := ab_w2 212 rfl rfl
theorem wd_2_213 : (Jvm.Cond.code ({ cls := "RiddlePress$Clue", name := "ruleNumber", desc := "()I" } : Jvm.MethodName) prog_2_method_2_code (1 : Nat) (Option.some Jvm.ClassFile.FieldType.int)) ∈ ab_T := ab_w2 213 rfl rfl
theorem wd_2_215 : (Jvm.Cond.methodLink "RiddlePress$Clue" (27 : Nat) ({ cls := "java/lang/String", name := "indexOf", desc := "(I)I" } : Jvm.MethodName)) ∈ ab_T := ab_w2 215 rfl rfl
theorem wd_2_216 : (Jvm.Cond.instanceMethod ({ cls := "java/lang/String", name := "indexOf", desc := "(I)I" } : Jvm.MethodName)) ∈ ab_T := ab_w2 216 rfl rfl
theorem wd_2_217 : (Jvm.Cond.selects "java/lang/String" ({ cls := "java/lang/String", name := "indexOf", desc := "(I)I" } : Jvm.MethodName) ({ cls := "java/lang/String", name := "indexOf", desc := "(I)I" } : Jvm.MethodName)) ∈ ab_T := ab_w2 217 rfl rfl
theorem wd_2_218 : (Jvm.Cond.code ({ cls := "java/lang/String", name := "indexOf", desc := "(I)I" } : Jvm.MethodName) prog_27_method_79_code (2 : Nat) (Option.some Jvm.ClassFile.FieldType.int)) ∈ ab_T := ab_w2 218 rfl rfl
theorem wd_2_219 : (Jvm.Cond.methodLink "java/lang/String" (633 : Nat) ({ cls := "java/lang/String", name := "indexOf", desc := "(II)I" } : Jvm.MethodName)) ∈ ab_T := ab_w2 219 rfl rfl
theorem wd_2_220 : (Jvm.Cond.instanceMethod ({ cls := "java/lang/String", name := "indexOf", desc := "(II)I" } : Jvm.MethodName)) ∈ ab_T := ab_w2 220 rfl rfl
theorem wd_2_221 : (Jvm.Cond.selects "java/lang/String" ({ cls := "java/lang/String", name := "indexOf", desc := "(II)I" } : Jvm.MethodName) ({ cls := "java/lang/String", name := "indexOf", desc := "(II)I" } : Jvm.MethodName)) ∈ ab_T := ab_w2 221 rfl rfl
theorem wd_2_222 : (Jvm.Cond.code ({ cls := "java/lang/String", name := "indexOf", desc := "(II)I" } : Jvm.MethodName) prog_27_method_80_code (3 : Nat) (Option.some Jvm.ClassFile.FieldType.int)) ∈ ab_T := ab_w2 222 rfl rfl
theorem wd_2_223 : (Jvm.Cond.methodLink "java/lang/String" (492 : Nat) ({ cls := "java/lang/String", name := "isLatin1", desc := "()Z" } : Jvm.MethodName)) ∈ ab_T := ab_w2 223 rfl rfl
theorem wd_2_224 : (Jvm.Cond.instanceMethod ({ cls := "java/lang/String", name := "isLatin1", desc := "()Z" } : Jvm.MethodName)) ∈ ab_T := ab_w2 224 rfl rfl
theorem wd_2_225 : (Jvm.Cond.selects "java/lang/String" ({ cls := "java/lang/String", name := "isLatin1", desc := "()Z" } : Jvm.MethodName) ({ cls := "java/lang/String", name := "isLatin1", desc := "()Z" } : Jvm.MethodName)) ∈ ab_T := ab_w2 225 rfl rfl
theorem wd_2_226 : (Jvm.Cond.code ({ cls := "java/lang/String", name := "isLatin1", desc := "()Z" } : Jvm.MethodName) prog_27_method_154_code (1 : Nat) (Option.some Jvm.ClassFile.FieldType.boolean)) ∈ ab_T := ab_w2 226 rfl rfl
theorem wd_2_227 : (Jvm.Cond.fieldLink "java/lang/String" (38 : Nat) "java/lang/String" "COMPACT_STRINGS" "Z") ∈ ab_T := ab_w2 227 rfl rfl
theorem wd_2_229 : (Jvm.Cond.methodLink "java/lang/String" (505 : Nat) ({ cls := "java/lang/String", name := "length", desc := "()I" } : Jvm.MethodName)) ∈ ab_T := ab_w2 229 rfl rfl
theorem wd_2_230 : (Jvm.Cond.instanceMethod ({ cls := "java/lang/String", name := "length", desc := "()I" } : Jvm.MethodName)) ∈ ab_T := ab_w2 230 rfl rfl
theorem wd_2_231 : (Jvm.Cond.selects "java/lang/String" ({ cls := "java/lang/String", name := "length", desc := "()I" } : Jvm.MethodName) ({ cls := "java/lang/String", name := "length", desc := "()I" } : Jvm.MethodName)) ∈ ab_T := ab_w2 231 rfl rfl
theorem wd_2_232 : (Jvm.Cond.code ({ cls := "java/lang/String", name := "length", desc := "()I" } : Jvm.MethodName) prog_27_method_54_code (1 : Nat) (Option.some Jvm.ClassFile.FieldType.int)) ∈ ab_T := ab_w2 232 rfl rfl
theorem wd_2_233 : (Jvm.Cond.methodLink "java/lang/String" (335 : Nat) ({ cls := "java/lang/String", name := "coder", desc := "()B" } : Jvm.MethodName)) ∈ ab_T := ab_w2 233 rfl rfl
theorem wd_2_234 : (Jvm.Cond.instanceMethod ({ cls := "java/lang/String", name := "coder", desc := "()B" } : Jvm.MethodName)) ∈ ab_T := ab_w2 234 rfl rfl
theorem wd_2_235 : (Jvm.Cond.selects "java/lang/String" ({ cls := "java/lang/String", name := "coder", desc := "()B" } : Jvm.MethodName) ({ cls := "java/lang/String", name := "coder", desc := "()B" } : Jvm.MethodName)) ∈ ab_T := ab_w2 235 rfl rfl
theorem wd_2_236 : (Jvm.Cond.code ({ cls := "java/lang/String", name := "coder", desc := "()B" } : Jvm.MethodName) prog_27_method_152_code (1 : Nat) (Option.some Jvm.ClassFile.FieldType.byte)) ∈ ab_T := ab_w2 236 rfl rfl
theorem wd_2_237 : (Jvm.Cond.methodLink "java/lang/String" (637 : Nat) ({ cls := "java/lang/StringLatin1", name := "indexOf", desc := "([BIII)I" } : Jvm.MethodName)) ∈ ab_T := ab_w2 237 rfl rfl
theorem wd_2_238 : (Jvm.Cond.static ({ cls := "java/lang/StringLatin1", name := "indexOf", desc := "([BIII)I" } : Jvm.MethodName)) ∈ ab_T := ab_w2 238 rfl rfl
theorem wd_2_239 : (Jvm.Cond.code ({ cls := "java/lang/StringLatin1", name := "indexOf", desc := "([BIII)I" } : Jvm.MethodName) prog_28_method_22_code (4 : Nat) (Option.some Jvm.ClassFile.FieldType.int)) ∈ ab_T := ab_w2 239 rfl rfl
theorem wd_3_0 : (Jvm.Cond.methodLink "java/lang/StringLatin1" (88 : Nat) ({ cls := "java/lang/StringLatin1", name := "canEncode", desc := "(I)Z" } : Jvm.MethodName)) ∈ ab_T := ab_w3 0 rfl rfl
theorem wd_3_1 : (Jvm.Cond.static ({ cls := "java/lang/StringLatin1", name := "canEncode", desc := "(I)Z" } : Jvm.MethodName)) ∈ ab_T := ab_w3 1 rfl rfl
theorem wd_3_2 : (Jvm.Cond.code ({ cls := "java/lang/StringLatin1", name := "canEncode", desc := "(I)Z" } : Jvm.MethodName) prog_28_method_4_code (1 : Nat) (Option.some Jvm.ClassFile.FieldType.boolean)) ∈ ab_T := ab_w3 2 rfl rfl
theorem wd_3_3 : (Jvm.Cond.methodLink "java/lang/StringLatin1" (92 : Nat) ({ cls := "java/lang/Math", name := "max", desc := "(II)I" } : Jvm.MethodName)) ∈ ab_T := ab_w3 3 rfl rfl
theorem wd_3_4 : (Jvm.Cond.methodLink "java/lang/StringLatin1" (38 : Nat) ({ cls := "java/lang/Math", name := "min", desc := "(II)I" } : Jvm.MethodName)) ∈ ab_T := ab_w3 4 rfl rfl
theorem wd_3_5 : (Jvm.Cond.methodLink "java/lang/StringLatin1" (95 : Nat) ({ cls := "java/lang/StringLatin1", name := "indexOfChar", desc := "([BIII)I" } : Jvm.MethodName)) ∈ ab_T := ab_w3 5 rfl rfl
theorem wd_3_6 : (Jvm.Cond.static ({ cls := "java/lang/StringLatin1", name := "indexOfChar", desc := "([BIII)I" } : Jvm.MethodName)) ∈ ab_T := ab_w3 6 rfl rfl
theorem wd_3_7 : (Jvm.Cond.code ({ cls := "java/lang/StringLatin1", name := "indexOfChar", desc := "([BIII)I" } : Jvm.MethodName) prog_28_method_23_code (6 : Nat) (Option.some Jvm.ClassFile.FieldType.int)) ∈ ab_T := ab_w3 7 rfl rfl
theorem wd_3_58 : (Jvm.Cond.classLink "RiddlePress" (85 : Nat) "java/lang/UnsupportedOperationException") ∈ ab_T := ab_w3 58 rfl rfl
theorem wd_3_68 : (Jvm.Cond.methodLink "RiddlePress" (89 : Nat) ({ cls := "java/lang/UnsupportedOperationException", name := "<init>", desc := "(Ljava/lang/String;)V" } : Jvm.MethodName)) ∈ ab_T := ab_w3 68 rfl rfl
theorem wd_3_75 : (Jvm.Cond.methodLink "RiddlePress" (95 : Nat) ({ cls := "RiddlePress$Riddle", name := "addClue", desc := "(LRiddlePress$Clue;)V" } : Jvm.MethodName)) ∈ ab_T := ab_w3 75 rfl rfl
theorem wd_3_76 : (Jvm.Cond.instanceMethod ({ cls := "RiddlePress$Riddle", name := "addClue", desc := "(LRiddlePress$Clue;)V" } : Jvm.MethodName)) ∈ ab_T := ab_w3 76 rfl rfl
theorem wd_3_77 : (Jvm.Cond.selects "RiddlePress$Riddle" ({ cls := "RiddlePress$Riddle", name := "addClue", desc := "(LRiddlePress$Clue;)V" } : Jvm.MethodName) ({ cls := "RiddlePress$Riddle", name := "addClue", desc := "(LRiddlePress$Clue;)V" } : Jvm.MethodName)) ∈ ab_T := ab_w3 77 rfl rfl
theorem wd_3_78 : (Jvm.Cond.code ({ cls := "RiddlePress$Riddle", name := "addClue", desc := "(LRiddlePress$Clue;)V" } : Jvm.MethodName) prog_9_method_2_code (2 : Nat) (Option.none : Option Jvm.ClassFile.FieldType)) ∈ ab_T := ab_w3 78 rfl rfl
theorem wd_3_80 : (Jvm.Cond.methodLink "RiddlePress$Riddle" (46 : Nat) ({ cls := "java/util/List", name := "add", desc := "(Ljava/lang/Object;)Z" } : Jvm.MethodName)) ∈ ab_T := ab_w3 80 rfl rfl
theorem wd_3_89 : (Jvm.Cond.methodLink "RiddlePress" (155 : Nat) ({ cls := "java/lang/String", name := "indexOf", desc := "(I)I" } : Jvm.MethodName)) ∈ ab_T := ab_w3 89 rfl rfl
theorem wd_3_90 : (Jvm.Cond.methodLink "RiddlePress" (161 : Nat) ({ cls := "RiddlePress", name := "isPersonOf", desc := "(CC)Z" } : Jvm.MethodName)) ∈ ab_T := ab_w3 90 rfl rfl
theorem wd_3_91 : (Jvm.Cond.static ({ cls := "RiddlePress", name := "isPersonOf", desc := "(CC)Z" } : Jvm.MethodName)) ∈ ab_T := ab_w3 91 rfl rfl
theorem wd_3_92 : (Jvm.Cond.code ({ cls := "RiddlePress", name := "isPersonOf", desc := "(CC)Z" } : Jvm.MethodName) prog_1_method_37_code (2 : Nat) (Option.some Jvm.ClassFile.FieldType.boolean)) ∈ ab_T := ab_w3 92 rfl rfl
theorem wd_3_95 : (Jvm.Cond.classLink "RiddlePress" (169 : Nat) "RiddlePress$OwnRule") ∈ ab_T := ab_w3 95 rfl rfl
theorem wd_3_96 : (Jvm.Cond.instantiable "RiddlePress$OwnRule" (6 : Nat)) ∈ ab_T := ab_w3 96 rfl rfl
theorem wd_3_97 : (Jvm.Cond.methodLink "RiddlePress" (171 : Nat) ({ cls := "RiddlePress$OwnRule", name := "<init>", desc := "(CCZI)V" } : Jvm.MethodName)) ∈ ab_T := ab_w3 97 rfl rfl
theorem wd_3_98 : (Jvm.Cond.instanceMethod ({ cls := "RiddlePress$OwnRule", name := "<init>", desc := "(CCZI)V" } : Jvm.MethodName)) ∈ ab_T := ab_w3 98 rfl rfl
theorem wd_3_99 : (Jvm.Cond.code ({ cls := "RiddlePress$OwnRule", name := "<init>", desc := "(CCZI)V" } : Jvm.MethodName) prog_6_method_1_code (5 : Nat) (Option.none : Option Jvm.ClassFile.FieldType)) ∈ ab_T := ab_w3 99 rfl rfl
theorem wd_3_100 : (Jvm.Cond.methodLink "RiddlePress$OwnRule" (3 : Nat) ({ cls := "java/lang/Object", name := "<init>", desc := "()V" } : Jvm.MethodName)) ∈ ab_T := ab_w3 100 rfl rfl
theorem wd_3_101 : (Jvm.Cond.fieldLink "RiddlePress$OwnRule" (9 : Nat) "RiddlePress$OwnRule" "kind" "C") ∈ ab_T := ab_w3 101 rfl rfl
theorem wd_3_102 : (Jvm.Cond.fieldLink "RiddlePress$Places" (54 : Nat) "RiddlePress$OwnRule" "kind" "C") ∈ ab_T := ab_w3 102 rfl rfl
theorem wd_3_103 : (Jvm.Cond.fieldLink "RiddlePress$OwnRule" (26 : Nat) "RiddlePress$OwnRule" "isStanding" "Z") ∈ ab_T := ab_w3 103 rfl rfl
theorem wd_3_104 : (Jvm.Cond.fieldLink "RiddlePress$Proof" (110 : Nat) "RiddlePress$OwnRule" "isStanding" "Z") ∈ ab_T := ab_w3 104 rfl rfl
theorem wd_3_105 : (Jvm.Cond.fieldLink "RiddlePress" (181 : Nat) "RiddlePress$OwnRule" "isStanding" "Z") ∈ ab_T := ab_w3 105 rfl rfl
theorem wd_3_106 : (Jvm.Cond.fieldLink "RiddlePress$OwnRule" (29 : Nat) "RiddlePress$OwnRule" "counterDigits" "I") ∈ ab_T := ab_w3 106 rfl rfl
theorem wd_3_107 : (Jvm.Cond.fieldLink "RiddlePress" (185 : Nat) "RiddlePress$OwnRule" "counterDigits" "I") ∈ ab_T := ab_w3 107 rfl rfl
theorem wd_3_108 : (Jvm.Cond.fieldLink "RiddlePress$OwnRule" (15 : Nat) "RiddlePress$OwnRule" "person" "C") ∈ ab_T := ab_w3 108 rfl rfl
theorem wd_3_109 : (Jvm.Cond.fieldLink "RiddlePress$OwnRule" (18 : Nat) "RiddlePress$OwnRule" "isFirst" "Z") ∈ ab_T := ab_w3 109 rfl rfl
theorem wd_3_110 : (Jvm.Cond.fieldLink "RiddlePress$OwnRule" (22 : Nat) "RiddlePress$OwnRule" "k" "I") ∈ ab_T := ab_w3 110 rfl rfl
theorem wd_3_111 : (Jvm.Cond.laysFinal "RiddlePress$OwnRule" "RiddlePress$OwnRule" "kind" "C") ∈ ab_T := ab_w3 111 rfl rfl
theorem wd_3_113 : (Jvm.Cond.lays "RiddlePress$OwnRule" "RiddlePress$OwnRule" "isStanding" "Z") ∈ ab_T := ab_w3 113 rfl rfl
theorem wd_3_115 : (Jvm.Cond.lays "RiddlePress$OwnRule" "RiddlePress$OwnRule" "counterDigits" "I") ∈ ab_T := ab_w3 115 rfl rfl
theorem wd_3_117 : (Jvm.Cond.laysFinal "RiddlePress$OwnRule" "RiddlePress$OwnRule" "person" "C") ∈ ab_T := ab_w3 117 rfl rfl
theorem wd_3_119 : (Jvm.Cond.laysFinal "RiddlePress$OwnRule" "RiddlePress$OwnRule" "isFirst" "Z") ∈ ab_T := ab_w3 119 rfl rfl
theorem wd_3_121 : (Jvm.Cond.laysFinal "RiddlePress$OwnRule" "RiddlePress$OwnRule" "k" "I") ∈ ab_T := ab_w3 121 rfl rfl
theorem wd_3_124 : (Jvm.Cond.methodLink "RiddlePress" (174 : Nat) ({ cls := "RiddlePress$OwnRule", name := "findCounterexample", desc := "()V" } : Jvm.MethodName)) ∈ ab_T := ab_w3 124 rfl rfl
theorem wd_3_125 : (Jvm.Cond.instanceMethod ({ cls := "RiddlePress$OwnRule", name := "findCounterexample", desc := "()V" } : Jvm.MethodName)) ∈ ab_T := ab_w3 125 rfl rfl
theorem wd_3_126 : (Jvm.Cond.selects "RiddlePress$OwnRule" ({ cls := "RiddlePress$OwnRule", name := "findCounterexample", desc := "()V" } : Jvm.MethodName) ({ cls := "RiddlePress$OwnRule", name := "findCounterexample", desc := "()V" } : Jvm.MethodName)) ∈ ab_T := ab_w3 126 rfl rfl
theorem wd_3_127 : (Jvm.Cond.code ({ cls := "RiddlePress$OwnRule", name := "findCounterexample", desc := "()V" } : Jvm.MethodName) prog_6_method_4_code (3 : Nat) (Option.none : Option Jvm.ClassFile.FieldType)) ∈ ab_T := ab_w3 127 rfl rfl
theorem wd_3_128 : (Jvm.Cond.classLink "RiddlePress$OwnRule" (33 : Nat) "RiddlePress$Clue") ∈ ab_T := ab_w3 128 rfl rfl
theorem wd_3_129 : (Jvm.Cond.methodLink "RiddlePress$OwnRule" (49 : Nat) ({ cls := "RiddlePress$Clue", name := "<init>", desc := "(CIII)V" } : Jvm.MethodName)) ∈ ab_T := ab_w3 129 rfl rfl
theorem wd_3_130 : (Jvm.Cond.classLink "RiddlePress$OwnRule" (52 : Nat) "RiddlePress$Order") ∈ ab_T := ab_w3 130 rfl rfl
theorem wd_3_131 : (Jvm.Cond.instantiable "RiddlePress$Order" (1 : Nat)) ∈ ab_T := ab_w3 131 rfl rfl
theorem wd_3_132 : (Jvm.Cond.methodLink "RiddlePress$OwnRule" (54 : Nat) ({ cls := "RiddlePress$Order", name := "<init>", desc := "(I)V" } : Jvm.MethodName)) ∈ ab_T := ab_w3 132 rfl rfl
theorem wd_3_133 : (Jvm.Cond.instanceMethod ({ cls := "RiddlePress$Order", name := "<init>", desc := "(I)V" } : Jvm.MethodName)) ∈ ab_T := ab_w3 133 rfl rfl
theorem wd_3_134 : (Jvm.Cond.code ({ cls := "RiddlePress$Order", name := "<init>", desc := "(I)V" } : Jvm.MethodName) prog_5_method_1_code (3 : Nat) (Option.none : Option Jvm.ClassFile.FieldType)) ∈ ab_T := ab_w3 134 rfl rfl
theorem wd_3_135 : (Jvm.Cond.methodLink "RiddlePress$Order" (3 : Nat) ({ cls := "java/lang/Object", name := "<init>", desc := "()V" } : Jvm.MethodName)) ∈ ab_T := ab_w3 135 rfl rfl
theorem wd_3_136 : (Jvm.Cond.fieldLink "RiddlePress$Order" (9 : Nat) "RiddlePress$Order" "places" "[I") ∈ ab_T := ab_w3 136 rfl rfl
theorem wd_3_137 : (Jvm.Cond.laysFinal "RiddlePress$Order" "RiddlePress$Order" "places" "[I") ∈ ab_T := ab_w3 137 rfl rfl
theorem wd_3_140 : (Jvm.Cond.methodLink "RiddlePress$OwnRule" (57 : Nat) ({ cls := "RiddlePress$OwnRule", name := "placesOf", desc := "(I)I" } : Jvm.MethodName)) ∈ ab_T := ab_w3 140 rfl rfl
theorem wd_3_141 : (Jvm.Cond.instanceMethod ({ cls := "RiddlePress$OwnRule", name := "placesOf", desc := "(I)I" } : Jvm.MethodName)) ∈ ab_T := ab_w3 141 rfl rfl
theorem wd_3_142 : (Jvm.Cond.selects "RiddlePress$OwnRule" ({ cls := "RiddlePress$OwnRule", name := "placesOf", desc := "(I)I" } : Jvm.MethodName) ({ cls := "RiddlePress$OwnRule", name := "placesOf", desc := "(I)I" } : Jvm.MethodName)) ∈ ab_T := ab_w3 142 rfl rfl
theorem wd_3_143 : (Jvm.Cond.code ({ cls := "RiddlePress$OwnRule", name := "placesOf", desc := "(I)I" } : Jvm.MethodName) prog_6_method_3_code (4 : Nat) (Option.some Jvm.ClassFile.FieldType.int)) ∈ ab_T := ab_w3 143 rfl rfl
theorem wd_3_144 : (Jvm.Cond.methodLink "RiddlePress$OwnRule" (43 : Nat) ({ cls := "java/lang/Math", name := "min", desc := "(II)I" } : Jvm.MethodName)) ∈ ab_T := ab_w3 144 rfl rfl
theorem wd_3_145 : (Jvm.Cond.methodLink "RiddlePress$OwnRule" (61 : Nat) ({ cls := "RiddlePress$OwnRule", name := "findCounterexampleOf", desc := "(LRiddlePress$Order;LRiddlePress$Clue;I)V" } : Jvm.MethodName)) ∈ ab_T := ab_w3 145 rfl rfl
theorem wd_3_147 : (Jvm.Cond.instanceMethod ({ cls := "RiddlePress$OwnRule", name := "findCounterexampleOf", desc := "(LRiddlePress$Order;LRiddlePress$Clue;I)V" } : Jvm.MethodName)) ∈ ab_T := ab_w3 147 rfl rfl
theorem wd_3_148 : (Jvm.Cond.code ({ cls := "RiddlePress$OwnRule", name := "findCounterexampleOf", desc := "(LRiddlePress$Order;LRiddlePress$Clue;I)V" } : Jvm.MethodName) prog_6_method_5_code (7 : Nat) (Option.none : Option Jvm.ClassFile.FieldType)) ∈ ab_T := ab_w3 148 rfl rfl
theorem wd_3_149 : (Jvm.Cond.methodLink "RiddlePress$OwnRule" (65 : Nat) ({ cls := "RiddlePress$OwnRule", name := "personIn", desc := "(LRiddlePress$Clue;)I" } : Jvm.MethodName)) ∈ ab_T := ab_w3 149 rfl rfl
theorem wd_3_150 : (Jvm.Cond.instanceMethod ({ cls := "RiddlePress$OwnRule", name := "personIn", desc := "(LRiddlePress$Clue;)I" } : Jvm.MethodName)) ∈ ab_T := ab_w3 150 rfl rfl
theorem wd_3_151 : (Jvm.Cond.selects "RiddlePress$OwnRule" ({ cls := "RiddlePress$OwnRule", name := "personIn", desc := "(LRiddlePress$Clue;)I" } : Jvm.MethodName) ({ cls := "RiddlePress$OwnRule", name := "personIn", desc := "(LRiddlePress$Clue;)I" } : Jvm.MethodName)) ∈ ab_T := ab_w3 151 rfl rfl
theorem wd_3_152 : (Jvm.Cond.code ({ cls := "RiddlePress$OwnRule", name := "personIn", desc := "(LRiddlePress$Clue;)I" } : Jvm.MethodName) prog_6_method_2_code (2 : Nat) (Option.some Jvm.ClassFile.FieldType.int)) ∈ ab_T := ab_w3 152 rfl rfl
theorem wd_3_153 : (Jvm.Cond.methodLink "RiddlePress$OwnRule" (69 : Nat) ({ cls := "RiddlePress$Order", name := "placeOf", desc := "(I)I" } : Jvm.MethodName)) ∈ ab_T := ab_w3 153 rfl rfl
theorem wd_3_154 : (Jvm.Cond.instanceMethod ({ cls := "RiddlePress$Order", name := "placeOf", desc := "(I)I" } : Jvm.MethodName)) ∈ ab_T := ab_w3 154 rfl rfl
theorem wd_3_155 : (Jvm.Cond.selects "RiddlePress$Order" ({ cls := "RiddlePress$Order", name := "placeOf", desc := "(I)I" } : Jvm.MethodName) ({ cls := "RiddlePress$Order", name := "placeOf", desc := "(I)I" } : Jvm.MethodName)) ∈ ab_T := ab_w3 155 rfl rfl
theorem wd_3_156 : (Jvm.Cond.code ({ cls := "RiddlePress$Order", name := "placeOf", desc := "(I)I" } : Jvm.MethodName) prog_5_method_2_code (2 : Nat) (Option.some Jvm.ClassFile.FieldType.int)) ∈ ab_T := ab_w3 156 rfl rfl
theorem wd_3_157 : (Jvm.Cond.methodLink "RiddlePress$OwnRule" (72 : Nat) ({ cls := "RiddlePress$Clue", name := "isFitBy", desc := "(LRiddlePress$Order;)Z" } : Jvm.MethodName)) ∈ ab_T := ab_w3 157 rfl rfl
theorem wd_3_158 : (Jvm.Cond.instanceMethod ({ cls := "RiddlePress$Clue", name := "isFitBy", desc := "(LRiddlePress$Order;)Z" } : Jvm.MethodName)) ∈ ab_T := ab_w3 158 rfl rfl
theorem wd_3_159 : (Jvm.Cond.selects "RiddlePress$Clue" ({ cls := "RiddlePress$Clue", name := "isFitBy", desc := "(LRiddlePress$Order;)Z" } : Jvm.MethodName) ({ cls := "RiddlePress$Clue", name := "isFitBy", desc := "(LRiddlePress$Order;)Z" } : Jvm.MethodName)) ∈ ab_T := ab_w3 159 rfl rfl
theorem wd_3_160 : (Jvm.Cond.code ({ cls := "RiddlePress$Clue", name := "isFitBy", desc := "(LRiddlePress$Order;)Z" } : Jvm.MethodName) prog_2_method_4_code (4 : Nat) (Option.some Jvm.ClassFile.FieldType.boolean)) ∈ ab_T := ab_w3 160 rfl rfl
theorem wd_3_161 : (Jvm.Cond.methodLink "RiddlePress$Clue" (37 : Nat) ({ cls := "RiddlePress$Order", name := "placeOf", desc := "(I)I" } : Jvm.MethodName)) ∈ ab_T := ab_w3 161 rfl rfl
theorem wd_3_162 : (Jvm.Cond.methodLink "RiddlePress$Clue" (42 : Nat) ({ cls := "java/lang/Math", name := "abs", desc := "(I)I" } : Jvm.MethodName)) ∈ ab_T := ab_w3 162 rfl rfl
theorem wd_3_163 : (Jvm.Cond.static ({ cls := "java/lang/Math", name := "abs", desc := "(I)I" } : Jvm.MethodName)) ∈ ab_T := ab_w3 163 rfl rfl
theorem wd_3_164 : (Jvm.Cond.code ({ cls := "java/lang/Math", name := "abs", desc := "(I)I" } : Jvm.MethodName) prog_25_method_59_code (1 : Nat) (Option.some Jvm.ClassFile.FieldType.int)) ∈ ab_T := ab_w3 164 rfl rfl
theorem wd_3_165 : (Jvm.Cond.methodLink "RiddlePress$Clue" (47 : Nat) ({ cls := "java/lang/Math", name := "min", desc := "(II)I" } : Jvm.MethodName)) ∈ ab_T := ab_w3 165 rfl rfl
theorem wd_3_166 : (Jvm.Cond.methodLink "RiddlePress$Clue" (51 : Nat) ({ cls := "java/lang/Math", name := "max", desc := "(II)I" } : Jvm.MethodName)) ∈ ab_T := ab_w3 166 rfl rfl
theorem wd_3_167 : (Jvm.Cond.methodLink "RiddlePress$OwnRule" (76 : Nat) ({ cls := "RiddlePress$Order", name := "digits", desc := "()I" } : Jvm.MethodName)) ∈ ab_T := ab_w3 167 rfl rfl
theorem wd_3_168 : (Jvm.Cond.instanceMethod ({ cls := "RiddlePress$Order", name := "digits", desc := "()I" } : Jvm.MethodName)) ∈ ab_T := ab_w3 168 rfl rfl
theorem wd_3_169 : (Jvm.Cond.selects "RiddlePress$Order" ({ cls := "RiddlePress$Order", name := "digits", desc := "()I" } : Jvm.MethodName) ({ cls := "RiddlePress$Order", name := "digits", desc := "()I" } : Jvm.MethodName)) ∈ ab_T := ab_w3 169 rfl rfl
theorem wd_3_170 : (Jvm.Cond.code ({ cls := "RiddlePress$Order", name := "digits", desc := "()I" } : Jvm.MethodName) prog_5_method_5_code (3 : Nat) (Option.some Jvm.ClassFile.FieldType.int)) ∈ ab_T := ab_w3 170 rfl rfl
theorem wd_3_171 : (Jvm.Cond.methodLink "RiddlePress$OwnRule" (80 : Nat) ({ cls := "RiddlePress$Order", name := "goOn", desc := "()Z" } : Jvm.MethodName)) ∈ ab_T := ab_w3 171 rfl rfl
theorem wd_3_172 : (Jvm.Cond.instanceMethod ({ cls := "RiddlePress$Order", name := "goOn", desc := "()Z" } : Jvm.MethodName)) ∈ ab_T := ab_w3 172 rfl rfl
theorem wd_3_173 : (Jvm.Cond.selects "RiddlePress$Order" ({ cls := "RiddlePress$Order", name := "goOn", desc := "()Z" } : Jvm.MethodName) ({ cls := "RiddlePress$Order", name := "goOn", desc := "()Z" } : Jvm.MethodName)) ∈ ab_T := ab_w3 173 rfl rfl
theorem wd_3_174 : (Jvm.Cond.code ({ cls := "RiddlePress$Order", name := "goOn", desc := "()Z" } : Jvm.MethodName) prog_5_method_3_code (5 : Nat) (Option.some Jvm.ClassFile.FieldType.boolean)) ∈ ab_T := ab_w3 174 rfl rfl
theorem wd_3_175 : (Jvm.Cond.methodLink "RiddlePress$Order" (15 : Nat) ({ cls := "RiddlePress$Order", name := "exchange", desc := "(II)V" } : Jvm.MethodName)) ∈ ab_T := ab_w3 175 rfl rfl
theorem wd_3_177 : (Jvm.Cond.instanceMethod ({ cls := "RiddlePress$Order", name := "exchange", desc := "(II)V" } : Jvm.MethodName)) ∈ ab_T := ab_w3 177 rfl rfl
theorem wd_3_178 : (Jvm.Cond.code ({ cls := "RiddlePress$Order", name := "exchange", desc := "(II)V" } : Jvm.MethodName) prog_5_method_4_code (4 : Nat) (Option.none : Option Jvm.ClassFile.FieldType)) ∈ ab_T := ab_w3 178 rfl rfl
theorem wd_3_187 : (Jvm.Cond.classLink "RiddlePress" (250 : Nat) "RiddlePress$Customer") ∈ ab_T := ab_w3 187 rfl rfl
theorem wd_3_188 : (Jvm.Cond.instantiable "RiddlePress$Customer" (3 : Nat)) ∈ ab_T := ab_w3 188 rfl rfl
theorem wd_3_189 : (Jvm.Cond.methodLink "RiddlePress" (252 : Nat) ({ cls := "RiddlePress$Customer", name := "<init>", desc := "()V" } : Jvm.MethodName)) ∈ ab_T := ab_w3 189 rfl rfl
theorem wd_3_190 : (Jvm.Cond.instanceMethod ({ cls := "RiddlePress$Customer", name := "<init>", desc := "()V" } : Jvm.MethodName)) ∈ ab_T := ab_w3 190 rfl rfl
theorem wd_3_191 : (Jvm.Cond.code ({ cls := "RiddlePress$Customer", name := "<init>", desc := "()V" } : Jvm.MethodName) prog_3_method_1_code (1 : Nat) (Option.none : Option Jvm.ClassFile.FieldType)) ∈ ab_T := ab_w3 191 rfl rfl
theorem wd_3_192 : (Jvm.Cond.methodLink "RiddlePress$Customer" (3 : Nat) ({ cls := "java/lang/Object", name := "<init>", desc := "()V" } : Jvm.MethodName)) ∈ ab_T := ab_w3 192 rfl rfl
theorem wd_3_193 : (Jvm.Cond.fieldLink "RiddlePress$Customer" (9 : Nat) "RiddlePress$Customer" "credits" "I") ∈ ab_T := ab_w3 193 rfl rfl
theorem wd_3_194 : (Jvm.Cond.fieldLink "RiddlePress" (260 : Nat) "RiddlePress$Customer" "credits" "I") ∈ ab_T := ab_w3 194 rfl rfl
theorem wd_3_195 : (Jvm.Cond.fieldLink "RiddlePress$Customer" (15 : Nat) "RiddlePress$Customer" "subscribed" "I") ∈ ab_T := ab_w3 195 rfl rfl
theorem wd_3_196 : (Jvm.Cond.fieldLink "RiddlePress" (271 : Nat) "RiddlePress$Customer" "subscribed" "I") ∈ ab_T := ab_w3 196 rfl rfl
theorem wd_3_197 : (Jvm.Cond.fieldLink "RiddlePress$Customer" (18 : Nat) "RiddlePress$Customer" "isOwner" "[Z") ∈ ab_T := ab_w3 197 rfl rfl
theorem wd_3_198 : (Jvm.Cond.lays "RiddlePress$Customer" "RiddlePress$Customer" "credits" "I") ∈ ab_T := ab_w3 198 rfl rfl
theorem wd_3_200 : (Jvm.Cond.lays "RiddlePress$Customer" "RiddlePress$Customer" "subscribed" "I") ∈ ab_T := ab_w3 200 rfl rfl
theorem wd_3_202 : (Jvm.Cond.laysFinal "RiddlePress$Customer" "RiddlePress$Customer" "isOwner" "[Z") ∈ ab_T := ab_w3 202 rfl rfl
theorem wd_3_205 : (Jvm.Cond.arrayClass Jvm.ClassFile.FieldType.boolean) ∈ ab_T := ab_w3 205 rfl rfl
theorem wd_3_227 : (Jvm.Cond.methodLink "RiddlePress" (253 : Nat) ({ cls := "RiddlePress", name := "findCustomer", desc := "(I)LRiddlePress$Customer;" } : Jvm.MethodName)) ∈ ab_T := ab_w3 227 rfl rfl
theorem wd_3_229 : (Jvm.Cond.instanceMethod ({ cls := "RiddlePress", name := "findCustomer", desc := "(I)LRiddlePress$Customer;" } : Jvm.MethodName)) ∈ ab_T := ab_w3 229 rfl rfl
theorem wd_3_230 : (Jvm.Cond.code ({ cls := "RiddlePress", name := "findCustomer", desc := "(I)LRiddlePress$Customer;" } : Jvm.MethodName) prog_1_method_36_code (2 : Nat) (Option.some (Jvm.ClassFile.FieldType.object "RiddlePress$Customer"))) ∈ ab_T := ab_w3 230 rfl rfl
theorem wd_3_232 : (Jvm.Cond.constant "RiddlePress" (257 : Nat) (2000000000 : Int32)) ∈ ab_T := ab_w3 232 rfl rfl
theorem wd_3_234 : (Jvm.Cond.constant "RiddlePress" (263 : Nat) (2147483647 : Int32)) ∈ ab_T := ab_w3 234 rfl rfl
theorem wd_3_235 : (Jvm.Cond.classLink "RiddlePress" (264 : Nat) "java/lang/ArithmeticException") ∈ ab_T := ab_w3 235 rfl rfl
theorem wd_3_237 : (Jvm.Cond.methodLink "RiddlePress" (268 : Nat) ({ cls := "java/lang/ArithmeticException", name := "<init>", desc := "(Ljava/lang/String;)V" } : Jvm.MethodName)) ∈ ab_T := ab_w3 237 rfl rfl
theorem wd_4_23 : (Jvm.Cond.methodLink "RiddlePress" (124 : Nat) ({ cls := "RiddlePress$Proof", name := "make", desc := "(Ljava/util/List;Ljava/util/List;)V" } : Jvm.MethodName)) ∈ ab_T := ab_w4 23 rfl rfl
theorem wd_4_24 : (Jvm.Cond.instanceMethod ({ cls := "RiddlePress$Proof", name := "make", desc := "(Ljava/util/List;Ljava/util/List;)V" } : Jvm.MethodName)) ∈ ab_T := ab_w4 24 rfl rfl
theorem wd_4_25 : (Jvm.Cond.selects "RiddlePress$Proof" ({ cls := "RiddlePress$Proof", name := "make", desc := "(Ljava/util/List;Ljava/util/List;)V" } : Jvm.MethodName) ({ cls := "RiddlePress$Proof", name := "make", desc := "(Ljava/util/List;Ljava/util/List;)V" } : Jvm.MethodName)) ∈ ab_T := ab_w4 25 rfl rfl
theorem wd_4_26 : (Jvm.Cond.code ({ cls := "RiddlePress$Proof", name := "make", desc := "(Ljava/util/List;Ljava/util/List;)V" } : Jvm.MethodName) prog_8_method_5_code (6 : Nat) (Option.none : Option Jvm.ClassFile.FieldType)) ∈ ab_T := ab_w4 26 rfl rfl
theorem wd_4_27 : (Jvm.Cond.methodLink "RiddlePress$Proof" (41 : Nat) ({ cls := "RiddlePress$Proof", name := "lose", desc := "()V" } : Jvm.MethodName)) ∈ ab_T := ab_w4 27 rfl rfl
theorem wd_4_28 : (Jvm.Cond.instanceMethod ({ cls := "RiddlePress$Proof", name := "lose", desc := "()V" } : Jvm.MethodName)) ∈ ab_T := ab_w4 28 rfl rfl
theorem wd_4_29 : (Jvm.Cond.selects "RiddlePress$Proof" ({ cls := "RiddlePress$Proof", name := "lose", desc := "()V" } : Jvm.MethodName) ({ cls := "RiddlePress$Proof", name := "lose", desc := "()V" } : Jvm.MethodName)) ∈ ab_T := ab_w4 29 rfl rfl
theorem wd_4_30 : (Jvm.Cond.code ({ cls := "RiddlePress$Proof", name := "lose", desc := "()V" } : Jvm.MethodName) prog_8_method_4_code (1 : Nat) (Option.none : Option Jvm.ClassFile.FieldType)) ∈ ab_T := ab_w4 30 rfl rfl
theorem wd_4_31 : (Jvm.Cond.methodLink "RiddlePress$Proof" (44 : Nat) ({ cls := "RiddlePress$Places", name := "giveAll", desc := "()V" } : Jvm.MethodName)) ∈ ab_T := ab_w4 31 rfl rfl
theorem wd_4_32 : (Jvm.Cond.instanceMethod ({ cls := "RiddlePress$Places", name := "giveAll", desc := "()V" } : Jvm.MethodName)) ∈ ab_T := ab_w4 32 rfl rfl
theorem wd_4_33 : (Jvm.Cond.selects "RiddlePress$Places" ({ cls := "RiddlePress$Places", name := "giveAll", desc := "()V" } : Jvm.MethodName) ({ cls := "RiddlePress$Places", name := "giveAll", desc := "()V" } : Jvm.MethodName)) ∈ ab_T := ab_w4 33 rfl rfl
theorem wd_4_34 : (Jvm.Cond.code ({ cls := "RiddlePress$Places", name := "giveAll", desc := "()V" } : Jvm.MethodName) prog_7_method_3_code (2 : Nat) (Option.none : Option Jvm.ClassFile.FieldType)) ∈ ab_T := ab_w4 34 rfl rfl
theorem wd_4_35 : (Jvm.Cond.methodLink "RiddlePress$Proof" (47 : Nat) ({ cls := "RiddlePress$Proof", name := "makeStepByClues", desc := "(Ljava/util/List;)Z" } : Jvm.MethodName)) ∈ ab_T := ab_w4 35 rfl rfl
theorem wd_4_37 : (Jvm.Cond.instanceMethod ({ cls := "RiddlePress$Proof", name := "makeStepByClues", desc := "(Ljava/util/List;)Z" } : Jvm.MethodName)) ∈ ab_T := ab_w4 37 rfl rfl
theorem wd_4_38 : (Jvm.Cond.code ({ cls := "RiddlePress$Proof", name := "makeStepByClues", desc := "(Ljava/util/List;)Z" } : Jvm.MethodName) prog_8_method_6_code (5 : Nat) (Option.some Jvm.ClassFile.FieldType.boolean)) ∈ ab_T := ab_w4 38 rfl rfl
theorem wd_4_40 : (Jvm.Cond.methodLink "RiddlePress$Proof" (71 : Nat) ({ cls := "java/util/List", name := "size", desc := "()I" } : Jvm.MethodName)) ∈ ab_T := ab_w4 40 rfl rfl
theorem wd_4_42 : (Jvm.Cond.methodLink "RiddlePress$Proof" (77 : Nat) ({ cls := "java/util/List", name := "get", desc := "(I)Ljava/lang/Object;" } : Jvm.MethodName)) ∈ ab_T := ab_w4 42 rfl rfl
theorem wd_4_43 : (Jvm.Cond.classLink "RiddlePress$Proof" (81 : Nat) "RiddlePress$Clue") ∈ ab_T := ab_w4 43 rfl rfl
theorem wd_4_44 : (Jvm.Cond.methodLink "RiddlePress$Proof" (83 : Nat) ({ cls := "RiddlePress$Clue", name := "ruleNumber", desc := "()I" } : Jvm.MethodName)) ∈ ab_T := ab_w4 44 rfl rfl
theorem wd_4_45 : (Jvm.Cond.methodLink "RiddlePress$Proof" (86 : Nat) ({ cls := "RiddlePress$Places", name := "takeByClue", desc := "(LRiddlePress$Clue;)I" } : Jvm.MethodName)) ∈ ab_T := ab_w4 45 rfl rfl
theorem wd_4_46 : (Jvm.Cond.instanceMethod ({ cls := "RiddlePress$Places", name := "takeByClue", desc := "(LRiddlePress$Clue;)I" } : Jvm.MethodName)) ∈ ab_T := ab_w4 46 rfl rfl
theorem wd_4_47 : (Jvm.Cond.selects "RiddlePress$Places" ({ cls := "RiddlePress$Places", name := "takeByClue", desc := "(LRiddlePress$Clue;)I" } : Jvm.MethodName) ({ cls := "RiddlePress$Places", name := "takeByClue", desc := "(LRiddlePress$Clue;)I" } : Jvm.MethodName)) ∈ ab_T := ab_w4 47 rfl rfl
theorem wd_4_48 : (Jvm.Cond.code ({ cls := "RiddlePress$Places", name := "takeByClue", desc := "(LRiddlePress$Clue;)I" } : Jvm.MethodName) prog_7_method_6_code (2 : Nat) (Option.some Jvm.ClassFile.FieldType.int)) ∈ ab_T := ab_w4 48 rfl rfl
theorem wd_4_49 : (Jvm.Cond.methodLink "RiddlePress$Places" (34 : Nat) ({ cls := "RiddlePress$Places", name := "keep", desc := "(II)I" } : Jvm.MethodName)) ∈ ab_T := ab_w4 49 rfl rfl
theorem wd_4_51 : (Jvm.Cond.instanceMethod ({ cls := "RiddlePress$Places", name := "keep", desc := "(II)I" } : Jvm.MethodName)) ∈ ab_T := ab_w4 51 rfl rfl
theorem wd_4_52 : (Jvm.Cond.code ({ cls := "RiddlePress$Places", name := "keep", desc := "(II)I" } : Jvm.MethodName) prog_7_method_19_code (4 : Nat) (Option.some Jvm.ClassFile.FieldType.int)) ∈ ab_T := ab_w4 52 rfl rfl
theorem wd_4_53 : (Jvm.Cond.methodLink "RiddlePress$Places" (15 : Nat) ({ cls := "java/lang/Integer", name := "bitCount", desc := "(I)I" } : Jvm.MethodName)) ∈ ab_T := ab_w4 53 rfl rfl
theorem wd_4_54 : (Jvm.Cond.static ({ cls := "java/lang/Integer", name := "bitCount", desc := "(I)I" } : Jvm.MethodName)) ∈ ab_T := ab_w4 54 rfl rfl
theorem wd_4_55 : (Jvm.Cond.code ({ cls := "java/lang/Integer", name := "bitCount", desc := "(I)I" } : Jvm.MethodName) prog_23_method_49_code (1 : Nat) (Option.some Jvm.ClassFile.FieldType.int)) ∈ ab_T := ab_w4 55 rfl rfl
theorem wd_4_56 : (Jvm.Cond.constant "java/lang/Integer" (265 : Nat) (1431655765 : Int32)) ∈ ab_T := ab_w4 56 rfl rfl
theorem wd_4_57 : (Jvm.Cond.constant "java/lang/Integer" (266 : Nat) (858993459 : Int32)) ∈ ab_T := ab_w4 57 rfl rfl
theorem wd_4_58 : (Jvm.Cond.constant "java/lang/Integer" (267 : Nat) (252645135 : Int32)) ∈ ab_T := ab_w4 58 rfl rfl
theorem wd_4_59 : (Jvm.Cond.methodLink "RiddlePress$Places" (38 : Nat) ({ cls := "RiddlePress$Places", name := "takeByBefore", desc := "(II)I" } : Jvm.MethodName)) ∈ ab_T := ab_w4 59 rfl rfl
theorem wd_4_61 : (Jvm.Cond.instanceMethod ({ cls := "RiddlePress$Places", name := "takeByBefore", desc := "(II)I" } : Jvm.MethodName)) ∈ ab_T := ab_w4 61 rfl rfl
theorem wd_4_62 : (Jvm.Cond.code ({ cls := "RiddlePress$Places", name := "takeByBefore", desc := "(II)I" } : Jvm.MethodName) prog_7_method_12_code (4 : Nat) (Option.some Jvm.ClassFile.FieldType.int)) ∈ ab_T := ab_w4 62 rfl rfl
theorem wd_4_63 : (Jvm.Cond.methodLink "RiddlePress$Places" (64 : Nat) ({ cls := "RiddlePress$Places", name := "setOf", desc := "(I)I" } : Jvm.MethodName)) ∈ ab_T := ab_w4 63 rfl rfl
theorem wd_4_65 : (Jvm.Cond.instanceMethod ({ cls := "RiddlePress$Places", name := "setOf", desc := "(I)I" } : Jvm.MethodName)) ∈ ab_T := ab_w4 65 rfl rfl
theorem wd_4_66 : (Jvm.Cond.code ({ cls := "RiddlePress$Places", name := "setOf", desc := "(I)I" } : Jvm.MethodName) prog_7_method_18_code (2 : Nat) (Option.some Jvm.ClassFile.FieldType.int)) ∈ ab_T := ab_w4 66 rfl rfl
theorem wd_4_67 : (Jvm.Cond.methodLink "RiddlePress$Places" (70 : Nat) ({ cls := "RiddlePress$Places", name := "leftOf", desc := "(I)I" } : Jvm.MethodName)) ∈ ab_T := ab_w4 67 rfl rfl
theorem wd_4_68 : (Jvm.Cond.static ({ cls := "RiddlePress$Places", name := "leftOf", desc := "(I)I" } : Jvm.MethodName)) ∈ ab_T := ab_w4 68 rfl rfl
theorem wd_4_69 : (Jvm.Cond.code ({ cls := "RiddlePress$Places", name := "leftOf", desc := "(I)I" } : Jvm.MethodName) prog_7_method_16_code (3 : Nat) (Option.some Jvm.ClassFile.FieldType.int)) ∈ ab_T := ab_w4 69 rfl rfl
theorem wd_4_70 : (Jvm.Cond.methodLink "RiddlePress$Places" (73 : Nat) ({ cls := "RiddlePress$Places", name := "rightOf", desc := "(I)I" } : Jvm.MethodName)) ∈ ab_T := ab_w4 70 rfl rfl
theorem wd_4_71 : (Jvm.Cond.static ({ cls := "RiddlePress$Places", name := "rightOf", desc := "(I)I" } : Jvm.MethodName)) ∈ ab_T := ab_w4 71 rfl rfl
theorem wd_4_72 : (Jvm.Cond.code ({ cls := "RiddlePress$Places", name := "rightOf", desc := "(I)I" } : Jvm.MethodName) prog_7_method_17_code (3 : Nat) (Option.some Jvm.ClassFile.FieldType.int)) ∈ ab_T := ab_w4 72 rfl rfl
theorem wd_4_73 : (Jvm.Cond.methodLink "RiddlePress$Places" (41 : Nat) ({ cls := "RiddlePress$Places", name := "takeByDistance", desc := "(III)I" } : Jvm.MethodName)) ∈ ab_T := ab_w4 73 rfl rfl
theorem wd_4_75 : (Jvm.Cond.instanceMethod ({ cls := "RiddlePress$Places", name := "takeByDistance", desc := "(III)I" } : Jvm.MethodName)) ∈ ab_T := ab_w4 75 rfl rfl
theorem wd_4_76 : (Jvm.Cond.code ({ cls := "RiddlePress$Places", name := "takeByDistance", desc := "(III)I" } : Jvm.MethodName) prog_7_method_13_code (5 : Nat) (Option.some Jvm.ClassFile.FieldType.int)) ∈ ab_T := ab_w4 76 rfl rfl
theorem wd_4_77 : (Jvm.Cond.methodLink "RiddlePress$Places" (45 : Nat) ({ cls := "RiddlePress$Places", name := "takeByNextLeft", desc := "(II)I" } : Jvm.MethodName)) ∈ ab_T := ab_w4 77 rfl rfl
theorem wd_4_79 : (Jvm.Cond.instanceMethod ({ cls := "RiddlePress$Places", name := "takeByNextLeft", desc := "(II)I" } : Jvm.MethodName)) ∈ ab_T := ab_w4 79 rfl rfl
theorem wd_4_80 : (Jvm.Cond.code ({ cls := "RiddlePress$Places", name := "takeByNextLeft", desc := "(II)I" } : Jvm.MethodName) prog_7_method_14_code (4 : Nat) (Option.some Jvm.ClassFile.FieldType.int)) ∈ ab_T := ab_w4 80 rfl rfl
theorem wd_4_81 : (Jvm.Cond.methodLink "RiddlePress$Places" (51 : Nat) ({ cls := "RiddlePress$Places", name := "takeByBetween", desc := "(III)I" } : Jvm.MethodName)) ∈ ab_T := ab_w4 81 rfl rfl
theorem wd_4_83 : (Jvm.Cond.instanceMethod ({ cls := "RiddlePress$Places", name := "takeByBetween", desc := "(III)I" } : Jvm.MethodName)) ∈ ab_T := ab_w4 83 rfl rfl
theorem wd_4_84 : (Jvm.Cond.code ({ cls := "RiddlePress$Places", name := "takeByBetween", desc := "(III)I" } : Jvm.MethodName) prog_7_method_15_code (6 : Nat) (Option.some Jvm.ClassFile.FieldType.int)) ∈ ab_T := ab_w4 84 rfl rfl
theorem wd_4_85 : (Jvm.Cond.methodLink "RiddlePress$Proof" (90 : Nat) ({ cls := "RiddlePress$Proof", name := "addStep", desc := "(III)Z" } : Jvm.MethodName)) ∈ ab_T := ab_w4 85 rfl rfl
theorem wd_4_87 : (Jvm.Cond.instanceMethod ({ cls := "RiddlePress$Proof", name := "addStep", desc := "(III)Z" } : Jvm.MethodName)) ∈ ab_T := ab_w4 87 rfl rfl
theorem wd_4_88 : (Jvm.Cond.code ({ cls := "RiddlePress$Proof", name := "addStep", desc := "(III)Z" } : Jvm.MethodName) prog_8_method_11_code (4 : Nat) (Option.some Jvm.ClassFile.FieldType.boolean)) ∈ ab_T := ab_w4 88 rfl rfl
theorem wd_4_89 : (Jvm.Cond.methodLink "RiddlePress$Proof" (51 : Nat) ({ cls := "RiddlePress$Proof", name := "makeStepByPersons", desc := "()Z" } : Jvm.MethodName)) ∈ ab_T := ab_w4 89 rfl rfl
theorem wd_4_91 : (Jvm.Cond.instanceMethod ({ cls := "RiddlePress$Proof", name := "makeStepByPersons", desc := "()Z" } : Jvm.MethodName)) ∈ ab_T := ab_w4 91 rfl rfl
theorem wd_4_92 : (Jvm.Cond.code ({ cls := "RiddlePress$Proof", name := "makeStepByPersons", desc := "()Z" } : Jvm.MethodName) prog_8_method_7_code (2 : Nat) (Option.some Jvm.ClassFile.FieldType.boolean)) ∈ ab_T := ab_w4 92 rfl rfl
theorem wd_4_93 : (Jvm.Cond.methodLink "RiddlePress$Proof" (94 : Nat) ({ cls := "RiddlePress$Places", name := "count", desc := "()I" } : Jvm.MethodName)) ∈ ab_T := ab_w4 93 rfl rfl
theorem wd_4_94 : (Jvm.Cond.instanceMethod ({ cls := "RiddlePress$Places", name := "count", desc := "()I" } : Jvm.MethodName)) ∈ ab_T := ab_w4 94 rfl rfl
theorem wd_4_95 : (Jvm.Cond.selects "RiddlePress$Places" ({ cls := "RiddlePress$Places", name := "count", desc := "()I" } : Jvm.MethodName) ({ cls := "RiddlePress$Places", name := "count", desc := "()I" } : Jvm.MethodName)) ∈ ab_T := ab_w4 95 rfl rfl
theorem wd_4_96 : (Jvm.Cond.code ({ cls := "RiddlePress$Places", name := "count", desc := "()I" } : Jvm.MethodName) prog_7_method_2_code (1 : Nat) (Option.some Jvm.ClassFile.FieldType.int)) ∈ ab_T := ab_w4 96 rfl rfl
theorem wd_4_97 : (Jvm.Cond.methodLink "RiddlePress$Proof" (97 : Nat) ({ cls := "RiddlePress$Places", name := "takeByPerson", desc := "(I)I" } : Jvm.MethodName)) ∈ ab_T := ab_w4 97 rfl rfl
theorem wd_4_98 : (Jvm.Cond.instanceMethod ({ cls := "RiddlePress$Places", name := "takeByPerson", desc := "(I)I" } : Jvm.MethodName)) ∈ ab_T := ab_w4 98 rfl rfl
theorem wd_4_99 : (Jvm.Cond.selects "RiddlePress$Places" ({ cls := "RiddlePress$Places", name := "takeByPerson", desc := "(I)I" } : Jvm.MethodName) ({ cls := "RiddlePress$Places", name := "takeByPerson", desc := "(I)I" } : Jvm.MethodName)) ∈ ab_T := ab_w4 99 rfl rfl
theorem wd_4_100 : (Jvm.Cond.code ({ cls := "RiddlePress$Places", name := "takeByPerson", desc := "(I)I" } : Jvm.MethodName) prog_7_method_8_code (3 : Nat) (Option.some Jvm.ClassFile.FieldType.int)) ∈ ab_T := ab_w4 100 rfl rfl
theorem wd_4_101 : (Jvm.Cond.methodLink "RiddlePress$Places" (67 : Nat) ({ cls := "RiddlePress$Places", name := "takeFromOthers", desc := "(III)I" } : Jvm.MethodName)) ∈ ab_T := ab_w4 101 rfl rfl
theorem wd_4_103 : (Jvm.Cond.instanceMethod ({ cls := "RiddlePress$Places", name := "takeFromOthers", desc := "(III)I" } : Jvm.MethodName)) ∈ ab_T := ab_w4 103 rfl rfl
theorem wd_4_104 : (Jvm.Cond.code ({ cls := "RiddlePress$Places", name := "takeFromOthers", desc := "(III)I" } : Jvm.MethodName) prog_7_method_11_code (6 : Nat) (Option.some Jvm.ClassFile.FieldType.int)) ∈ ab_T := ab_w4 104 rfl rfl
theorem wd_4_105 : (Jvm.Cond.methodLink "RiddlePress$Proof" (55 : Nat) ({ cls := "RiddlePress$Proof", name := "makeStepByPlaces", desc := "()Z" } : Jvm.MethodName)) ∈ ab_T := ab_w4 105 rfl rfl
theorem wd_4_107 : (Jvm.Cond.instanceMethod ({ cls := "RiddlePress$Proof", name := "makeStepByPlaces", desc := "()Z" } : Jvm.MethodName)) ∈ ab_T := ab_w4 107 rfl rfl
theorem wd_4_108 : (Jvm.Cond.code ({ cls := "RiddlePress$Proof", name := "makeStepByPlaces", desc := "()Z" } : Jvm.MethodName) prog_8_method_8_code (2 : Nat) (Option.some Jvm.ClassFile.FieldType.boolean)) ∈ ab_T := ab_w4 108 rfl rfl
theorem wd_4_109 : (Jvm.Cond.methodLink "RiddlePress$Proof" (101 : Nat) ({ cls := "RiddlePress$Places", name := "takeByPlace", desc := "(I)I" } : Jvm.MethodName)) ∈ ab_T := ab_w4 109 rfl rfl
theorem wd_4_110 : (Jvm.Cond.instanceMethod ({ cls := "RiddlePress$Places", name := "takeByPlace", desc := "(I)I" } : Jvm.MethodName)) ∈ ab_T := ab_w4 110 rfl rfl
theorem wd_4_111 : (Jvm.Cond.selects "RiddlePress$Places" ({ cls := "RiddlePress$Places", name := "takeByPlace", desc := "(I)I" } : Jvm.MethodName) ({ cls := "RiddlePress$Places", name := "takeByPlace", desc := "(I)I" } : Jvm.MethodName)) ∈ ab_T := ab_w4 111 rfl rfl
theorem wd_4_112 : (Jvm.Cond.code ({ cls := "RiddlePress$Places", name := "takeByPlace", desc := "(I)I" } : Jvm.MethodName) prog_7_method_9_code (5 : Nat) (Option.some Jvm.ClassFile.FieldType.int)) ∈ ab_T := ab_w4 112 rfl rfl
theorem wd_4_113 : (Jvm.Cond.methodLink "RiddlePress$Proof" (58 : Nat) ({ cls := "RiddlePress$Proof", name := "makeStepByPairs", desc := "()Z" } : Jvm.MethodName)) ∈ ab_T := ab_w4 113 rfl rfl
theorem wd_4_115 : (Jvm.Cond.instanceMethod ({ cls := "RiddlePress$Proof", name := "makeStepByPairs", desc := "()Z" } : Jvm.MethodName)) ∈ ab_T := ab_w4 115 rfl rfl
theorem wd_4_116 : (Jvm.Cond.code ({ cls := "RiddlePress$Proof", name := "makeStepByPairs", desc := "()Z" } : Jvm.MethodName) prog_8_method_9_code (4 : Nat) (Option.some Jvm.ClassFile.FieldType.boolean)) ∈ ab_T := ab_w4 116 rfl rfl
theorem wd_4_117 : (Jvm.Cond.methodLink "RiddlePress$Proof" (104 : Nat) ({ cls := "RiddlePress$Places", name := "takeByPair", desc := "(II)I" } : Jvm.MethodName)) ∈ ab_T := ab_w4 117 rfl rfl
theorem wd_4_118 : (Jvm.Cond.instanceMethod ({ cls := "RiddlePress$Places", name := "takeByPair", desc := "(II)I" } : Jvm.MethodName)) ∈ ab_T := ab_w4 118 rfl rfl
theorem wd_4_119 : (Jvm.Cond.selects "RiddlePress$Places" ({ cls := "RiddlePress$Places", name := "takeByPair", desc := "(II)I" } : Jvm.MethodName) ({ cls := "RiddlePress$Places", name := "takeByPair", desc := "(II)I" } : Jvm.MethodName)) ∈ ab_T := ab_w4 119 rfl rfl
theorem wd_4_120 : (Jvm.Cond.code ({ cls := "RiddlePress$Places", name := "takeByPair", desc := "(II)I" } : Jvm.MethodName) prog_7_method_10_code (4 : Nat) (Option.some Jvm.ClassFile.FieldType.int)) ∈ ab_T := ab_w4 120 rfl rfl
theorem wd_4_121 : (Jvm.Cond.methodLink "RiddlePress$Proof" (61 : Nat) ({ cls := "RiddlePress$Proof", name := "makeStepByOwnRules", desc := "(Ljava/util/List;Ljava/util/List;)Z" } : Jvm.MethodName)) ∈ ab_T := ab_w4 121 rfl rfl
theorem wd_4_123 : (Jvm.Cond.instanceMethod ({ cls := "RiddlePress$Proof", name := "makeStepByOwnRules", desc := "(Ljava/util/List;Ljava/util/List;)Z" } : Jvm.MethodName)) ∈ ab_T := ab_w4 123 rfl rfl
theorem wd_4_124 : (Jvm.Cond.code ({ cls := "RiddlePress$Proof", name := "makeStepByOwnRules", desc := "(Ljava/util/List;Ljava/util/List;)Z" } : Jvm.MethodName) prog_8_method_10_code (7 : Nat) (Option.some Jvm.ClassFile.FieldType.boolean)) ∈ ab_T := ab_w4 124 rfl rfl
theorem wd_4_125 : (Jvm.Cond.classLink "RiddlePress$Proof" (108 : Nat) "RiddlePress$OwnRule") ∈ ab_T := ab_w4 125 rfl rfl
theorem wd_4_126 : (Jvm.Cond.methodLink "RiddlePress$Proof" (114 : Nat) ({ cls := "RiddlePress$Places", name := "takeByOwnRule", desc := "(LRiddlePress$OwnRule;LRiddlePress$Clue;)I" } : Jvm.MethodName)) ∈ ab_T := ab_w4 126 rfl rfl
theorem wd_4_127 : (Jvm.Cond.instanceMethod ({ cls := "RiddlePress$Places", name := "takeByOwnRule", desc := "(LRiddlePress$OwnRule;LRiddlePress$Clue;)I" } : Jvm.MethodName)) ∈ ab_T := ab_w4 127 rfl rfl
theorem wd_4_128 : (Jvm.Cond.selects "RiddlePress$Places" ({ cls := "RiddlePress$Places", name := "takeByOwnRule", desc := "(LRiddlePress$OwnRule;LRiddlePress$Clue;)I" } : Jvm.MethodName) ({ cls := "RiddlePress$Places", name := "takeByOwnRule", desc := "(LRiddlePress$OwnRule;LRiddlePress$Clue;)I" } : Jvm.MethodName)) ∈ ab_T := ab_w4 128 rfl rfl
theorem wd_4_129 : (Jvm.Cond.code ({ cls := "RiddlePress$Places", name := "takeByOwnRule", desc := "(LRiddlePress$OwnRule;LRiddlePress$Clue;)I" } : Jvm.MethodName) prog_7_method_7_code (3 : Nat) (Option.some Jvm.ClassFile.FieldType.int)) ∈ ab_T := ab_w4 129 rfl rfl
theorem wd_4_130 : (Jvm.Cond.methodLink "RiddlePress$Places" (57 : Nat) ({ cls := "RiddlePress$OwnRule", name := "personIn", desc := "(LRiddlePress$Clue;)I" } : Jvm.MethodName)) ∈ ab_T := ab_w4 130 rfl rfl
theorem wd_4_131 : (Jvm.Cond.methodLink "RiddlePress$Places" (61 : Nat) ({ cls := "RiddlePress$OwnRule", name := "placesOf", desc := "(I)I" } : Jvm.MethodName)) ∈ ab_T := ab_w4 131 rfl rfl
theorem wd_4_132 : (Jvm.Cond.methodLink "RiddlePress$Proof" (65 : Nat) ({ cls := "RiddlePress$Places", name := "isSomeoneWithout", desc := "()Z" } : Jvm.MethodName)) ∈ ab_T := ab_w4 132 rfl rfl
theorem wd_4_133 : (Jvm.Cond.instanceMethod ({ cls := "RiddlePress$Places", name := "isSomeoneWithout", desc := "()Z" } : Jvm.MethodName)) ∈ ab_T := ab_w4 133 rfl rfl
theorem wd_4_134 : (Jvm.Cond.selects "RiddlePress$Places" ({ cls := "RiddlePress$Places", name := "isSomeoneWithout", desc := "()Z" } : Jvm.MethodName) ({ cls := "RiddlePress$Places", name := "isSomeoneWithout", desc := "()Z" } : Jvm.MethodName)) ∈ ab_T := ab_w4 134 rfl rfl
theorem wd_4_135 : (Jvm.Cond.code ({ cls := "RiddlePress$Places", name := "isSomeoneWithout", desc := "()Z" } : Jvm.MethodName) prog_7_method_4_code (2 : Nat) (Option.some Jvm.ClassFile.FieldType.boolean)) ∈ ab_T := ab_w4 135 rfl rfl
theorem wd_4_136 : (Jvm.Cond.methodLink "RiddlePress$Proof" (68 : Nat) ({ cls := "RiddlePress$Places", name := "hasEachOne", desc := "()Z" } : Jvm.MethodName)) ∈ ab_T := ab_w4 136 rfl rfl
theorem wd_4_137 : (Jvm.Cond.instanceMethod ({ cls := "RiddlePress$Places", name := "hasEachOne", desc := "()Z" } : Jvm.MethodName)) ∈ ab_T := ab_w4 137 rfl rfl
theorem wd_4_138 : (Jvm.Cond.selects "RiddlePress$Places" ({ cls := "RiddlePress$Places", name := "hasEachOne", desc := "()Z" } : Jvm.MethodName) ({ cls := "RiddlePress$Places", name := "hasEachOne", desc := "()Z" } : Jvm.MethodName)) ∈ ab_T := ab_w4 138 rfl rfl
theorem wd_4_139 : (Jvm.Cond.code ({ cls := "RiddlePress$Places", name := "hasEachOne", desc := "()Z" } : Jvm.MethodName) prog_7_method_5_code (2 : Nat) (Option.some Jvm.ClassFile.FieldType.boolean)) ∈ ab_T := ab_w4 139 rfl rfl
theorem wd_4_148 : (Jvm.Cond.classLink "RiddlePress" (196 : Nat) "RiddlePress$Issue") ∈ ab_T := ab_w4 148 rfl rfl
theorem wd_4_149 : (Jvm.Cond.instantiable "RiddlePress$Issue" (2 : Nat)) ∈ ab_T := ab_w4 149 rfl rfl
theorem wd_4_150 : (Jvm.Cond.methodLink "RiddlePress" (219 : Nat) ({ cls := "RiddlePress$Issue", name := "<init>", desc := "()V" } : Jvm.MethodName)) ∈ ab_T := ab_w4 150 rfl rfl
theorem wd_4_151 : (Jvm.Cond.instanceMethod ({ cls := "RiddlePress$Issue", name := "<init>", desc := "()V" } : Jvm.MethodName)) ∈ ab_T := ab_w4 151 rfl rfl
theorem wd_4_152 : (Jvm.Cond.code ({ cls := "RiddlePress$Issue", name := "<init>", desc := "()V" } : Jvm.MethodName) prog_4_method_1_code (1 : Nat) (Option.none : Option Jvm.ClassFile.FieldType)) ∈ ab_T := ab_w4 152 rfl rfl
theorem wd_4_153 : (Jvm.Cond.methodLink "RiddlePress$Issue" (3 : Nat) ({ cls := "java/lang/Object", name := "<init>", desc := "()V" } : Jvm.MethodName)) ∈ ab_T := ab_w4 153 rfl rfl
theorem wd_4_154 : (Jvm.Cond.fieldLink "RiddlePress$Issue" (9 : Nat) "RiddlePress$Issue" "state" "C") ∈ ab_T := ab_w4 154 rfl rfl
theorem wd_4_155 : (Jvm.Cond.fieldLink "RiddlePress" (202 : Nat) "RiddlePress$Issue" "state" "C") ∈ ab_T := ab_w4 155 rfl rfl
theorem wd_4_156 : (Jvm.Cond.fieldLink "RiddlePress$Issue" (15 : Nat) "RiddlePress$Issue" "price" "I") ∈ ab_T := ab_w4 156 rfl rfl
theorem wd_4_157 : (Jvm.Cond.fieldLink "RiddlePress" (203 : Nat) "RiddlePress$Issue" "price" "I") ∈ ab_T := ab_w4 157 rfl rfl
theorem wd_4_158 : (Jvm.Cond.lays "RiddlePress$Issue" "RiddlePress$Issue" "state" "C") ∈ ab_T := ab_w4 158 rfl rfl
theorem wd_4_160 : (Jvm.Cond.lays "RiddlePress$Issue" "RiddlePress$Issue" "price" "I") ∈ ab_T := ab_w4 160 rfl rfl
theorem wd_4_170 : (Jvm.Cond.methodLink "RiddlePress" (220 : Nat) ({ cls := "RiddlePress", name := "findIssue", desc := "(I)LRiddlePress$Issue;" } : Jvm.MethodName)) ∈ ab_T := ab_w4 170 rfl rfl
theorem wd_4_172 : (Jvm.Cond.instanceMethod ({ cls := "RiddlePress", name := "findIssue", desc := "(I)LRiddlePress$Issue;" } : Jvm.MethodName)) ∈ ab_T := ab_w4 172 rfl rfl
theorem wd_4_173 : (Jvm.Cond.code ({ cls := "RiddlePress", name := "findIssue", desc := "(I)LRiddlePress$Issue;" } : Jvm.MethodName) prog_1_method_35_code (2 : Nat) (Option.some (Jvm.ClassFile.FieldType.object "RiddlePress$Issue"))) ∈ ab_T := ab_w4 173 rfl rfl
theorem wd_4_183 : (Jvm.Cond.methodLink "RiddlePress" (230 : Nat) ({ cls := "RiddlePress", name := "countRiddlesOf", desc := "(LRiddlePress$Issue;)I" } : Jvm.MethodName)) ∈ ab_T := ab_w4 183 rfl rfl
theorem wd_4_185 : (Jvm.Cond.instanceMethod ({ cls := "RiddlePress", name := "countRiddlesOf", desc := "(LRiddlePress$Issue;)I" } : Jvm.MethodName)) ∈ ab_T := ab_w4 185 rfl rfl
theorem wd_4_186 : (Jvm.Cond.code ({ cls := "RiddlePress", name := "countRiddlesOf", desc := "(LRiddlePress$Issue;)I" } : Jvm.MethodName) prog_1_method_38_code (4 : Nat) (Option.some Jvm.ClassFile.FieldType.int)) ∈ ab_T := ab_w4 186 rfl rfl
theorem wd_4_188 : (Jvm.Cond.methodLink "RiddlePress" (244 : Nat) ({ cls := "RiddlePress", name := "sellToSubscribers", desc := "(II)I" } : Jvm.MethodName)) ∈ ab_T := ab_w4 188 rfl rfl
theorem wd_4_190 : (Jvm.Cond.instanceMethod ({ cls := "RiddlePress", name := "sellToSubscribers", desc := "(II)I" } : Jvm.MethodName)) ∈ ab_T := ab_w4 190 rfl rfl
theorem wd_4_191 : (Jvm.Cond.code ({ cls := "RiddlePress", name := "sellToSubscribers", desc := "(II)I" } : Jvm.MethodName) prog_1_method_45_code (6 : Nat) (Option.some Jvm.ClassFile.FieldType.int)) ∈ ab_T := ab_w4 191 rfl rfl
theorem wd_4_192 : (Jvm.Cond.methodLink "RiddlePress" (279 : Nat) ({ cls := "RiddlePress", name := "sell", desc := "(LRiddlePress$Customer;II)V" } : Jvm.MethodName)) ∈ ab_T := ab_w4 192 rfl rfl
theorem wd_4_194 : (Jvm.Cond.instanceMethod ({ cls := "RiddlePress", name := "sell", desc := "(LRiddlePress$Customer;II)V" } : Jvm.MethodName)) ∈ ab_T := ab_w4 194 rfl rfl
theorem wd_4_195 : (Jvm.Cond.code ({ cls := "RiddlePress", name := "sell", desc := "(LRiddlePress$Customer;II)V" } : Jvm.MethodName) prog_1_method_46_code (4 : Nat) (Option.none : Option Jvm.ClassFile.FieldType)) ∈ ab_T := ab_w4 195 rfl rfl
theorem wd_4_196 : (Jvm.Cond.methodLink "RiddlePress" (310 : Nat) ({ cls := "RiddlePress$Customer", name := "addIssue", desc := "(I)V" } : Jvm.MethodName)) ∈ ab_T := ab_w4 196 rfl rfl
theorem wd_4_197 : (Jvm.Cond.instanceMethod ({ cls := "RiddlePress$Customer", name := "addIssue", desc := "(I)V" } : Jvm.MethodName)) ∈ ab_T := ab_w4 197 rfl rfl
theorem wd_4_198 : (Jvm.Cond.selects "RiddlePress$Customer" ({ cls := "RiddlePress$Customer", name := "addIssue", desc := "(I)V" } : Jvm.MethodName) ({ cls := "RiddlePress$Customer", name := "addIssue", desc := "(I)V" } : Jvm.MethodName)) ∈ ab_T := ab_w4 198 rfl rfl
theorem wd_4_199 : (Jvm.Cond.code ({ cls := "RiddlePress$Customer", name := "addIssue", desc := "(I)V" } : Jvm.MethodName) prog_3_method_3_code (2 : Nat) (Option.none : Option Jvm.ClassFile.FieldType)) ∈ ab_T := ab_w4 199 rfl rfl
theorem wd_4_207 : (Jvm.Cond.methodLink "RiddlePress" (224 : Nat) ({ cls := "RiddlePress", name := "isReady", desc := "(LRiddlePress$Riddle;)Z" } : Jvm.MethodName)) ∈ ab_T := ab_w4 207 rfl rfl
theorem wd_4_208 : (Jvm.Cond.static ({ cls := "RiddlePress", name := "isReady", desc := "(LRiddlePress$Riddle;)Z" } : Jvm.MethodName)) ∈ ab_T := ab_w4 208 rfl rfl
theorem wd_4_209 : (Jvm.Cond.code ({ cls := "RiddlePress", name := "isReady", desc := "(LRiddlePress$Riddle;)Z" } : Jvm.MethodName) prog_1_method_39_code (1 : Nat) (Option.some Jvm.ClassFile.FieldType.boolean)) ∈ ab_T := ab_w4 209 rfl rfl
theorem wd_4_227 : (Jvm.Cond.methodLink "RiddlePress" (274 : Nat) ({ cls := "RiddlePress$Customer", name := "isOwnerOf", desc := "(I)Z" } : Jvm.MethodName)) ∈ ab_T := ab_w4 227 rfl rfl
theorem wd_4_228 : (Jvm.Cond.instanceMethod ({ cls := "RiddlePress$Customer", name := "isOwnerOf", desc := "(I)Z" } : Jvm.MethodName)) ∈ ab_T := ab_w4 228 rfl rfl
theorem wd_4_229 : (Jvm.Cond.selects "RiddlePress$Customer" ({ cls := "RiddlePress$Customer", name := "isOwnerOf", desc := "(I)Z" } : Jvm.MethodName) ({ cls := "RiddlePress$Customer", name := "isOwnerOf", desc := "(I)Z" } : Jvm.MethodName)) ∈ ab_T := ab_w4 229 rfl rfl
theorem wd_4_230 : (Jvm.Cond.code ({ cls := "RiddlePress$Customer", name := "isOwnerOf", desc := "(I)Z" } : Jvm.MethodName) prog_3_method_2_code (2 : Nat) (Option.some Jvm.ClassFile.FieldType.boolean)) ∈ ab_T := ab_w4 230 rfl rfl
theorem wd_5_6 : (Jvm.Cond.methodLink "RiddlePress" (147 : Nat) ({ cls := "RiddlePress", name := "checkRule", desc := "(I)V" } : Jvm.MethodName)) ∈ ab_T := ab_w5 6 rfl rfl
theorem wd_5_8 : (Jvm.Cond.instanceMethod ({ cls := "RiddlePress", name := "checkRule", desc := "(I)V" } : Jvm.MethodName)) ∈ ab_T := ab_w5 8 rfl rfl
theorem wd_5_9 : (Jvm.Cond.code ({ cls := "RiddlePress", name := "checkRule", desc := "(I)V" } : Jvm.MethodName) prog_1_method_33_code (2 : Nat) (Option.none : Option Jvm.ClassFile.FieldType)) ∈ ab_T := ab_w5 9 rfl rfl
theorem wd_5_11 : (Jvm.Cond.methodLink "RiddlePress" (177 : Nat) ({ cls := "RiddlePress", name := "findOwnRule", desc := "(I)LRiddlePress$OwnRule;" } : Jvm.MethodName)) ∈ ab_T := ab_w5 11 rfl rfl
theorem wd_5_13 : (Jvm.Cond.instanceMethod ({ cls := "RiddlePress", name := "findOwnRule", desc := "(I)LRiddlePress$OwnRule;" } : Jvm.MethodName)) ∈ ab_T := ab_w5 13 rfl rfl
theorem wd_5_14 : (Jvm.Cond.code ({ cls := "RiddlePress", name := "findOwnRule", desc := "(I)LRiddlePress$OwnRule;" } : Jvm.MethodName) prog_1_method_34_code (3 : Nat) (Option.some (Jvm.ClassFile.FieldType.object "RiddlePress$OwnRule"))) ∈ ab_T := ab_w5 14 rfl rfl
theorem wd_5_24 : (Jvm.Cond.classLink "RiddlePress" (114 : Nat) "java/util/NoSuchElementException") ∈ ab_T := ab_w5 24 rfl rfl
theorem wd_5_34 : (Jvm.Cond.methodLink "RiddlePress" (118 : Nat) ({ cls := "java/util/NoSuchElementException", name := "<init>", desc := "(Ljava/lang/String;)V" } : Jvm.MethodName)) ∈ ab_T := ab_w5 34 rfl rfl
theorem wd_5_48 : (Jvm.Cond.methodLink "RiddlePress" (198 : Nat) ({ cls := "RiddlePress", name := "isOnSaleBy", desc := "(LRiddlePress$Issue;I)Z" } : Jvm.MethodName)) ∈ ab_T := ab_w5 48 rfl rfl
theorem wd_5_50 : (Jvm.Cond.instanceMethod ({ cls := "RiddlePress", name := "isOnSaleBy", desc := "(LRiddlePress$Issue;I)Z" } : Jvm.MethodName)) ∈ ab_T := ab_w5 50 rfl rfl
theorem wd_5_51 : (Jvm.Cond.code ({ cls := "RiddlePress", name := "isOnSaleBy", desc := "(LRiddlePress$Issue;I)Z" } : Jvm.MethodName) prog_1_method_40_code (4 : Nat) (Option.some Jvm.ClassFile.FieldType.boolean)) ∈ ab_T := ab_w5 51 rfl rfl
theorem wd_5_52 : (Jvm.Cond.methodLink "RiddlePress" (150 : Nat) ({ cls := "RiddlePress$Proof", name := "hasStepBy", desc := "(I)Z" } : Jvm.MethodName)) ∈ ab_T := ab_w5 52 rfl rfl
theorem wd_5_53 : (Jvm.Cond.instanceMethod ({ cls := "RiddlePress$Proof", name := "hasStepBy", desc := "(I)Z" } : Jvm.MethodName)) ∈ ab_T := ab_w5 53 rfl rfl
theorem wd_5_54 : (Jvm.Cond.selects "RiddlePress$Proof" ({ cls := "RiddlePress$Proof", name := "hasStepBy", desc := "(I)Z" } : Jvm.MethodName) ({ cls := "RiddlePress$Proof", name := "hasStepBy", desc := "(I)Z" } : Jvm.MethodName)) ∈ ab_T := ab_w5 54 rfl rfl
theorem wd_5_55 : (Jvm.Cond.code ({ cls := "RiddlePress$Proof", name := "hasStepBy", desc := "(I)Z" } : Jvm.MethodName) prog_8_method_3_code (2 : Nat) (Option.some Jvm.ClassFile.FieldType.boolean)) ∈ ab_T := ab_w5 55 rfl rfl
theorem wd_5_56 : (Jvm.Cond.methodLink "RiddlePress" (206 : Nat) ({ cls := "RiddlePress", name := "payBack", desc := "(II)V" } : Jvm.MethodName)) ∈ ab_T := ab_w5 56 rfl rfl
theorem wd_5_58 : (Jvm.Cond.instanceMethod ({ cls := "RiddlePress", name := "payBack", desc := "(II)V" } : Jvm.MethodName)) ∈ ab_T := ab_w5 58 rfl rfl
theorem wd_5_59 : (Jvm.Cond.code ({ cls := "RiddlePress", name := "payBack", desc := "(II)V" } : Jvm.MethodName) prog_1_method_47_code (5 : Nat) (Option.none : Option Jvm.ClassFile.FieldType)) ∈ ab_T := ab_w5 59 rfl rfl
theorem wd_5_60 : (Jvm.Cond.methodLink "RiddlePress" (313 : Nat) ({ cls := "java/lang/Math", name := "min", desc := "(II)I" } : Jvm.MethodName)) ∈ ab_T := ab_w5 60 rfl rfl
theorem wd_5_61 : (Jvm.Cond.methodLink "RiddlePress" (210 : Nat) ({ cls := "RiddlePress", name := "takeBackRiddles", desc := "(LRiddlePress$Issue;I)V" } : Jvm.MethodName)) ∈ ab_T := ab_w5 61 rfl rfl
theorem wd_5_63 : (Jvm.Cond.instanceMethod ({ cls := "RiddlePress", name := "takeBackRiddles", desc := "(LRiddlePress$Issue;I)V" } : Jvm.MethodName)) ∈ ab_T := ab_w5 63 rfl rfl
theorem wd_5_64 : (Jvm.Cond.code ({ cls := "RiddlePress", name := "takeBackRiddles", desc := "(LRiddlePress$Issue;I)V" } : Jvm.MethodName) prog_1_method_41_code (5 : Nat) (Option.none : Option Jvm.ClassFile.FieldType)) ∈ ab_T := ab_w5 64 rfl rfl
theorem wd_5_65 : (Jvm.Cond.methodLink "RiddlePress" (214 : Nat) ({ cls := "RiddlePress", name := "loseProofsBy", desc := "(I)V" } : Jvm.MethodName)) ∈ ab_T := ab_w5 65 rfl rfl
theorem wd_5_67 : (Jvm.Cond.instanceMethod ({ cls := "RiddlePress", name := "loseProofsBy", desc := "(I)V" } : Jvm.MethodName)) ∈ ab_T := ab_w5 67 rfl rfl
theorem wd_5_68 : (Jvm.Cond.code ({ cls := "RiddlePress", name := "loseProofsBy", desc := "(I)V" } : Jvm.MethodName) prog_1_method_42_code (4 : Nat) (Option.none : Option Jvm.ClassFile.FieldType)) ∈ ab_T := ab_w5 68 rfl rfl
theorem wd_5_69 : (Jvm.Cond.methodLink "RiddlePress" (307 : Nat) ({ cls := "RiddlePress$Proof", name := "lose", desc := "()V" } : Jvm.MethodName)) ∈ ab_T := ab_w5 69 rfl rfl
theorem wd_5_84 : (Jvm.Cond.methodLink "RiddlePress" (99 : Nat) ({ cls := "RiddlePress$Riddle", name := "findAnswers", desc := "()V" } : Jvm.MethodName)) ∈ ab_T := ab_w5 84 rfl rfl
theorem wd_5_85 : (Jvm.Cond.instanceMethod ({ cls := "RiddlePress$Riddle", name := "findAnswers", desc := "()V" } : Jvm.MethodName)) ∈ ab_T := ab_w5 85 rfl rfl
theorem wd_5_86 : (Jvm.Cond.selects "RiddlePress$Riddle" ({ cls := "RiddlePress$Riddle", name := "findAnswers", desc := "()V" } : Jvm.MethodName) ({ cls := "RiddlePress$Riddle", name := "findAnswers", desc := "()V" } : Jvm.MethodName)) ∈ ab_T := ab_w5 86 rfl rfl
theorem wd_5_87 : (Jvm.Cond.code ({ cls := "RiddlePress$Riddle", name := "findAnswers", desc := "()V" } : Jvm.MethodName) prog_9_method_3_code (4 : Nat) (Option.none : Option Jvm.ClassFile.FieldType)) ∈ ab_T := ab_w5 87 rfl rfl
theorem wd_5_88 : (Jvm.Cond.classLink "RiddlePress$Riddle" (52 : Nat) "RiddlePress$Order") ∈ ab_T := ab_w5 88 rfl rfl
theorem wd_5_89 : (Jvm.Cond.methodLink "RiddlePress$Riddle" (54 : Nat) ({ cls := "RiddlePress$Order", name := "<init>", desc := "(I)V" } : Jvm.MethodName)) ∈ ab_T := ab_w5 89 rfl rfl
theorem wd_5_90 : (Jvm.Cond.methodLink "RiddlePress$Riddle" (55 : Nat) ({ cls := "RiddlePress$Riddle", name := "isAnsweredBy", desc := "(LRiddlePress$Order;)Z" } : Jvm.MethodName)) ∈ ab_T := ab_w5 90 rfl rfl
theorem wd_5_92 : (Jvm.Cond.instanceMethod ({ cls := "RiddlePress$Riddle", name := "isAnsweredBy", desc := "(LRiddlePress$Order;)Z" } : Jvm.MethodName)) ∈ ab_T := ab_w5 92 rfl rfl
theorem wd_5_93 : (Jvm.Cond.code ({ cls := "RiddlePress$Riddle", name := "isAnsweredBy", desc := "(LRiddlePress$Order;)Z" } : Jvm.MethodName) prog_9_method_4_code (3 : Nat) (Option.some Jvm.ClassFile.FieldType.boolean)) ∈ ab_T := ab_w5 93 rfl rfl
theorem wd_5_95 : (Jvm.Cond.methodLink "RiddlePress$Riddle" (67 : Nat) ({ cls := "java/util/List", name := "size", desc := "()I" } : Jvm.MethodName)) ∈ ab_T := ab_w5 95 rfl rfl
theorem wd_5_97 : (Jvm.Cond.methodLink "RiddlePress$Riddle" (71 : Nat) ({ cls := "java/util/List", name := "get", desc := "(I)Ljava/lang/Object;" } : Jvm.MethodName)) ∈ ab_T := ab_w5 97 rfl rfl
theorem wd_5_98 : (Jvm.Cond.classLink "RiddlePress$Riddle" (75 : Nat) "RiddlePress$Clue") ∈ ab_T := ab_w5 98 rfl rfl
theorem wd_5_99 : (Jvm.Cond.methodLink "RiddlePress$Riddle" (77 : Nat) ({ cls := "RiddlePress$Clue", name := "isFitBy", desc := "(LRiddlePress$Order;)Z" } : Jvm.MethodName)) ∈ ab_T := ab_w5 99 rfl rfl
theorem wd_5_100 : (Jvm.Cond.methodLink "RiddlePress$Riddle" (59 : Nat) ({ cls := "RiddlePress$Riddle", name := "addAnswer", desc := "(LRiddlePress$Order;)V" } : Jvm.MethodName)) ∈ ab_T := ab_w5 100 rfl rfl
theorem wd_5_102 : (Jvm.Cond.instanceMethod ({ cls := "RiddlePress$Riddle", name := "addAnswer", desc := "(LRiddlePress$Order;)V" } : Jvm.MethodName)) ∈ ab_T := ab_w5 102 rfl rfl
theorem wd_5_103 : (Jvm.Cond.code ({ cls := "RiddlePress$Riddle", name := "addAnswer", desc := "(LRiddlePress$Order;)V" } : Jvm.MethodName) prog_9_method_5_code (3 : Nat) (Option.none : Option Jvm.ClassFile.FieldType)) ∈ ab_T := ab_w5 103 rfl rfl
theorem wd_5_104 : (Jvm.Cond.methodLink "RiddlePress$Riddle" (80 : Nat) ({ cls := "RiddlePress$Order", name := "placeOf", desc := "(I)I" } : Jvm.MethodName)) ∈ ab_T := ab_w5 104 rfl rfl
theorem wd_5_105 : (Jvm.Cond.methodLink "RiddlePress$Riddle" (63 : Nat) ({ cls := "RiddlePress$Order", name := "goOn", desc := "()Z" } : Jvm.MethodName)) ∈ ab_T := ab_w5 105 rfl rfl
theorem wd_5_113 : (Jvm.Cond.methodLink "RiddlePress" (283 : Nat) ({ cls := "RiddlePress", name := "isSound", desc := "(LRiddlePress$Riddle;)Z" } : Jvm.MethodName)) ∈ ab_T := ab_w5 113 rfl rfl
theorem wd_5_115 : (Jvm.Cond.instanceMethod ({ cls := "RiddlePress", name := "isSound", desc := "(LRiddlePress$Riddle;)Z" } : Jvm.MethodName)) ∈ ab_T := ab_w5 115 rfl rfl
theorem wd_5_116 : (Jvm.Cond.code ({ cls := "RiddlePress", name := "isSound", desc := "(LRiddlePress$Riddle;)Z" } : Jvm.MethodName) prog_1_method_43_code (4 : Nat) (Option.some Jvm.ClassFile.FieldType.boolean)) ∈ ab_T := ab_w5 116 rfl rfl
theorem wd_5_141 : (Jvm.Cond.methodLink "RiddlePress" (133 : Nat) ({ cls := "RiddlePress$Proof", name := "hasStep", desc := "(I)Z" } : Jvm.MethodName)) ∈ ab_T := ab_w5 141 rfl rfl
theorem wd_5_142 : (Jvm.Cond.instanceMethod ({ cls := "RiddlePress$Proof", name := "hasStep", desc := "(I)Z" } : Jvm.MethodName)) ∈ ab_T := ab_w5 142 rfl rfl
theorem wd_5_143 : (Jvm.Cond.selects "RiddlePress$Proof" ({ cls := "RiddlePress$Proof", name := "hasStep", desc := "(I)Z" } : Jvm.MethodName) ({ cls := "RiddlePress$Proof", name := "hasStep", desc := "(I)Z" } : Jvm.MethodName)) ∈ ab_T := ab_w5 143 rfl rfl
theorem wd_5_144 : (Jvm.Cond.code ({ cls := "RiddlePress$Proof", name := "hasStep", desc := "(I)Z" } : Jvm.MethodName) prog_8_method_2_code (2 : Nat) (Option.some Jvm.ClassFile.FieldType.boolean)) ∈ ab_T := ab_w5 144 rfl rfl
theorem wd_5_168 : (Jvm.Cond.methodLink "RiddlePress" (286 : Nat) ({ cls := "java/util/List", name := "isEmpty", desc := "()Z" } : Jvm.MethodName)) ∈ ab_T := ab_w5 168 rfl rfl
theorem wd_5_171 : (Jvm.Cond.selects "java/util/ArrayList" ({ cls := "java/util/List", name := "isEmpty", desc := "()Z" } : Jvm.MethodName) ({ cls := "java/util/ArrayList", name := "isEmpty", desc := "()Z" } : Jvm.MethodName)) ∈ ab_T := ab_w5 171 rfl rfl
theorem wd_5_173 : (Jvm.Cond.instanceMethod ({ cls := "java/util/ArrayList", name := "isEmpty", desc := "()Z" } : Jvm.MethodName)) ∈ ab_T := ab_w5 173 rfl rfl
theorem wd_5_175 : (Jvm.Cond.code ({ cls := "java/util/ArrayList", name := "isEmpty", desc := "()Z" } : Jvm.MethodName) prog_37_method_9_code (1 : Nat) (Option.some Jvm.ClassFile.FieldType.boolean)) ∈ ab_T := ab_w5 175 rfl rfl
theorem wd_5_177 : (Jvm.Cond.methodLink "RiddlePress" (292 : Nat) ({ cls := "RiddlePress", name := "countWholeProofs", desc := "()I" } : Jvm.MethodName)) ∈ ab_T := ab_w5 177 rfl rfl
theorem wd_5_179 : (Jvm.Cond.instanceMethod ({ cls := "RiddlePress", name := "countWholeProofs", desc := "()I" } : Jvm.MethodName)) ∈ ab_T := ab_w5 179 rfl rfl
theorem wd_5_180 : (Jvm.Cond.code ({ cls := "RiddlePress", name := "countWholeProofs", desc := "()I" } : Jvm.MethodName) prog_1_method_44_code (3 : Nat) (Option.some Jvm.ClassFile.FieldType.int)) ∈ ab_T := ab_w5 180 rfl rfl
theorem wd_6_11 : (Jvm.Cond.selects "[Ljava/lang/Object;" ({ cls := "java/lang/Object", name := "getClass", desc := "()Ljava/lang/Class;" } : Jvm.MethodName) ({ cls := "java/lang/Object", name := "getClass", desc := "()Ljava/lang/Class;" } : Jvm.MethodName)) ∈ ab_T := ab_w6 11 rfl rfl
theorem wd_6_17 : (Jvm.Cond.fieldLink "java/lang/String" (15 : Nat) "java/lang/String" "coder" "B") ∈ ab_T := ab_w6 17 rfl rfl
theorem wd_6_18 : (Jvm.Cond.fieldLink "java/lang/String" (9 : Nat) "java/lang/String" "value" "[B") ∈ ab_T := ab_w6 18 rfl rfl
theorem in_Jx4a65c : ∀ w ∈ u_ws RJx4a65c TJx4a65c 3, w ∈ ab_T := by
  have h : ∀ w ∈ ([.lays "java/util/ArrayList" "java/util/AbstractList" "modCount" "I", .lays "java/util/ArrayList" "java/util/ArrayList" "elementData" "[Ljava/lang/Object;", .lays "java/util/ArrayList" "java/util/ArrayList" "size" "I"] : List Cond), w ∈ ab_T := List.forall_mem_cons.mpr ⟨wd_1_65, List.forall_mem_cons.mpr ⟨wd_1_61, List.forall_mem_cons.mpr ⟨wd_1_63, fun _ h => absurd h List.not_mem_nil⟩⟩⟩
  exact h
theorem in_X0 : ∀ w ∈ u_ws RX0 TX0 4, w ∈ ab_T := by
  have h : ∀ w ∈ ([.laysFinal "RiddlePress$Clue" "RiddlePress$Clue" "kind" "C", .laysFinal "RiddlePress$Clue" "RiddlePress$Clue" "a" "I", .laysFinal "RiddlePress$Clue" "RiddlePress$Clue" "b" "I", .laysFinal "RiddlePress$Clue" "RiddlePress$Clue" "c" "I"] : List Cond), w ∈ ab_T := List.forall_mem_cons.mpr ⟨wd_2_197, List.forall_mem_cons.mpr ⟨wd_2_199, List.forall_mem_cons.mpr ⟨wd_2_201, List.forall_mem_cons.mpr ⟨wd_2_203, fun _ h => absurd h List.not_mem_nil⟩⟩⟩⟩
  exact h
theorem in_X1 : ∀ w ∈ u_ws RX1 TX1 3, w ∈ ab_T := by
  have h : ∀ w ∈ ([.lays "RiddlePress$Customer" "RiddlePress$Customer" "credits" "I", .lays "RiddlePress$Customer" "RiddlePress$Customer" "subscribed" "I", .laysFinal "RiddlePress$Customer" "RiddlePress$Customer" "isOwner" "[Z"] : List Cond), w ∈ ab_T := List.forall_mem_cons.mpr ⟨wd_3_198, List.forall_mem_cons.mpr ⟨wd_3_200, List.forall_mem_cons.mpr ⟨wd_3_202, fun _ h => absurd h List.not_mem_nil⟩⟩⟩
  exact h
theorem in_X2 : ∀ w ∈ u_ws RX2 TX2 2, w ∈ ab_T := by
  have h : ∀ w ∈ ([.lays "RiddlePress$Issue" "RiddlePress$Issue" "state" "C", .lays "RiddlePress$Issue" "RiddlePress$Issue" "price" "I"] : List Cond), w ∈ ab_T := List.forall_mem_cons.mpr ⟨wd_4_158, List.forall_mem_cons.mpr ⟨wd_4_160, fun _ h => absurd h List.not_mem_nil⟩⟩
  exact h
theorem in_X3 : ∀ w ∈ u_ws RX3 TX3 1, w ∈ ab_T := by
  have h : ∀ w ∈ ([.laysFinal "RiddlePress$Order" "RiddlePress$Order" "places" "[I"] : List Cond), w ∈ ab_T := List.forall_mem_cons.mpr ⟨wd_3_137, fun _ h => absurd h List.not_mem_nil⟩
  exact h
theorem in_X4 : ∀ w ∈ u_ws RX4 TX4 6, w ∈ ab_T := by
  have h : ∀ w ∈ ([.laysFinal "RiddlePress$OwnRule" "RiddlePress$OwnRule" "kind" "C", .lays "RiddlePress$OwnRule" "RiddlePress$OwnRule" "isStanding" "Z", .lays "RiddlePress$OwnRule" "RiddlePress$OwnRule" "counterDigits" "I", .laysFinal "RiddlePress$OwnRule" "RiddlePress$OwnRule" "person" "C", .laysFinal "RiddlePress$OwnRule" "RiddlePress$OwnRule" "isFirst" "Z", .laysFinal "RiddlePress$OwnRule" "RiddlePress$OwnRule" "k" "I"] : List Cond), w ∈ ab_T := List.forall_mem_cons.mpr ⟨wd_3_111, List.forall_mem_cons.mpr ⟨wd_3_113, List.forall_mem_cons.mpr ⟨wd_3_115, List.forall_mem_cons.mpr ⟨wd_3_117, List.forall_mem_cons.mpr ⟨wd_3_119, List.forall_mem_cons.mpr ⟨wd_3_121, fun _ h => absurd h List.not_mem_nil⟩⟩⟩⟩⟩⟩
  exact h
theorem in_X5 : ∀ w ∈ u_ws RX5 TX5 1, w ∈ ab_T := by
  have h : ∀ w ∈ ([.laysFinal "RiddlePress$Places" "RiddlePress$Places" "sets" "[I"] : List Cond), w ∈ ab_T := List.forall_mem_cons.mpr ⟨wd_1_223, fun _ h => absurd h List.not_mem_nil⟩
  exact h
theorem in_X6 : ∀ w ∈ u_ws RX6 TX6 7, w ∈ ab_T := by
  have h : ∀ w ∈ ([.laysFinal "RiddlePress$Proof" "RiddlePress$Proof" "ruleOf" "[I", .laysFinal "RiddlePress$Proof" "RiddlePress$Proof" "causeOf" "[I", .laysFinal "RiddlePress$Proof" "RiddlePress$Proof" "takenBy" "[I", .lays "RiddlePress$Proof" "RiddlePress$Proof" "stepCount" "I", .lays "RiddlePress$Proof" "RiddlePress$Proof" "outcome" "C", .laysFinal "RiddlePress$Proof" "RiddlePress$Proof" "places" "LRiddlePress$Places;", .lays "RiddlePress$Proof" "RiddlePress$Proof" "rulesUsed" "I"] : List Cond), w ∈ ab_T := List.forall_mem_cons.mpr ⟨wd_1_239, List.forall_mem_cons.mpr ⟨wd_2_1, List.forall_mem_cons.mpr ⟨wd_2_3, List.forall_mem_cons.mpr ⟨wd_2_5, List.forall_mem_cons.mpr ⟨wd_2_7, List.forall_mem_cons.mpr ⟨wd_2_9, List.forall_mem_cons.mpr ⟨wd_2_11, fun _ h => absurd h List.not_mem_nil⟩⟩⟩⟩⟩⟩⟩
  exact h
theorem in_X7 : ∀ w ∈ u_ws RX7 TX7 7, w ∈ ab_T := by
  have h : ∀ w ∈ ([.laysFinal "RiddlePress$Riddle" "RiddlePress$Riddle" "persons" "I", .laysFinal "RiddlePress$Riddle" "RiddlePress$Riddle" "clues" "Ljava/util/List;", .laysFinal "RiddlePress$Riddle" "RiddlePress$Riddle" "proof" "LRiddlePress$Proof;", .laysFinal "RiddlePress$Riddle" "RiddlePress$Riddle" "firstAnswer" "[I", .lays "RiddlePress$Riddle" "RiddlePress$Riddle" "answerCount" "I", .lays "RiddlePress$Riddle" "RiddlePress$Riddle" "state" "C", .lays "RiddlePress$Riddle" "RiddlePress$Riddle" "issue" "LRiddlePress$Issue;"] : List Cond), w ∈ ab_T := List.forall_mem_cons.mpr ⟨wd_2_28, List.forall_mem_cons.mpr ⟨wd_2_30, List.forall_mem_cons.mpr ⟨wd_2_32, List.forall_mem_cons.mpr ⟨wd_2_34, List.forall_mem_cons.mpr ⟨wd_2_36, List.forall_mem_cons.mpr ⟨wd_2_38, List.forall_mem_cons.mpr ⟨wd_2_40, fun _ h => absurd h List.not_mem_nil⟩⟩⟩⟩⟩⟩⟩
  exact h
theorem in_X8 : ∀ w ∈ u_ws RX8 TX8 5, w ∈ ab_T := by
  have h : ∀ w ∈ ([.laysFinal "RiddlePress" "RiddlePress" "riddles" "Ljava/util/List;", .laysFinal "RiddlePress" "RiddlePress" "ownRules" "Ljava/util/List;", .laysFinal "RiddlePress" "RiddlePress" "issues" "Ljava/util/List;", .laysFinal "RiddlePress" "RiddlePress" "customers" "Ljava/util/List;", .lays "RiddlePress" "RiddlePress" "pressCredits" "J"] : List Cond), w ∈ ab_T := List.forall_mem_cons.mpr ⟨wd_1_73, List.forall_mem_cons.mpr ⟨wd_1_75, List.forall_mem_cons.mpr ⟨wd_1_77, List.forall_mem_cons.mpr ⟨wd_1_79, List.forall_mem_cons.mpr ⟨wd_1_81, fun _ h => absurd h List.not_mem_nil⟩⟩⟩⟩⟩
  exact h
/-! the words of the throws -/
theorem nb_13_0 : decode prog_41_method_4_code 0 = .ok (.aload_n 0, 1) := by decide +kernel
theorem nb_13_1 : decode prog_41_method_4_code 1 = .ok (.aload_n 1, 1) := by decide +kernel
theorem nb_13_2 : decode prog_41_method_4_code 2 = .ok (.invokespecial 13, 3) := by decide +kernel
theorem nb_13_5 : decode prog_41_method_4_code 5 = .ok (.return_, 1) := by decide +kernel
def xb_ArithmeticException : List Cond := (Bundle.throwableAtoms ++ Bundle.throwableSAtoms ++ Bundle.chainSAtoms "java/lang/ArithmeticException" ["java/lang/RuntimeException", "java/lang/Exception"]) ++ [.instantiable "java/lang/ArithmeticException" 6, .castable "java/lang/ArithmeticException" "java/lang/ArithmeticException", .selects "java/lang/ArithmeticException" Bundle.tFill0 Bundle.tFill0, .selects "java/lang/ArithmeticException" Bundle.tFill Bundle.tFill, .lays "java/lang/ArithmeticException" Bundle.tN "cause" "Ljava/lang/Throwable;", .lays "java/lang/ArithmeticException" Bundle.tN "stackTrace" Bundle.steD, .lays "java/lang/ArithmeticException" Bundle.tN "suppressedExceptions" Bundle.listD, .lays "java/lang/ArithmeticException" Bundle.tN "detailMessage" "Ljava/lang/String;", .isRef (.static Bundle.tN "UNASSIGNED_STACK" Bundle.steD), .isRef (.static Bundle.tN "SUPPRESSED_SENTINEL" Bundle.listD), .fieldLink Bundle.tN 198 Bundle.tN "backtrace" "Ljava/lang/Object;", .lays Bundle.tN Bundle.tN "backtrace" "Ljava/lang/Object;", .lays "java/lang/ArithmeticException" Bundle.tN "backtrace" "Ljava/lang/Object;"]
theorem xs_ArithmeticException {own : String} {ic : Nat} {w : Cond} (h : w ∈ (vx_atS own ic "java/lang/ArithmeticException" ["java/lang/RuntimeException", "java/lang/Exception"])) : w = .methodLink own ic ⟨"java/lang/ArithmeticException", "<init>", "(Ljava/lang/String;)V"⟩ ∨ w ∈ xb_ArithmeticException.filter vx_no := by
  have h0 := List.mem_filter.mp h
  rcases List.mem_append.mp h0.1 with h1 | h1
  · exact Or.inr (List.mem_filter.mpr ⟨List.mem_append_left _ h1, h0.2⟩)
  · rcases List.mem_cons.mp h1 with h2 | h2
    · exact Or.inl h2
    · exact Or.inr (List.mem_filter.mpr ⟨List.mem_append_right _ h2, h0.2⟩)
theorem xd_ArithmeticException : ∀ w ∈ (xb_ArithmeticException.filter vx_no).filter goodWord, w ∈ lw_tbl := by decide +kernel
theorem xe_ArithmeticException : ∀ w ∈ (xb_ArithmeticException.filter vx_no).filter (fun w => !goodWord w), w ∈ (ab_casts.map (fun x => Cond.castable x.1 x.2)) ++ ab_decls.map Cond.declares := by decide +kernel
theorem xf_ArithmeticException : ∀ w ∈ xb_ArithmeticException.filter vx_no, vx_ot w = true := by decide +kernel
theorem xg_ArithmeticException {own : String} {ic : Nat} (w0 : Cond.methodLink own ic ⟨"java/lang/ArithmeticException", "<init>", "(Ljava/lang/String;)V"⟩ ∈ ab_T) : ∀ w ∈ (vx_atS own ic "java/lang/ArithmeticException" ["java/lang/RuntimeException", "java/lang/Exception"]).filter goodWord, w ∈ ab_T := by
  intro w hw
  obtain ⟨h1, h2⟩ := List.mem_filter.mp hw
  rcases xs_ArithmeticException h1 with h3 | h3
  · rw [h3]; exact w0
  · exact List.mem_filter.mpr ⟨xd_ArithmeticException w (List.mem_filter.mpr ⟨h3, h2⟩), h2⟩
theorem xn_ArithmeticException (own : String) (ic : Nat) : ∀ w ∈ (vx_atS own ic "java/lang/ArithmeticException" ["java/lang/RuntimeException", "java/lang/Exception"]).filter (fun w => !goodWord w), w ∈ (ab_casts.map (fun x => Cond.castable x.1 x.2)) ++ ab_decls.map Cond.declares := by
  intro w hw
  obtain ⟨h1, h2⟩ := List.mem_filter.mp hw
  rcases xs_ArithmeticException h1 with h3 | h3
  · rw [h3] at h2; cases h2
  · exact xe_ArithmeticException w (List.mem_filter.mpr ⟨h3, h2⟩)
theorem xo_ArithmeticException (own : String) (ik ic : Nat) : ∀ w ∈ Cond.classLink own ik "java/lang/ArithmeticException" :: Cond.initialized "java/lang/ArithmeticException" :: (vx_atS own ic "java/lang/ArithmeticException" ["java/lang/RuntimeException", "java/lang/Exception"]), vx_ot w = true := by
  intro w hw
  rcases List.mem_cons.mp hw with h | hw
  · rw [h]; rfl
  · rcases List.mem_cons.mp hw with h | hw
    · rw [h]; rfl
    · rcases xs_ArithmeticException hw with h3 | h3
      · rw [h3]; rfl
      · exact xf_ArithmeticException w h3
def xb_IllegalArgumentException : List Cond := (Bundle.throwableAtoms ++ Bundle.throwableSAtoms ++ Bundle.chainSAtoms "java/lang/IllegalArgumentException" ["java/lang/RuntimeException", "java/lang/Exception"]) ++ [.instantiable "java/lang/IllegalArgumentException" 6, .castable "java/lang/IllegalArgumentException" "java/lang/IllegalArgumentException", .selects "java/lang/IllegalArgumentException" Bundle.tFill0 Bundle.tFill0, .selects "java/lang/IllegalArgumentException" Bundle.tFill Bundle.tFill, .lays "java/lang/IllegalArgumentException" Bundle.tN "cause" "Ljava/lang/Throwable;", .lays "java/lang/IllegalArgumentException" Bundle.tN "stackTrace" Bundle.steD, .lays "java/lang/IllegalArgumentException" Bundle.tN "suppressedExceptions" Bundle.listD, .lays "java/lang/IllegalArgumentException" Bundle.tN "detailMessage" "Ljava/lang/String;", .isRef (.static Bundle.tN "UNASSIGNED_STACK" Bundle.steD), .isRef (.static Bundle.tN "SUPPRESSED_SENTINEL" Bundle.listD), .fieldLink Bundle.tN 198 Bundle.tN "backtrace" "Ljava/lang/Object;", .lays Bundle.tN Bundle.tN "backtrace" "Ljava/lang/Object;", .lays "java/lang/IllegalArgumentException" Bundle.tN "backtrace" "Ljava/lang/Object;"]
theorem xs_IllegalArgumentException {own : String} {ic : Nat} {w : Cond} (h : w ∈ (vx_atS own ic "java/lang/IllegalArgumentException" ["java/lang/RuntimeException", "java/lang/Exception"])) : w = .methodLink own ic ⟨"java/lang/IllegalArgumentException", "<init>", "(Ljava/lang/String;)V"⟩ ∨ w ∈ xb_IllegalArgumentException.filter vx_no := by
  have h0 := List.mem_filter.mp h
  rcases List.mem_append.mp h0.1 with h1 | h1
  · exact Or.inr (List.mem_filter.mpr ⟨List.mem_append_left _ h1, h0.2⟩)
  · rcases List.mem_cons.mp h1 with h2 | h2
    · exact Or.inl h2
    · exact Or.inr (List.mem_filter.mpr ⟨List.mem_append_right _ h2, h0.2⟩)
theorem xd_IllegalArgumentException : ∀ w ∈ (xb_IllegalArgumentException.filter vx_no).filter goodWord, w ∈ lw_tbl := by decide +kernel
theorem xe_IllegalArgumentException : ∀ w ∈ (xb_IllegalArgumentException.filter vx_no).filter (fun w => !goodWord w), w ∈ (ab_casts.map (fun x => Cond.castable x.1 x.2)) ++ ab_decls.map Cond.declares := by decide +kernel
theorem xf_IllegalArgumentException : ∀ w ∈ xb_IllegalArgumentException.filter vx_no, vx_ot w = true := by decide +kernel
theorem xg_IllegalArgumentException {own : String} {ic : Nat} (w0 : Cond.methodLink own ic ⟨"java/lang/IllegalArgumentException", "<init>", "(Ljava/lang/String;)V"⟩ ∈ ab_T) : ∀ w ∈ (vx_atS own ic "java/lang/IllegalArgumentException" ["java/lang/RuntimeException", "java/lang/Exception"]).filter goodWord, w ∈ ab_T := by
  intro w hw
  obtain ⟨h1, h2⟩ := List.mem_filter.mp hw
  rcases xs_IllegalArgumentException h1 with h3 | h3
  · rw [h3]; exact w0
  · exact List.mem_filter.mpr ⟨xd_IllegalArgumentException w (List.mem_filter.mpr ⟨h3, h2⟩), h2⟩
theorem xn_IllegalArgumentException (own : String) (ic : Nat) : ∀ w ∈ (vx_atS own ic "java/lang/IllegalArgumentException" ["java/lang/RuntimeException", "java/lang/Exception"]).filter (fun w => !goodWord w), w ∈ (ab_casts.map (fun x => Cond.castable x.1 x.2)) ++ ab_decls.map Cond.declares := by
  intro w hw
  obtain ⟨h1, h2⟩ := List.mem_filter.mp hw
  rcases xs_IllegalArgumentException h1 with h3 | h3
  · rw [h3] at h2; cases h2
  · exact xe_IllegalArgumentException w (List.mem_filter.mpr ⟨h3, h2⟩)
theorem xo_IllegalArgumentException (own : String) (ik ic : Nat) : ∀ w ∈ Cond.classLink own ik "java/lang/IllegalArgumentException" :: Cond.initialized "java/lang/IllegalArgumentException" :: (vx_atS own ic "java/lang/IllegalArgumentException" ["java/lang/RuntimeException", "java/lang/Exception"]), vx_ot w = true := by
  intro w hw
  rcases List.mem_cons.mp hw with h | hw
  · rw [h]; rfl
  · rcases List.mem_cons.mp hw with h | hw
    · rw [h]; rfl
    · rcases xs_IllegalArgumentException hw with h3 | h3
      · rw [h3]; rfl
      · exact xf_IllegalArgumentException w h3
def xb_IllegalStateException : List Cond := (Bundle.throwableAtoms ++ Bundle.throwableSAtoms ++ Bundle.chainSAtoms "java/lang/IllegalStateException" ["java/lang/RuntimeException", "java/lang/Exception"]) ++ [.instantiable "java/lang/IllegalStateException" 6, .castable "java/lang/IllegalStateException" "java/lang/IllegalStateException", .selects "java/lang/IllegalStateException" Bundle.tFill0 Bundle.tFill0, .selects "java/lang/IllegalStateException" Bundle.tFill Bundle.tFill, .lays "java/lang/IllegalStateException" Bundle.tN "cause" "Ljava/lang/Throwable;", .lays "java/lang/IllegalStateException" Bundle.tN "stackTrace" Bundle.steD, .lays "java/lang/IllegalStateException" Bundle.tN "suppressedExceptions" Bundle.listD, .lays "java/lang/IllegalStateException" Bundle.tN "detailMessage" "Ljava/lang/String;", .isRef (.static Bundle.tN "UNASSIGNED_STACK" Bundle.steD), .isRef (.static Bundle.tN "SUPPRESSED_SENTINEL" Bundle.listD), .fieldLink Bundle.tN 198 Bundle.tN "backtrace" "Ljava/lang/Object;", .lays Bundle.tN Bundle.tN "backtrace" "Ljava/lang/Object;", .lays "java/lang/IllegalStateException" Bundle.tN "backtrace" "Ljava/lang/Object;"]
theorem xs_IllegalStateException {own : String} {ic : Nat} {w : Cond} (h : w ∈ (vx_atS own ic "java/lang/IllegalStateException" ["java/lang/RuntimeException", "java/lang/Exception"])) : w = .methodLink own ic ⟨"java/lang/IllegalStateException", "<init>", "(Ljava/lang/String;)V"⟩ ∨ w ∈ xb_IllegalStateException.filter vx_no := by
  have h0 := List.mem_filter.mp h
  rcases List.mem_append.mp h0.1 with h1 | h1
  · exact Or.inr (List.mem_filter.mpr ⟨List.mem_append_left _ h1, h0.2⟩)
  · rcases List.mem_cons.mp h1 with h2 | h2
    · exact Or.inl h2
    · exact Or.inr (List.mem_filter.mpr ⟨List.mem_append_right _ h2, h0.2⟩)
theorem xd_IllegalStateException : ∀ w ∈ (xb_IllegalStateException.filter vx_no).filter goodWord, w ∈ lw_tbl := by decide +kernel
theorem xe_IllegalStateException : ∀ w ∈ (xb_IllegalStateException.filter vx_no).filter (fun w => !goodWord w), w ∈ (ab_casts.map (fun x => Cond.castable x.1 x.2)) ++ ab_decls.map Cond.declares := by decide +kernel
theorem xf_IllegalStateException : ∀ w ∈ xb_IllegalStateException.filter vx_no, vx_ot w = true := by decide +kernel
theorem xg_IllegalStateException {own : String} {ic : Nat} (w0 : Cond.methodLink own ic ⟨"java/lang/IllegalStateException", "<init>", "(Ljava/lang/String;)V"⟩ ∈ ab_T) : ∀ w ∈ (vx_atS own ic "java/lang/IllegalStateException" ["java/lang/RuntimeException", "java/lang/Exception"]).filter goodWord, w ∈ ab_T := by
  intro w hw
  obtain ⟨h1, h2⟩ := List.mem_filter.mp hw
  rcases xs_IllegalStateException h1 with h3 | h3
  · rw [h3]; exact w0
  · exact List.mem_filter.mpr ⟨xd_IllegalStateException w (List.mem_filter.mpr ⟨h3, h2⟩), h2⟩
theorem xn_IllegalStateException (own : String) (ic : Nat) : ∀ w ∈ (vx_atS own ic "java/lang/IllegalStateException" ["java/lang/RuntimeException", "java/lang/Exception"]).filter (fun w => !goodWord w), w ∈ (ab_casts.map (fun x => Cond.castable x.1 x.2)) ++ ab_decls.map Cond.declares := by
  intro w hw
  obtain ⟨h1, h2⟩ := List.mem_filter.mp hw
  rcases xs_IllegalStateException h1 with h3 | h3
  · rw [h3] at h2; cases h2
  · exact xe_IllegalStateException w (List.mem_filter.mpr ⟨h3, h2⟩)
theorem xo_IllegalStateException (own : String) (ik ic : Nat) : ∀ w ∈ Cond.classLink own ik "java/lang/IllegalStateException" :: Cond.initialized "java/lang/IllegalStateException" :: (vx_atS own ic "java/lang/IllegalStateException" ["java/lang/RuntimeException", "java/lang/Exception"]), vx_ot w = true := by
  intro w hw
  rcases List.mem_cons.mp hw with h | hw
  · rw [h]; rfl
  · rcases List.mem_cons.mp hw with h | hw
    · rw [h]; rfl
    · rcases xs_IllegalStateException hw with h3 | h3
      · rw [h3]; rfl
      · exact xf_IllegalStateException w h3
def xb_IndexOutOfBoundsException : List Cond := (Bundle.throwableAtoms ++ Bundle.throwableSAtoms ++ Bundle.chainSAtoms "java/lang/IndexOutOfBoundsException" ["java/lang/RuntimeException", "java/lang/Exception"]) ++ [.instantiable "java/lang/IndexOutOfBoundsException" 6, .castable "java/lang/IndexOutOfBoundsException" "java/lang/IndexOutOfBoundsException", .selects "java/lang/IndexOutOfBoundsException" Bundle.tFill0 Bundle.tFill0, .selects "java/lang/IndexOutOfBoundsException" Bundle.tFill Bundle.tFill, .lays "java/lang/IndexOutOfBoundsException" Bundle.tN "cause" "Ljava/lang/Throwable;", .lays "java/lang/IndexOutOfBoundsException" Bundle.tN "stackTrace" Bundle.steD, .lays "java/lang/IndexOutOfBoundsException" Bundle.tN "suppressedExceptions" Bundle.listD, .lays "java/lang/IndexOutOfBoundsException" Bundle.tN "detailMessage" "Ljava/lang/String;", .isRef (.static Bundle.tN "UNASSIGNED_STACK" Bundle.steD), .isRef (.static Bundle.tN "SUPPRESSED_SENTINEL" Bundle.listD), .fieldLink Bundle.tN 198 Bundle.tN "backtrace" "Ljava/lang/Object;", .lays Bundle.tN Bundle.tN "backtrace" "Ljava/lang/Object;", .lays "java/lang/IndexOutOfBoundsException" Bundle.tN "backtrace" "Ljava/lang/Object;"]
theorem xs_IndexOutOfBoundsException {own : String} {ic : Nat} {w : Cond} (h : w ∈ (vx_atS own ic "java/lang/IndexOutOfBoundsException" ["java/lang/RuntimeException", "java/lang/Exception"])) : w = .methodLink own ic ⟨"java/lang/IndexOutOfBoundsException", "<init>", "(Ljava/lang/String;)V"⟩ ∨ w ∈ xb_IndexOutOfBoundsException.filter vx_no := by
  have h0 := List.mem_filter.mp h
  rcases List.mem_append.mp h0.1 with h1 | h1
  · exact Or.inr (List.mem_filter.mpr ⟨List.mem_append_left _ h1, h0.2⟩)
  · rcases List.mem_cons.mp h1 with h2 | h2
    · exact Or.inl h2
    · exact Or.inr (List.mem_filter.mpr ⟨List.mem_append_right _ h2, h0.2⟩)
theorem xd_IndexOutOfBoundsException : ∀ w ∈ (xb_IndexOutOfBoundsException.filter vx_no).filter goodWord, w ∈ lw_tbl := by decide +kernel
theorem xe_IndexOutOfBoundsException : ∀ w ∈ (xb_IndexOutOfBoundsException.filter vx_no).filter (fun w => !goodWord w), w ∈ (ab_casts.map (fun x => Cond.castable x.1 x.2)) ++ ab_decls.map Cond.declares := by decide +kernel
theorem xf_IndexOutOfBoundsException : ∀ w ∈ xb_IndexOutOfBoundsException.filter vx_no, vx_ot w = true := by decide +kernel
theorem xg_IndexOutOfBoundsException {own : String} {ic : Nat} (w0 : Cond.methodLink own ic ⟨"java/lang/IndexOutOfBoundsException", "<init>", "(Ljava/lang/String;)V"⟩ ∈ ab_T) : ∀ w ∈ (vx_atS own ic "java/lang/IndexOutOfBoundsException" ["java/lang/RuntimeException", "java/lang/Exception"]).filter goodWord, w ∈ ab_T := by
  intro w hw
  obtain ⟨h1, h2⟩ := List.mem_filter.mp hw
  rcases xs_IndexOutOfBoundsException h1 with h3 | h3
  · rw [h3]; exact w0
  · exact List.mem_filter.mpr ⟨xd_IndexOutOfBoundsException w (List.mem_filter.mpr ⟨h3, h2⟩), h2⟩
theorem xn_IndexOutOfBoundsException (own : String) (ic : Nat) : ∀ w ∈ (vx_atS own ic "java/lang/IndexOutOfBoundsException" ["java/lang/RuntimeException", "java/lang/Exception"]).filter (fun w => !goodWord w), w ∈ (ab_casts.map (fun x => Cond.castable x.1 x.2)) ++ ab_decls.map Cond.declares := by
  intro w hw
  obtain ⟨h1, h2⟩ := List.mem_filter.mp hw
  rcases xs_IndexOutOfBoundsException h1 with h3 | h3
  · rw [h3] at h2; cases h2
  · exact xe_IndexOutOfBoundsException w (List.mem_filter.mpr ⟨h3, h2⟩)
theorem xo_IndexOutOfBoundsException (own : String) (ik ic : Nat) : ∀ w ∈ Cond.classLink own ik "java/lang/IndexOutOfBoundsException" :: Cond.initialized "java/lang/IndexOutOfBoundsException" :: (vx_atS own ic "java/lang/IndexOutOfBoundsException" ["java/lang/RuntimeException", "java/lang/Exception"]), vx_ot w = true := by
  intro w hw
  rcases List.mem_cons.mp hw with h | hw
  · rw [h]; rfl
  · rcases List.mem_cons.mp hw with h | hw
    · rw [h]; rfl
    · rcases xs_IndexOutOfBoundsException hw with h3 | h3
      · rw [h3]; rfl
      · exact xf_IndexOutOfBoundsException w h3
def xb_UnsupportedOperationException : List Cond := (Bundle.throwableAtoms ++ Bundle.throwableSAtoms ++ Bundle.chainSAtoms "java/lang/UnsupportedOperationException" ["java/lang/RuntimeException", "java/lang/Exception"]) ++ [.instantiable "java/lang/UnsupportedOperationException" 6, .castable "java/lang/UnsupportedOperationException" "java/lang/UnsupportedOperationException", .selects "java/lang/UnsupportedOperationException" Bundle.tFill0 Bundle.tFill0, .selects "java/lang/UnsupportedOperationException" Bundle.tFill Bundle.tFill, .lays "java/lang/UnsupportedOperationException" Bundle.tN "cause" "Ljava/lang/Throwable;", .lays "java/lang/UnsupportedOperationException" Bundle.tN "stackTrace" Bundle.steD, .lays "java/lang/UnsupportedOperationException" Bundle.tN "suppressedExceptions" Bundle.listD, .lays "java/lang/UnsupportedOperationException" Bundle.tN "detailMessage" "Ljava/lang/String;", .isRef (.static Bundle.tN "UNASSIGNED_STACK" Bundle.steD), .isRef (.static Bundle.tN "SUPPRESSED_SENTINEL" Bundle.listD), .fieldLink Bundle.tN 198 Bundle.tN "backtrace" "Ljava/lang/Object;", .lays Bundle.tN Bundle.tN "backtrace" "Ljava/lang/Object;", .lays "java/lang/UnsupportedOperationException" Bundle.tN "backtrace" "Ljava/lang/Object;"]
theorem xs_UnsupportedOperationException {own : String} {ic : Nat} {w : Cond} (h : w ∈ (vx_atS own ic "java/lang/UnsupportedOperationException" ["java/lang/RuntimeException", "java/lang/Exception"])) : w = .methodLink own ic ⟨"java/lang/UnsupportedOperationException", "<init>", "(Ljava/lang/String;)V"⟩ ∨ w ∈ xb_UnsupportedOperationException.filter vx_no := by
  have h0 := List.mem_filter.mp h
  rcases List.mem_append.mp h0.1 with h1 | h1
  · exact Or.inr (List.mem_filter.mpr ⟨List.mem_append_left _ h1, h0.2⟩)
  · rcases List.mem_cons.mp h1 with h2 | h2
    · exact Or.inl h2
    · exact Or.inr (List.mem_filter.mpr ⟨List.mem_append_right _ h2, h0.2⟩)
theorem xd_UnsupportedOperationException : ∀ w ∈ (xb_UnsupportedOperationException.filter vx_no).filter goodWord, w ∈ lw_tbl := by decide +kernel
theorem xe_UnsupportedOperationException : ∀ w ∈ (xb_UnsupportedOperationException.filter vx_no).filter (fun w => !goodWord w), w ∈ (ab_casts.map (fun x => Cond.castable x.1 x.2)) ++ ab_decls.map Cond.declares := by decide +kernel
theorem xf_UnsupportedOperationException : ∀ w ∈ xb_UnsupportedOperationException.filter vx_no, vx_ot w = true := by decide +kernel
theorem xg_UnsupportedOperationException {own : String} {ic : Nat} (w0 : Cond.methodLink own ic ⟨"java/lang/UnsupportedOperationException", "<init>", "(Ljava/lang/String;)V"⟩ ∈ ab_T) : ∀ w ∈ (vx_atS own ic "java/lang/UnsupportedOperationException" ["java/lang/RuntimeException", "java/lang/Exception"]).filter goodWord, w ∈ ab_T := by
  intro w hw
  obtain ⟨h1, h2⟩ := List.mem_filter.mp hw
  rcases xs_UnsupportedOperationException h1 with h3 | h3
  · rw [h3]; exact w0
  · exact List.mem_filter.mpr ⟨xd_UnsupportedOperationException w (List.mem_filter.mpr ⟨h3, h2⟩), h2⟩
theorem xn_UnsupportedOperationException (own : String) (ic : Nat) : ∀ w ∈ (vx_atS own ic "java/lang/UnsupportedOperationException" ["java/lang/RuntimeException", "java/lang/Exception"]).filter (fun w => !goodWord w), w ∈ (ab_casts.map (fun x => Cond.castable x.1 x.2)) ++ ab_decls.map Cond.declares := by
  intro w hw
  obtain ⟨h1, h2⟩ := List.mem_filter.mp hw
  rcases xs_UnsupportedOperationException h1 with h3 | h3
  · rw [h3] at h2; cases h2
  · exact xe_UnsupportedOperationException w (List.mem_filter.mpr ⟨h3, h2⟩)
theorem xo_UnsupportedOperationException (own : String) (ik ic : Nat) : ∀ w ∈ Cond.classLink own ik "java/lang/UnsupportedOperationException" :: Cond.initialized "java/lang/UnsupportedOperationException" :: (vx_atS own ic "java/lang/UnsupportedOperationException" ["java/lang/RuntimeException", "java/lang/Exception"]), vx_ot w = true := by
  intro w hw
  rcases List.mem_cons.mp hw with h | hw
  · rw [h]; rfl
  · rcases List.mem_cons.mp hw with h | hw
    · rw [h]; rfl
    · rcases xs_UnsupportedOperationException hw with h3 | h3
      · rw [h3]; rfl
      · exact xf_UnsupportedOperationException w h3
def xb_NoSuchElementException : List Cond := (Bundle.throwableAtoms ++ Bundle.throwableSAtoms ++ Bundle.passSAtoms "java/util/NoSuchElementException" "java/lang/RuntimeException" 13 prog_41_method_4_code ++ Bundle.chainSAtoms "java/lang/RuntimeException" ["java/lang/Exception"]) ++ [.instantiable "java/util/NoSuchElementException" 6, .castable "java/util/NoSuchElementException" "java/util/NoSuchElementException", .selects "java/util/NoSuchElementException" Bundle.tFill0 Bundle.tFill0, .selects "java/util/NoSuchElementException" Bundle.tFill Bundle.tFill, .lays "java/util/NoSuchElementException" Bundle.tN "cause" "Ljava/lang/Throwable;", .lays "java/util/NoSuchElementException" Bundle.tN "stackTrace" Bundle.steD, .lays "java/util/NoSuchElementException" Bundle.tN "suppressedExceptions" Bundle.listD, .lays "java/util/NoSuchElementException" Bundle.tN "detailMessage" "Ljava/lang/String;", .isRef (.static Bundle.tN "UNASSIGNED_STACK" Bundle.steD), .isRef (.static Bundle.tN "SUPPRESSED_SENTINEL" Bundle.listD), .fieldLink Bundle.tN 198 Bundle.tN "backtrace" "Ljava/lang/Object;", .lays Bundle.tN Bundle.tN "backtrace" "Ljava/lang/Object;", .lays "java/util/NoSuchElementException" Bundle.tN "backtrace" "Ljava/lang/Object;"]
theorem xs_NoSuchElementException {own : String} {ic : Nat} {w : Cond} (h : w ∈ ((nb_own own ic "java/util/NoSuchElementException" "java/lang/RuntimeException" 13 prog_41_method_4_code ["java/lang/Exception"]).filter vx_no)) : w = .methodLink own ic ⟨"java/util/NoSuchElementException", "<init>", "(Ljava/lang/String;)V"⟩ ∨ w ∈ xb_NoSuchElementException.filter vx_no := by
  have h0 := List.mem_filter.mp h
  rcases List.mem_append.mp h0.1 with h1 | h1
  · exact Or.inr (List.mem_filter.mpr ⟨List.mem_append_left _ h1, h0.2⟩)
  · rcases List.mem_cons.mp h1 with h2 | h2
    · exact Or.inl h2
    · exact Or.inr (List.mem_filter.mpr ⟨List.mem_append_right _ h2, h0.2⟩)
theorem xd_NoSuchElementException : ∀ w ∈ (xb_NoSuchElementException.filter vx_no).filter goodWord, w ∈ lw_tbl := by decide +kernel
theorem xe_NoSuchElementException : ∀ w ∈ (xb_NoSuchElementException.filter vx_no).filter (fun w => !goodWord w), w ∈ (ab_casts.map (fun x => Cond.castable x.1 x.2)) ++ ab_decls.map Cond.declares := by decide +kernel
theorem xf_NoSuchElementException : ∀ w ∈ xb_NoSuchElementException.filter vx_no, vx_ot w = true := by decide +kernel
theorem xg_NoSuchElementException {own : String} {ic : Nat} (w0 : Cond.methodLink own ic ⟨"java/util/NoSuchElementException", "<init>", "(Ljava/lang/String;)V"⟩ ∈ ab_T) : ∀ w ∈ ((nb_own own ic "java/util/NoSuchElementException" "java/lang/RuntimeException" 13 prog_41_method_4_code ["java/lang/Exception"]).filter vx_no).filter goodWord, w ∈ ab_T := by
  intro w hw
  obtain ⟨h1, h2⟩ := List.mem_filter.mp hw
  rcases xs_NoSuchElementException h1 with h3 | h3
  · rw [h3]; exact w0
  · exact List.mem_filter.mpr ⟨xd_NoSuchElementException w (List.mem_filter.mpr ⟨h3, h2⟩), h2⟩
theorem xn_NoSuchElementException (own : String) (ic : Nat) : ∀ w ∈ ((nb_own own ic "java/util/NoSuchElementException" "java/lang/RuntimeException" 13 prog_41_method_4_code ["java/lang/Exception"]).filter vx_no).filter (fun w => !goodWord w), w ∈ (ab_casts.map (fun x => Cond.castable x.1 x.2)) ++ ab_decls.map Cond.declares := by
  intro w hw
  obtain ⟨h1, h2⟩ := List.mem_filter.mp hw
  rcases xs_NoSuchElementException h1 with h3 | h3
  · rw [h3] at h2; cases h2
  · exact xe_NoSuchElementException w (List.mem_filter.mpr ⟨h3, h2⟩)
theorem xo_NoSuchElementException (own : String) (ik ic : Nat) : ∀ w ∈ Cond.classLink own ik "java/util/NoSuchElementException" :: Cond.initialized "java/util/NoSuchElementException" :: ((nb_own own ic "java/util/NoSuchElementException" "java/lang/RuntimeException" 13 prog_41_method_4_code ["java/lang/Exception"]).filter vx_no), vx_ot w = true := by
  intro w hw
  rcases List.mem_cons.mp hw with h | hw
  · rw [h]; rfl
  · rcases List.mem_cons.mp hw with h | hw
    · rw [h]; rfl
    · rcases xs_NoSuchElementException hw with h3 | h3
      · rw [h3]; rfl
      · exact xf_NoSuchElementException w h3
