/-! words of the tables, by their places -/
theorem wd_0_0 : Cond.selects "RiddlePress" ⟨"RiddlePress", "isSound", "(LRiddlePress$Riddle;)Z"⟩ ⟨"RiddlePress", "isSound", "(LRiddlePress$Riddle;)Z"⟩ ∈ ab_T := ab_w0 0 rfl rfl
theorem wd_0_1 : Cond.selects "RiddlePress$Riddle" ⟨"RiddlePress$Riddle", "isAnsweredBy", "(LRiddlePress$Order;)Z"⟩ ⟨"RiddlePress$Riddle", "isAnsweredBy", "(LRiddlePress$Order;)Z"⟩ ∈ ab_T := ab_w0 1 rfl rfl
theorem wd_0_2 : Cond.selects "RiddlePress$Riddle" ⟨"RiddlePress$Riddle", "addAnswer", "(LRiddlePress$Order;)V"⟩ ⟨"RiddlePress$Riddle", "addAnswer", "(LRiddlePress$Order;)V"⟩ ∈ ab_T := ab_w0 2 rfl rfl
theorem wd_0_3 : Cond.selects "RiddlePress$Order" ⟨"RiddlePress$Order", "exchange", "(II)V"⟩ ⟨"RiddlePress$Order", "exchange", "(II)V"⟩ ∈ ab_T := ab_w0 3 rfl rfl
theorem wd_0_5 : Cond.selects "java/util/ArrayList" ⟨"java/util/ArrayList", "add", "(Ljava/lang/Object;[Ljava/lang/Object;I)V"⟩ ⟨"java/util/ArrayList", "add", "(Ljava/lang/Object;[Ljava/lang/Object;I)V"⟩ ∈ ab_T := ab_w0 5 rfl rfl
theorem wd_0_6 : Cond.selects "java/util/ArrayList" ⟨"java/util/ArrayList", "grow", "()[Ljava/lang/Object;"⟩ ⟨"java/util/ArrayList", "grow", "()[Ljava/lang/Object;"⟩ ∈ ab_T := ab_w0 6 rfl rfl
theorem wd_0_7 : Cond.selects "java/util/ArrayList" ⟨"java/util/ArrayList", "grow", "(I)[Ljava/lang/Object;"⟩ ⟨"java/util/ArrayList", "grow", "(I)[Ljava/lang/Object;"⟩ ∈ ab_T := ab_w0 7 rfl rfl
theorem wd_0_8 : Cond.selects "RiddlePress" ⟨"RiddlePress", "findRiddle", "(I)LRiddlePress$Riddle;"⟩ ⟨"RiddlePress", "findRiddle", "(I)LRiddlePress$Riddle;"⟩ ∈ ab_T := ab_w0 8 rfl rfl
theorem wd_0_9 : Cond.selects "RiddlePress$Proof" ⟨"RiddlePress$Proof", "makeStepByClues", "(Ljava/util/List;)Z"⟩ ⟨"RiddlePress$Proof", "makeStepByClues", "(Ljava/util/List;)Z"⟩ ∈ ab_T := ab_w0 9 rfl rfl
theorem wd_0_10 : Cond.selects "RiddlePress$Places" ⟨"RiddlePress$Places", "keep", "(II)I"⟩ ⟨"RiddlePress$Places", "keep", "(II)I"⟩ ∈ ab_T := ab_w0 10 rfl rfl
theorem wd_0_11 : Cond.selects "RiddlePress$Places" ⟨"RiddlePress$Places", "takeByBefore", "(II)I"⟩ ⟨"RiddlePress$Places", "takeByBefore", "(II)I"⟩ ∈ ab_T := ab_w0 11 rfl rfl
theorem wd_0_12 : Cond.selects "RiddlePress$Places" ⟨"RiddlePress$Places", "setOf", "(I)I"⟩ ⟨"RiddlePress$Places", "setOf", "(I)I"⟩ ∈ ab_T := ab_w0 12 rfl rfl
theorem wd_0_13 : Cond.selects "RiddlePress$Places" ⟨"RiddlePress$Places", "takeByDistance", "(III)I"⟩ ⟨"RiddlePress$Places", "takeByDistance", "(III)I"⟩ ∈ ab_T := ab_w0 13 rfl rfl
theorem wd_0_14 : Cond.selects "RiddlePress$Places" ⟨"RiddlePress$Places", "takeByNextLeft", "(II)I"⟩ ⟨"RiddlePress$Places", "takeByNextLeft", "(II)I"⟩ ∈ ab_T := ab_w0 14 rfl rfl
theorem wd_0_15 : Cond.selects "RiddlePress$Places" ⟨"RiddlePress$Places", "takeByBetween", "(III)I"⟩ ⟨"RiddlePress$Places", "takeByBetween", "(III)I"⟩ ∈ ab_T := ab_w0 15 rfl rfl
theorem wd_0_16 : Cond.selects "RiddlePress$Proof" ⟨"RiddlePress$Proof", "addStep", "(III)Z"⟩ ⟨"RiddlePress$Proof", "addStep", "(III)Z"⟩ ∈ ab_T := ab_w0 16 rfl rfl
theorem wd_0_17 : Cond.selects "RiddlePress$Proof" ⟨"RiddlePress$Proof", "makeStepByPersons", "()Z"⟩ ⟨"RiddlePress$Proof", "makeStepByPersons", "()Z"⟩ ∈ ab_T := ab_w0 17 rfl rfl
theorem wd_0_18 : Cond.selects "RiddlePress$Places" ⟨"RiddlePress$Places", "takeFromOthers", "(III)I"⟩ ⟨"RiddlePress$Places", "takeFromOthers", "(III)I"⟩ ∈ ab_T := ab_w0 18 rfl rfl
theorem wd_0_19 : Cond.selects "RiddlePress$Proof" ⟨"RiddlePress$Proof", "makeStepByPlaces", "()Z"⟩ ⟨"RiddlePress$Proof", "makeStepByPlaces", "()Z"⟩ ∈ ab_T := ab_w0 19 rfl rfl
theorem wd_0_20 : Cond.selects "RiddlePress$Proof" ⟨"RiddlePress$Proof", "makeStepByPairs", "()Z"⟩ ⟨"RiddlePress$Proof", "makeStepByPairs", "()Z"⟩ ∈ ab_T := ab_w0 20 rfl rfl
theorem wd_0_21 : Cond.selects "RiddlePress$Proof" ⟨"RiddlePress$Proof", "makeStepByOwnRules", "(Ljava/util/List;Ljava/util/List;)Z"⟩ ⟨"RiddlePress$Proof", "makeStepByOwnRules", "(Ljava/util/List;Ljava/util/List;)Z"⟩ ∈ ab_T := ab_w0 21 rfl rfl
theorem wd_0_22 : Cond.selects "RiddlePress" ⟨"RiddlePress", "checkRule", "(I)V"⟩ ⟨"RiddlePress", "checkRule", "(I)V"⟩ ∈ ab_T := ab_w0 22 rfl rfl
theorem wd_0_23 : Cond.selects "RiddlePress$OwnRule" ⟨"RiddlePress$OwnRule", "findCounterexampleOf", "(LRiddlePress$Order;LRiddlePress$Clue;I)V"⟩ ⟨"RiddlePress$OwnRule", "findCounterexampleOf", "(LRiddlePress$Order;LRiddlePress$Clue;I)V"⟩ ∈ ab_T := ab_w0 23 rfl rfl
theorem wd_0_24 : Cond.selects "RiddlePress" ⟨"RiddlePress", "findOwnRule", "(I)LRiddlePress$OwnRule;"⟩ ⟨"RiddlePress", "findOwnRule", "(I)LRiddlePress$OwnRule;"⟩ ∈ ab_T := ab_w0 24 rfl rfl
theorem wd_0_25 : Cond.selects "RiddlePress" ⟨"RiddlePress", "isOnSaleBy", "(LRiddlePress$Issue;I)Z"⟩ ⟨"RiddlePress", "isOnSaleBy", "(LRiddlePress$Issue;I)Z"⟩ ∈ ab_T := ab_w0 25 rfl rfl
theorem wd_0_26 : Cond.selects "RiddlePress" ⟨"RiddlePress", "payBack", "(II)V"⟩ ⟨"RiddlePress", "payBack", "(II)V"⟩ ∈ ab_T := ab_w0 26 rfl rfl
theorem wd_0_27 : Cond.selects "RiddlePress" ⟨"RiddlePress", "takeBackRiddles", "(LRiddlePress$Issue;I)V"⟩ ⟨"RiddlePress", "takeBackRiddles", "(LRiddlePress$Issue;I)V"⟩ ∈ ab_T := ab_w0 27 rfl rfl
theorem wd_0_28 : Cond.selects "RiddlePress" ⟨"RiddlePress", "loseProofsBy", "(I)V"⟩ ⟨"RiddlePress", "loseProofsBy", "(I)V"⟩ ∈ ab_T := ab_w0 28 rfl rfl
theorem wd_0_29 : Cond.selects "RiddlePress" ⟨"RiddlePress", "findIssue", "(I)LRiddlePress$Issue;"⟩ ⟨"RiddlePress", "findIssue", "(I)LRiddlePress$Issue;"⟩ ∈ ab_T := ab_w0 29 rfl rfl
theorem wd_0_30 : Cond.selects "RiddlePress" ⟨"RiddlePress", "countRiddlesOf", "(LRiddlePress$Issue;)I"⟩ ⟨"RiddlePress", "countRiddlesOf", "(LRiddlePress$Issue;)I"⟩ ∈ ab_T := ab_w0 30 rfl rfl
theorem wd_0_31 : Cond.selects "RiddlePress" ⟨"RiddlePress", "sellToSubscribers", "(II)I"⟩ ⟨"RiddlePress", "sellToSubscribers", "(II)I"⟩ ∈ ab_T := ab_w0 31 rfl rfl
theorem wd_0_32 : Cond.selects "RiddlePress" ⟨"RiddlePress", "sell", "(LRiddlePress$Customer;II)V"⟩ ⟨"RiddlePress", "sell", "(LRiddlePress$Customer;II)V"⟩ ∈ ab_T := ab_w0 32 rfl rfl
theorem wd_0_33 : Cond.selects "RiddlePress" ⟨"RiddlePress", "findCustomer", "(I)LRiddlePress$Customer;"⟩ ⟨"RiddlePress", "findCustomer", "(I)LRiddlePress$Customer;"⟩ ∈ ab_T := ab_w0 33 rfl rfl
theorem wd_0_34 : Cond.selects "RiddlePress" ⟨"RiddlePress", "countWholeProofs", "()I"⟩ ⟨"RiddlePress", "countWholeProofs", "()I"⟩ ∈ ab_T := ab_w0 34 rfl rfl
theorem wd_0_35 : Cond.selects "RiddlePressModel" ⟨"RiddlePressModel", "fails", "(I)I"⟩ ⟨"RiddlePressModel", "fails", "(I)I"⟩ ∈ ab_T := ab_w0 35 rfl rfl
theorem wd_0_36 : Cond.selects "RiddlePressModel" ⟨"RiddlePressModel", "tell", "(I)I"⟩ ⟨"RiddlePressModel", "tell", "(I)I"⟩ ∈ ab_T := ab_w0 36 rfl rfl
theorem wd_0_37 : Cond.selects "RiddlePressModel" ⟨"RiddlePressModel", "isRiddle", "(I)Z"⟩ ⟨"RiddlePressModel", "isRiddle", "(I)Z"⟩ ∈ ab_T := ab_w0 37 rfl rfl
theorem wd_0_38 : Cond.selects "RiddlePressModel" ⟨"RiddlePressModel", "isClue", "(IIIII)Z"⟩ ⟨"RiddlePressModel", "isClue", "(IIIII)Z"⟩ ∈ ab_T := ab_w0 38 rfl rfl
theorem wd_0_39 : Cond.selects "RiddlePressModel" ⟨"RiddlePressModel", "answersOf", "(I)I"⟩ ⟨"RiddlePressModel", "answersOf", "(I)I"⟩ ∈ ab_T := ab_w0 39 rfl rfl
theorem wd_0_40 : Cond.selects "RiddlePressModel" ⟨"RiddlePressModel", "begins", "(I)V"⟩ ⟨"RiddlePressModel", "begins", "(I)V"⟩ ∈ ab_T := ab_w0 40 rfl rfl
theorem wd_0_41 : Cond.selects "RiddlePressModel" ⟨"RiddlePressModel", "fitsAll", "()Z"⟩ ⟨"RiddlePressModel", "fitsAll", "()Z"⟩ ∈ ab_T := ab_w0 41 rfl rfl
theorem wd_0_42 : Cond.selects "RiddlePressModel" ⟨"RiddlePressModel", "fits", "(I)Z"⟩ ⟨"RiddlePressModel", "fits", "(I)Z"⟩ ∈ ab_T := ab_w0 42 rfl rfl
theorem wd_0_43 : Cond.selects "RiddlePressModel" ⟨"RiddlePressModel", "goesOn", "(I)Z"⟩ ⟨"RiddlePressModel", "goesOn", "(I)Z"⟩ ∈ ab_T := ab_w0 43 rfl rfl
theorem wd_0_44 : Cond.selects "RiddlePressModel" ⟨"RiddlePressModel", "swaps", "(II)V"⟩ ⟨"RiddlePressModel", "swaps", "(II)V"⟩ ∈ ab_T := ab_w0 44 rfl rfl
theorem wd_0_45 : Cond.selects "RiddlePressModel" ⟨"RiddlePressModel", "noLetter", "(I)C"⟩ ⟨"RiddlePressModel", "noLetter", "(I)C"⟩ ∈ ab_T := ab_w0 45 rfl rfl
theorem wd_0_46 : Cond.selects "RiddlePressModel" ⟨"RiddlePressModel", "proves", "(I)I"⟩ ⟨"RiddlePressModel", "proves", "(I)I"⟩ ∈ ab_T := ab_w0 46 rfl rfl
theorem wd_0_47 : Cond.selects "RiddlePressModel" ⟨"RiddlePressModel", "all", "()I"⟩ ⟨"RiddlePressModel", "all", "()I"⟩ ∈ ab_T := ab_w0 47 rfl rfl
theorem wd_0_48 : Cond.selects "RiddlePressModel" ⟨"RiddlePressModel", "isAnyDone", "()Z"⟩ ⟨"RiddlePressModel", "isAnyDone", "()Z"⟩ ∈ ab_T := ab_w0 48 rfl rfl
theorem wd_0_49 : Cond.selects "RiddlePressModel" ⟨"RiddlePressModel", "isDone", "(I)Z"⟩ ⟨"RiddlePressModel", "isDone", "(I)Z"⟩ ∈ ab_T := ab_w0 49 rfl rfl
theorem wd_0_50 : Cond.selects "RiddlePressModel" ⟨"RiddlePressModel", "byClue", "(II)I"⟩ ⟨"RiddlePressModel", "byClue", "(II)I"⟩ ∈ ab_T := ab_w0 50 rfl rfl
theorem wd_0_51 : Cond.selects "RiddlePressModel" ⟨"RiddlePressModel", "byOwn", "(II)I"⟩ ⟨"RiddlePressModel", "byOwn", "(II)I"⟩ ∈ ab_T := ab_w0 51 rfl rfl
theorem wd_0_52 : Cond.selects "RiddlePressModel" ⟨"RiddlePressModel", "takes", "(II)I"⟩ ⟨"RiddlePressModel", "takes", "(II)I"⟩ ∈ ab_T := ab_w0 52 rfl rfl
theorem wd_0_53 : Cond.selects "RiddlePressModel" ⟨"RiddlePressModel", "before", "(II)I"⟩ ⟨"RiddlePressModel", "before", "(II)I"⟩ ∈ ab_T := ab_w0 53 rfl rfl
theorem wd_0_54 : Cond.selects "RiddlePressModel" ⟨"RiddlePressModel", "both", "(IIIZZ)I"⟩ ⟨"RiddlePressModel", "both", "(IIIZZ)I"⟩ ∈ ab_T := ab_w0 54 rfl rfl
theorem wd_0_55 : Cond.selects "RiddlePressModel" ⟨"RiddlePressModel", "between", "(III)I"⟩ ⟨"RiddlePressModel", "between", "(III)I"⟩ ∈ ab_T := ab_w0 55 rfl rfl
theorem wd_0_56 : Cond.selects "RiddlePressModel" ⟨"RiddlePressModel", "isStep", "(III)Z"⟩ ⟨"RiddlePressModel", "isStep", "(III)Z"⟩ ∈ ab_T := ab_w0 56 rfl rfl
theorem wd_0_57 : Cond.selects "RiddlePressModel" ⟨"RiddlePressModel", "byPair", "(II)I"⟩ ⟨"RiddlePressModel", "byPair", "(II)I"⟩ ∈ ab_T := ab_w0 57 rfl rfl
theorem wd_0_58 : Cond.selects "RiddlePressModel" ⟨"RiddlePressModel", "byPerson", "(I)I"⟩ ⟨"RiddlePressModel", "byPerson", "(I)I"⟩ ∈ ab_T := ab_w0 58 rfl rfl
theorem wd_0_59 : Cond.selects "RiddlePressModel" ⟨"RiddlePressModel", "byPlace", "(I)I"⟩ ⟨"RiddlePressModel", "byPlace", "(I)I"⟩ ∈ ab_T := ab_w0 59 rfl rfl
theorem wd_0_60 : Cond.selects "RiddlePressModel" ⟨"RiddlePressModel", "isEmpty", "()Z"⟩ ⟨"RiddlePressModel", "isEmpty", "()Z"⟩ ∈ ab_T := ab_w0 60 rfl rfl
theorem wd_0_61 : Cond.selects "RiddlePressModel" ⟨"RiddlePressModel", "letter", "(I)C"⟩ ⟨"RiddlePressModel", "letter", "(I)C"⟩ ∈ ab_T := ab_w0 61 rfl rfl
theorem wd_0_62 : Cond.selects "RiddlePressModel" ⟨"RiddlePressModel", "stepOf", "(II)I"⟩ ⟨"RiddlePressModel", "stepOf", "(II)I"⟩ ∈ ab_T := ab_w0 62 rfl rfl
theorem wd_0_63 : Cond.selects "RiddlePressModel" ⟨"RiddlePressModel", "isRule", "(I)Z"⟩ ⟨"RiddlePressModel", "isRule", "(I)Z"⟩ ∈ ab_T := ab_w0 63 rfl rfl
theorem wd_0_64 : Cond.selects "RiddlePressModel" ⟨"RiddlePressModel", "leans", "(II)Z"⟩ ⟨"RiddlePressModel", "leans", "(II)Z"⟩ ∈ ab_T := ab_w0 64 rfl rfl
theorem wd_0_65 : Cond.selects "RiddlePressModel" ⟨"RiddlePressModel", "tells", "(Z)Z"⟩ ⟨"RiddlePressModel", "tells", "(Z)Z"⟩ ∈ ab_T := ab_w0 65 rfl rfl
theorem wd_0_66 : Cond.selects "RiddlePressModel" ⟨"RiddlePressModel", "refuses", "(I)Z"⟩ ⟨"RiddlePressModel", "refuses", "(I)Z"⟩ ∈ ab_T := ab_w0 66 rfl rfl
theorem wd_0_67 : Cond.selects "RiddlePressModel" ⟨"RiddlePressModel", "isOwn", "(I)Z"⟩ ⟨"RiddlePressModel", "isOwn", "(I)Z"⟩ ∈ ab_T := ab_w0 67 rfl rfl
theorem wd_0_68 : Cond.selects "RiddlePressModel" ⟨"RiddlePressModel", "leastAgainst", "(I)I"⟩ ⟨"RiddlePressModel", "leastAgainst", "(I)I"⟩ ∈ ab_T := ab_w0 68 rfl rfl
theorem wd_0_69 : Cond.selects "RiddlePressModel" ⟨"RiddlePressModel", "against", "(II)I"⟩ ⟨"RiddlePressModel", "against", "(II)I"⟩ ∈ ab_T := ab_w0 69 rfl rfl
theorem wd_0_70 : Cond.selects "RiddlePressModel" ⟨"RiddlePressModel", "isAgainst", "(II)Z"⟩ ⟨"RiddlePressModel", "isAgainst", "(II)Z"⟩ ∈ ab_T := ab_w0 70 rfl rfl
theorem wd_0_71 : Cond.selects "RiddlePressModel" ⟨"RiddlePressModel", "leansIssue", "(II)Z"⟩ ⟨"RiddlePressModel", "leansIssue", "(II)Z"⟩ ∈ ab_T := ab_w0 71 rfl rfl
theorem wd_0_72 : Cond.selects "RiddlePressModel" ⟨"RiddlePressModel", "recalls", "(II)V"⟩ ⟨"RiddlePressModel", "recalls", "(II)V"⟩ ∈ ab_T := ab_w0 72 rfl rfl
theorem wd_0_73 : Cond.selects "RiddlePressModel" ⟨"RiddlePressModel", "takesOut", "(I)V"⟩ ⟨"RiddlePressModel", "takesOut", "(I)V"⟩ ∈ ab_T := ab_w0 73 rfl rfl
theorem wd_0_74 : Cond.selects "RiddlePressModel" ⟨"RiddlePressModel", "isIssue", "(I)Z"⟩ ⟨"RiddlePressModel", "isIssue", "(I)Z"⟩ ∈ ab_T := ab_w0 74 rfl rfl
theorem wd_0_75 : Cond.selects "RiddlePressModel" ⟨"RiddlePressModel", "gets", "(II)V"⟩ ⟨"RiddlePressModel", "gets", "(II)V"⟩ ∈ ab_T := ab_w0 75 rfl rfl
theorem wd_0_76 : Cond.selects "RiddlePressModel" ⟨"RiddlePressModel", "isCustomer", "(I)Z"⟩ ⟨"RiddlePressModel", "isCustomer", "(I)Z"⟩ ∈ ab_T := ab_w0 76 rfl rfl
theorem wd_0_77 : Cond.selects "RiddlePressModel" ⟨"RiddlePressModel", "leansOwn", "(I)Z"⟩ ⟨"RiddlePressModel", "leansOwn", "(I)Z"⟩ ∈ ab_T := ab_w0 77 rfl rfl
theorem wd_1_1 : (Jvm.Cond.initialized "RiddlePress") ∈ ab_T := ab_w1 1 rfl rfl
theorem wd_1_2 : (Jvm.Cond.initialized "java/util/AbstractCollection") ∈ ab_T := ab_w1 2 rfl rfl
theorem wd_1_3 : (Jvm.Cond.initialized "java/util/AbstractList") ∈ ab_T := ab_w1 3 rfl rfl
theorem wd_1_4 : (Jvm.Cond.initialized "java/util/ArrayList") ∈ ab_T := ab_w1 4 rfl rfl
theorem wd_1_5 : (Jvm.Cond.initialized "RiddlePressModel") ∈ ab_T := ab_w1 5 rfl rfl
theorem wd_1_9 : (Jvm.Cond.initialized "java/lang/IllegalArgumentException") ∈ ab_T := ab_w1 9 rfl rfl
theorem wd_1_10 : (Jvm.Cond.initialized "java/lang/IllegalStateException") ∈ ab_T := ab_w1 10 rfl rfl
theorem wd_1_11 : (Jvm.Cond.initialized "RiddlePress$Riddle") ∈ ab_T := ab_w1 11 rfl rfl
theorem wd_1_12 : (Jvm.Cond.initialized "RiddlePress$Proof") ∈ ab_T := ab_w1 12 rfl rfl
theorem wd_1_13 : (Jvm.Cond.initialized "RiddlePress$Places") ∈ ab_T := ab_w1 13 rfl rfl
theorem wd_1_14 : (Jvm.Cond.initialized "jdk/internal/util/ArraysSupport") ∈ ab_T := ab_w1 14 rfl rfl
theorem wd_1_15 : (Jvm.Cond.initialized "java/lang/Math") ∈ ab_T := ab_w1 15 rfl rfl
theorem wd_1_16 : (Jvm.Cond.initialized "java/util/Arrays") ∈ ab_T := ab_w1 16 rfl rfl
theorem wd_1_17 : (Jvm.Cond.initialized "java/lang/System") ∈ ab_T := ab_w1 17 rfl rfl
theorem wd_1_18 : (Jvm.Cond.initialized "java/lang/IndexOutOfBoundsException") ∈ ab_T := ab_w1 18 rfl rfl
theorem wd_1_20 : (Jvm.Cond.initialized "java/lang/String") ∈ ab_T := ab_w1 20 rfl rfl
theorem wd_1_21 : (Jvm.Cond.initialized "java/util/Objects") ∈ ab_T := ab_w1 21 rfl rfl
theorem wd_1_22 : (Jvm.Cond.initialized "jdk/internal/util/Preconditions") ∈ ab_T := ab_w1 22 rfl rfl
theorem wd_1_23 : (Jvm.Cond.initialized "RiddlePress$Clue") ∈ ab_T := ab_w1 23 rfl rfl
theorem wd_1_24 : (Jvm.Cond.initialized "java/lang/StringLatin1") ∈ ab_T := ab_w1 24 rfl rfl
theorem wd_1_27 : (Jvm.Cond.initialized "java/lang/UnsupportedOperationException") ∈ ab_T := ab_w1 27 rfl rfl
theorem wd_1_28 : (Jvm.Cond.initialized "RiddlePress$Order") ∈ ab_T := ab_w1 28 rfl rfl
theorem wd_1_29 : (Jvm.Cond.initialized "java/util/NoSuchElementException") ∈ ab_T := ab_w1 29 rfl rfl
theorem wd_1_30 : (Jvm.Cond.initialized "java/lang/Integer") ∈ ab_T := ab_w1 30 rfl rfl
theorem wd_1_31 : (Jvm.Cond.initialized "RiddlePress$OwnRule") ∈ ab_T := ab_w1 31 rfl rfl
theorem wd_1_32 : (Jvm.Cond.initialized "RiddlePress$Issue") ∈ ab_T := ab_w1 32 rfl rfl
theorem wd_1_33 : (Jvm.Cond.initialized "RiddlePress$Customer") ∈ ab_T := ab_w1 33 rfl rfl
theorem wd_1_34 : (Jvm.Cond.initialized "java/lang/ArithmeticException") ∈ ab_T := ab_w1 34 rfl rfl
theorem wd_1_40 : (Jvm.Cond.methodLink "RiddlePress" (1 : Nat) ({ cls := "java/lang/Object", name := "<init>", desc := "()V" } : Jvm.MethodName)) ∈ ab_T := ab_w1 40 rfl rfl
theorem wd_1_41 : (Jvm.Cond.instanceMethod ({ cls := "java/lang/Object", name := "<init>", desc := "()V" } : Jvm.MethodName)) ∈ ab_T := ab_w1 41 rfl rfl
theorem wd_1_42 : (Jvm.Cond.code ({ cls := "java/lang/Object", name := "<init>", desc := "()V" } : Jvm.MethodName) object_method_1_code (1 : Nat) (Option.none : Option Jvm.ClassFile.FieldType)) ∈ ab_T := ab_w1 42 rfl rfl
theorem wd_1_43 : (Jvm.Cond.classLink "RiddlePress" (7 : Nat) "java/util/ArrayList") ∈ ab_T := ab_w1 43 rfl rfl
theorem wd_1_44 : (Jvm.Cond.instantiable "java/util/ArrayList" (3 : Nat)) ∈ ab_T := ab_w1 44 rfl rfl
theorem wd_1_45 : (Jvm.Cond.methodLink "RiddlePress" (9 : Nat) ({ cls := "java/util/ArrayList", name := "<init>", desc := "()V" } : Jvm.MethodName)) ∈ ab_T := ab_w1 45 rfl rfl
theorem wd_1_46 : (Jvm.Cond.instanceMethod ({ cls := "java/util/ArrayList", name := "<init>", desc := "()V" } : Jvm.MethodName)) ∈ ab_T := ab_w1 46 rfl rfl
theorem wd_1_47 : (Jvm.Cond.code ({ cls := "java/util/ArrayList", name := "<init>", desc := "()V" } : Jvm.MethodName) prog_37_method_2_code (1 : Nat) (Option.none : Option Jvm.ClassFile.FieldType)) ∈ ab_T := ab_w1 47 rfl rfl
theorem wd_1_48 : (Jvm.Cond.methodLink "java/util/ArrayList" (1 : Nat) ({ cls := "java/util/AbstractList", name := "<init>", desc := "()V" } : Jvm.MethodName)) ∈ ab_T := ab_w1 48 rfl rfl
theorem wd_1_49 : (Jvm.Cond.instanceMethod ({ cls := "java/util/AbstractList", name := "<init>", desc := "()V" } : Jvm.MethodName)) ∈ ab_T := ab_w1 49 rfl rfl
theorem wd_1_50 : (Jvm.Cond.code ({ cls := "java/util/AbstractList", name := "<init>", desc := "()V" } : Jvm.MethodName) prog_36_method_1_code (1 : Nat) (Option.none : Option Jvm.ClassFile.FieldType)) ∈ ab_T := ab_w1 50 rfl rfl
theorem wd_1_51 : (Jvm.Cond.methodLink "java/util/AbstractList" (1 : Nat) ({ cls := "java/util/AbstractCollection", name := "<init>", desc := "()V" } : Jvm.MethodName)) ∈ ab_T := ab_w1 51 rfl rfl
theorem wd_1_52 : (Jvm.Cond.instanceMethod ({ cls := "java/util/AbstractCollection", name := "<init>", desc := "()V" } : Jvm.MethodName)) ∈ ab_T := ab_w1 52 rfl rfl
theorem wd_1_53 : (Jvm.Cond.code ({ cls := "java/util/AbstractCollection", name := "<init>", desc := "()V" } : Jvm.MethodName) prog_35_method_1_code (1 : Nat) (Option.none : Option Jvm.ClassFile.FieldType)) ∈ ab_T := ab_w1 53 rfl rfl
theorem wd_1_54 : (Jvm.Cond.methodLink "java/util/AbstractCollection" (1 : Nat) ({ cls := "java/lang/Object", name := "<init>", desc := "()V" } : Jvm.MethodName)) ∈ ab_T := ab_w1 54 rfl rfl
theorem wd_1_55 : (Jvm.Cond.fieldLink "java/util/ArrayList" (39 : Nat) "java/util/ArrayList" "DEFAULTCAPACITY_EMPTY_ELEMENTDATA" "[Ljava/lang/Object;") ∈ ab_T := ab_w1 55 rfl rfl
theorem wd_1_57 : (Jvm.Cond.fieldLink "java/util/ArrayList" (9 : Nat) "java/util/ArrayList" "elementData" "[Ljava/lang/Object;") ∈ ab_T := ab_w1 57 rfl rfl
theorem wd_1_58 : (Jvm.Cond.fieldLink "java/util/ArrayList" (48 : Nat) "java/util/ArrayList" "size" "I") ∈ ab_T := ab_w1 58 rfl rfl
theorem wd_1_59 : (Jvm.Cond.fieldLink "java/util/AbstractList" (7 : Nat) "java/util/AbstractList" "modCount" "I") ∈ ab_T := ab_w1 59 rfl rfl
theorem wd_1_60 : (Jvm.Cond.fieldLink "java/util/ArrayList" (63 : Nat) "java/util/ArrayList" "modCount" "I") ∈ ab_T := ab_w1 60 rfl rfl
theorem wd_1_61 : (Jvm.Cond.sameField "java/util/ArrayList" "java/util/AbstractList" "modCount" "I") ∈ ab_T := ab_w1 61 rfl rfl
theorem wd_1_62 : (Jvm.Cond.lays "java/util/ArrayList" "java/util/ArrayList" "elementData" "[Ljava/lang/Object;") ∈ ab_T := ab_w1 62 rfl rfl
theorem wd_1_64 : (Jvm.Cond.lays "java/util/ArrayList" "java/util/ArrayList" "size" "I") ∈ ab_T := ab_w1 64 rfl rfl
theorem wd_1_66 : (Jvm.Cond.lays "java/util/ArrayList" "java/util/AbstractList" "modCount" "I") ∈ ab_T := ab_w1 66 rfl rfl
theorem wd_1_69 : (Jvm.Cond.fieldLink "RiddlePress" (10 : Nat) "RiddlePress" "riddles" "Ljava/util/List;") ∈ ab_T := ab_w1 69 rfl rfl
theorem wd_1_70 : (Jvm.Cond.fieldLink "RiddlePress" (16 : Nat) "RiddlePress" "ownRules" "Ljava/util/List;") ∈ ab_T := ab_w1 70 rfl rfl
theorem wd_1_71 : (Jvm.Cond.fieldLink "RiddlePress" (19 : Nat) "RiddlePress" "issues" "Ljava/util/List;") ∈ ab_T := ab_w1 71 rfl rfl
theorem wd_1_72 : (Jvm.Cond.fieldLink "RiddlePress" (22 : Nat) "RiddlePress" "customers" "Ljava/util/List;") ∈ ab_T := ab_w1 72 rfl rfl
theorem wd_1_73 : (Jvm.Cond.fieldLink "RiddlePress" (25 : Nat) "RiddlePress" "pressCredits" "J") ∈ ab_T := ab_w1 73 rfl rfl
theorem wd_1_74 : (Jvm.Cond.laysFinal "RiddlePress" "RiddlePress" "riddles" "Ljava/util/List;") ∈ ab_T := ab_w1 74 rfl rfl
theorem wd_1_76 : (Jvm.Cond.laysFinal "RiddlePress" "RiddlePress" "ownRules" "Ljava/util/List;") ∈ ab_T := ab_w1 76 rfl rfl
theorem wd_1_78 : (Jvm.Cond.laysFinal "RiddlePress" "RiddlePress" "issues" "Ljava/util/List;") ∈ ab_T := ab_w1 78 rfl rfl
theorem wd_1_80 : (Jvm.Cond.laysFinal "RiddlePress" "RiddlePress" "customers" "Ljava/util/List;") ∈ ab_T := ab_w1 80 rfl rfl
theorem wd_1_82 : (Jvm.Cond.lays "RiddlePress" "RiddlePress" "pressCredits" "J") ∈ ab_T := ab_w1 82 rfl rfl
theorem wd_1_94 : (Jvm.Cond.methodLink "RiddlePress" (36 : Nat) ({ cls := "java/util/List", name := "size", desc := "()I" } : Jvm.MethodName)) ∈ ab_T := ab_w1 94 rfl rfl
theorem wd_1_98 : (Jvm.Cond.selects "java/util/ArrayList" ({ cls := "java/util/List", name := "size", desc := "()I" } : Jvm.MethodName) ({ cls := "java/util/ArrayList", name := "size", desc := "()I" } : Jvm.MethodName)) ∈ ab_T := ab_w1 98 rfl rfl
theorem wd_1_100 : (Jvm.Cond.instanceMethod ({ cls := "java/util/ArrayList", name := "size", desc := "()I" } : Jvm.MethodName)) ∈ ab_T := ab_w1 100 rfl rfl
theorem wd_1_102 : (Jvm.Cond.code ({ cls := "java/util/ArrayList", name := "size", desc := "()I" } : Jvm.MethodName) prog_37_method_8_code (1 : Nat) (Option.some Jvm.ClassFile.FieldType.int)) ∈ ab_T := ab_w1 102 rfl rfl
theorem wd_1_104 : (Jvm.Cond.methodLink "RiddlePress" (192 : Nat) ({ cls := "java/util/List", name := "get", desc := "(I)Ljava/lang/Object;" } : Jvm.MethodName)) ∈ ab_T := ab_w1 104 rfl rfl
theorem wd_1_107 : (Jvm.Cond.selects "java/util/ArrayList" ({ cls := "java/util/List", name := "get", desc := "(I)Ljava/lang/Object;" } : Jvm.MethodName) ({ cls := "java/util/ArrayList", name := "get", desc := "(I)Ljava/lang/Object;" } : Jvm.MethodName)) ∈ ab_T := ab_w1 107 rfl rfl
theorem wd_1_109 : (Jvm.Cond.instanceMethod ({ cls := "java/util/ArrayList", name := "get", desc := "(I)Ljava/lang/Object;" } : Jvm.MethodName)) ∈ ab_T := ab_w1 109 rfl rfl
theorem wd_1_111 : (Jvm.Cond.code ({ cls := "java/util/ArrayList", name := "get", desc := "(I)Ljava/lang/Object;" } : Jvm.MethodName) prog_37_method_20_code (2 : Nat) (Option.some (Jvm.ClassFile.FieldType.object "java/lang/Object"))) ∈ ab_T := ab_w1 111 rfl rfl
theorem wd_1_112 : (Jvm.Cond.methodLink "java/util/ArrayList" (118 : Nat) ({ cls := "java/util/Objects", name := "checkIndex", desc := "(II)I" } : Jvm.MethodName)) ∈ ab_T := ab_w1 112 rfl rfl
theorem wd_1_113 : (Jvm.Cond.static ({ cls := "java/util/Objects", name := "checkIndex", desc := "(II)I" } : Jvm.MethodName)) ∈ ab_T := ab_w1 113 rfl rfl
theorem wd_1_114 : (Jvm.Cond.code ({ cls := "java/util/Objects", name := "checkIndex", desc := "(II)I" } : Jvm.MethodName) prog_42_method_17_code (2 : Nat) (Option.some Jvm.ClassFile.FieldType.int)) ∈ ab_T := ab_w1 114 rfl rfl
theorem wd_1_115 : (Jvm.Cond.methodLink "java/util/Objects" (105 : Nat) ({ cls := "jdk/internal/util/Preconditions", name := "checkIndex", desc := "(IILjava/util/function/BiFunction;)I" } : Jvm.MethodName)) ∈ ab_T := ab_w1 115 rfl rfl
theorem wd_1_116 : (Jvm.Cond.static ({ cls := "jdk/internal/util/Preconditions", name := "checkIndex", desc := "(IILjava/util/function/BiFunction;)I" } : Jvm.MethodName)) ∈ ab_T := ab_w1 116 rfl rfl
theorem wd_1_117 : (Jvm.Cond.code ({ cls := "jdk/internal/util/Preconditions", name := "checkIndex", desc := "(IILjava/util/function/BiFunction;)I" } : Jvm.MethodName) prog_46_method_11_code (3 : Nat) (Option.some Jvm.ClassFile.FieldType.int)) ∈ ab_T := ab_w1 117 rfl rfl
theorem wd_1_118 : (Jvm.Cond.methodLink "java/util/ArrayList" (123 : Nat) ({ cls := "java/util/ArrayList", name := "elementData", desc := "(I)Ljava/lang/Object;" } : Jvm.MethodName)) ∈ ab_T := ab_w1 118 rfl rfl
theorem wd_1_119 : (Jvm.Cond.instanceMethod ({ cls := "java/util/ArrayList", name := "elementData", desc := "(I)Ljava/lang/Object;" } : Jvm.MethodName)) ∈ ab_T := ab_w1 119 rfl rfl
theorem wd_1_120 : (Jvm.Cond.selects "java/util/ArrayList" ({ cls := "java/util/ArrayList", name := "elementData", desc := "(I)Ljava/lang/Object;" } : Jvm.MethodName) ({ cls := "java/util/ArrayList", name := "elementData", desc := "(I)Ljava/lang/Object;" } : Jvm.MethodName)) ∈ ab_T := ab_w1 120 rfl rfl
theorem wd_1_121 : (Jvm.Cond.code ({ cls := "java/util/ArrayList", name := "elementData", desc := "(I)Ljava/lang/Object;" } : Jvm.MethodName) prog_37_method_18_code (2 : Nat) (Option.some (Jvm.ClassFile.FieldType.object "java/lang/Object"))) ∈ ab_T := ab_w1 121 rfl rfl
theorem wd_1_122 : (Jvm.Cond.classLink "RiddlePress" (47 : Nat) "RiddlePress$Riddle") ∈ ab_T := ab_w1 122 rfl rfl
theorem wd_1_123 : (Jvm.Cond.methodLink "RiddlePress" (283 : Nat) ({ cls := "RiddlePress", name := "isSound", desc := "(LRiddlePress$Riddle;)Z" } : Jvm.MethodName)) ∈ ab_T := ab_w1 123 rfl rfl
theorem wd_1_125 : (Jvm.Cond.instanceMethod ({ cls := "RiddlePress", name := "isSound", desc := "(LRiddlePress$Riddle;)Z" } : Jvm.MethodName)) ∈ ab_T := ab_w1 125 rfl rfl
theorem wd_1_126 : (Jvm.Cond.code ({ cls := "RiddlePress", name := "isSound", desc := "(LRiddlePress$Riddle;)Z" } : Jvm.MethodName) prog_1_method_43_code (4 : Nat) (Option.some Jvm.ClassFile.FieldType.boolean)) ∈ ab_T := ab_w1 126 rfl rfl
theorem wd_1_127 : (Jvm.Cond.methodLink "RiddlePress" (150 : Nat) ({ cls := "RiddlePress$Proof", name := "hasStepBy", desc := "(I)Z" } : Jvm.MethodName)) ∈ ab_T := ab_w1 127 rfl rfl
theorem wd_1_128 : (Jvm.Cond.instanceMethod ({ cls := "RiddlePress$Proof", name := "hasStepBy", desc := "(I)Z" } : Jvm.MethodName)) ∈ ab_T := ab_w1 128 rfl rfl
theorem wd_1_129 : (Jvm.Cond.selects "RiddlePress$Proof" ({ cls := "RiddlePress$Proof", name := "hasStepBy", desc := "(I)Z" } : Jvm.MethodName) ({ cls := "RiddlePress$Proof", name := "hasStepBy", desc := "(I)Z" } : Jvm.MethodName)) ∈ ab_T := ab_w1 129 rfl rfl
theorem wd_1_130 : (Jvm.Cond.code ({ cls := "RiddlePress$Proof", name := "hasStepBy", desc := "(I)Z" } : Jvm.MethodName) prog_8_method_3_code (2 : Nat) (Option.some Jvm.ClassFile.FieldType.boolean)) ∈ ab_T := ab_w1 130 rfl rfl
theorem wd_1_131 : (Jvm.Cond.classLink "RiddlePress" (169 : Nat) "RiddlePress$OwnRule") ∈ ab_T := ab_w1 131 rfl rfl
theorem wd_1_132 : (Jvm.Cond.methodLink "RiddlePress" (99 : Nat) ({ cls := "RiddlePress$Riddle", name := "findAnswers", desc := "()V" } : Jvm.MethodName)) ∈ ab_T := ab_w1 132 rfl rfl
theorem wd_1_133 : (Jvm.Cond.instanceMethod ({ cls := "RiddlePress$Riddle", name := "findAnswers", desc := "()V" } : Jvm.MethodName)) ∈ ab_T := ab_w1 133 rfl rfl
theorem wd_1_134 : (Jvm.Cond.selects "RiddlePress$Riddle" ({ cls := "RiddlePress$Riddle", name := "findAnswers", desc := "()V" } : Jvm.MethodName) ({ cls := "RiddlePress$Riddle", name := "findAnswers", desc := "()V" } : Jvm.MethodName)) ∈ ab_T := ab_w1 134 rfl rfl
theorem wd_1_135 : (Jvm.Cond.code ({ cls := "RiddlePress$Riddle", name := "findAnswers", desc := "()V" } : Jvm.MethodName) prog_9_method_3_code (4 : Nat) (Option.none : Option Jvm.ClassFile.FieldType)) ∈ ab_T := ab_w1 135 rfl rfl
theorem wd_1_136 : (Jvm.Cond.classLink "RiddlePress$Riddle" (52 : Nat) "RiddlePress$Order") ∈ ab_T := ab_w1 136 rfl rfl
theorem wd_1_137 : (Jvm.Cond.instantiable "RiddlePress$Order" (1 : Nat)) ∈ ab_T := ab_w1 137 rfl rfl
theorem wd_1_138 : (Jvm.Cond.methodLink "RiddlePress$Riddle" (54 : Nat) ({ cls := "RiddlePress$Order", name := "<init>", desc := "(I)V" } : Jvm.MethodName)) ∈ ab_T := ab_w1 138 rfl rfl
theorem wd_1_139 : (Jvm.Cond.instanceMethod ({ cls := "RiddlePress$Order", name := "<init>", desc := "(I)V" } : Jvm.MethodName)) ∈ ab_T := ab_w1 139 rfl rfl
theorem wd_1_140 : (Jvm.Cond.code ({ cls := "RiddlePress$Order", name := "<init>", desc := "(I)V" } : Jvm.MethodName) prog_5_method_1_code (3 : Nat) (Option.none : Option Jvm.ClassFile.FieldType)) ∈ ab_T := ab_w1 140 rfl rfl
theorem wd_1_141 : (Jvm.Cond.methodLink "RiddlePress$Order" (3 : Nat) ({ cls := "java/lang/Object", name := "<init>", desc := "()V" } : Jvm.MethodName)) ∈ ab_T := ab_w1 141 rfl rfl
theorem wd_1_142 : (Jvm.Cond.fieldLink "RiddlePress$Order" (9 : Nat) "RiddlePress$Order" "places" "[I") ∈ ab_T := ab_w1 142 rfl rfl
theorem wd_1_143 : (Jvm.Cond.laysFinal "RiddlePress$Order" "RiddlePress$Order" "places" "[I") ∈ ab_T := ab_w1 143 rfl rfl
theorem wd_1_146 : (Jvm.Cond.arrayClass Jvm.ClassFile.FieldType.int) ∈ ab_T := ab_w1 146 rfl rfl
theorem wd_1_147 : (Jvm.Cond.methodLink "RiddlePress$Riddle" (55 : Nat) ({ cls := "RiddlePress$Riddle", name := "isAnsweredBy", desc := "(LRiddlePress$Order;)Z" } : Jvm.MethodName)) ∈ ab_T := ab_w1 147 rfl rfl
theorem wd_1_149 : (Jvm.Cond.instanceMethod ({ cls := "RiddlePress$Riddle", name := "isAnsweredBy", desc := "(LRiddlePress$Order;)Z" } : Jvm.MethodName)) ∈ ab_T := ab_w1 149 rfl rfl
theorem wd_1_150 : (Jvm.Cond.instantiable "RiddlePress$Riddle" (7 : Nat)) ∈ ab_T := ab_w1 150 rfl rfl
theorem wd_1_151 : (Jvm.Cond.code ({ cls := "RiddlePress$Riddle", name := "isAnsweredBy", desc := "(LRiddlePress$Order;)Z" } : Jvm.MethodName) prog_9_method_4_code (3 : Nat) (Option.some Jvm.ClassFile.FieldType.boolean)) ∈ ab_T := ab_w1 151 rfl rfl
theorem wd_1_153 : (Jvm.Cond.methodLink "RiddlePress$Riddle" (67 : Nat) ({ cls := "java/util/List", name := "size", desc := "()I" } : Jvm.MethodName)) ∈ ab_T := ab_w1 153 rfl rfl
theorem wd_1_155 : (Jvm.Cond.methodLink "RiddlePress$Riddle" (71 : Nat) ({ cls := "java/util/List", name := "get", desc := "(I)Ljava/lang/Object;" } : Jvm.MethodName)) ∈ ab_T := ab_w1 155 rfl rfl
theorem wd_1_156 : (Jvm.Cond.classLink "RiddlePress$Riddle" (75 : Nat) "RiddlePress$Clue") ∈ ab_T := ab_w1 156 rfl rfl
theorem wd_1_157 : (Jvm.Cond.methodLink "RiddlePress$Riddle" (77 : Nat) ({ cls := "RiddlePress$Clue", name := "isFitBy", desc := "(LRiddlePress$Order;)Z" } : Jvm.MethodName)) ∈ ab_T := ab_w1 157 rfl rfl
theorem wd_1_158 : (Jvm.Cond.instanceMethod ({ cls := "RiddlePress$Clue", name := "isFitBy", desc := "(LRiddlePress$Order;)Z" } : Jvm.MethodName)) ∈ ab_T := ab_w1 158 rfl rfl
theorem wd_1_159 : (Jvm.Cond.selects "RiddlePress$Clue" ({ cls := "RiddlePress$Clue", name := "isFitBy", desc := "(LRiddlePress$Order;)Z" } : Jvm.MethodName) ({ cls := "RiddlePress$Clue", name := "isFitBy", desc := "(LRiddlePress$Order;)Z" } : Jvm.MethodName)) ∈ ab_T := ab_w1 159 rfl rfl
theorem wd_1_160 : (Jvm.Cond.code ({ cls := "RiddlePress$Clue", name := "isFitBy", desc := "(LRiddlePress$Order;)Z" } : Jvm.MethodName) prog_2_method_4_code (4 : Nat) (Option.some Jvm.ClassFile.FieldType.boolean)) ∈ ab_T := ab_w1 160 rfl rfl
theorem wd_1_161 : (Jvm.Cond.methodLink "RiddlePress$Clue" (37 : Nat) ({ cls := "RiddlePress$Order", name := "placeOf", desc := "(I)I" } : Jvm.MethodName)) ∈ ab_T := ab_w1 161 rfl rfl
theorem wd_1_162 : (Jvm.Cond.instanceMethod ({ cls := "RiddlePress$Order", name := "placeOf", desc := "(I)I" } : Jvm.MethodName)) ∈ ab_T := ab_w1 162 rfl rfl
theorem wd_1_163 : (Jvm.Cond.selects "RiddlePress$Order" ({ cls := "RiddlePress$Order", name := "placeOf", desc := "(I)I" } : Jvm.MethodName) ({ cls := "RiddlePress$Order", name := "placeOf", desc := "(I)I" } : Jvm.MethodName)) ∈ ab_T := ab_w1 163 rfl rfl
theorem wd_1_164 : (Jvm.Cond.code ({ cls := "RiddlePress$Order", name := "placeOf", desc := "(I)I" } : Jvm.MethodName) prog_5_method_2_code (2 : Nat) (Option.some Jvm.ClassFile.FieldType.int)) ∈ ab_T := ab_w1 164 rfl rfl
theorem wd_1_165 : (Jvm.Cond.methodLink "RiddlePress$Clue" (42 : Nat) ({ cls := "java/lang/Math", name := "abs", desc := "(I)I" } : Jvm.MethodName)) ∈ ab_T := ab_w1 165 rfl rfl
theorem wd_1_166 : (Jvm.Cond.static ({ cls := "java/lang/Math", name := "abs", desc := "(I)I" } : Jvm.MethodName)) ∈ ab_T := ab_w1 166 rfl rfl
theorem wd_1_167 : (Jvm.Cond.code ({ cls := "java/lang/Math", name := "abs", desc := "(I)I" } : Jvm.MethodName) prog_25_method_59_code (1 : Nat) (Option.some Jvm.ClassFile.FieldType.int)) ∈ ab_T := ab_w1 167 rfl rfl
theorem wd_1_168 : (Jvm.Cond.methodLink "RiddlePress$Clue" (47 : Nat) ({ cls := "java/lang/Math", name := "min", desc := "(II)I" } : Jvm.MethodName)) ∈ ab_T := ab_w1 168 rfl rfl
theorem wd_1_169 : (Jvm.Cond.static ({ cls := "java/lang/Math", name := "min", desc := "(II)I" } : Jvm.MethodName)) ∈ ab_T := ab_w1 169 rfl rfl
theorem wd_1_170 : (Jvm.Cond.code ({ cls := "java/lang/Math", name := "min", desc := "(II)I" } : Jvm.MethodName) prog_25_method_69_code (2 : Nat) (Option.some Jvm.ClassFile.FieldType.int)) ∈ ab_T := ab_w1 170 rfl rfl
theorem wd_1_171 : (Jvm.Cond.methodLink "RiddlePress$Clue" (51 : Nat) ({ cls := "java/lang/Math", name := "max", desc := "(II)I" } : Jvm.MethodName)) ∈ ab_T := ab_w1 171 rfl rfl
theorem wd_1_172 : (Jvm.Cond.static ({ cls := "java/lang/Math", name := "max", desc := "(II)I" } : Jvm.MethodName)) ∈ ab_T := ab_w1 172 rfl rfl
theorem wd_1_173 : (Jvm.Cond.code ({ cls := "java/lang/Math", name := "max", desc := "(II)I" } : Jvm.MethodName) prog_25_method_65_code (2 : Nat) (Option.some Jvm.ClassFile.FieldType.int)) ∈ ab_T := ab_w1 173 rfl rfl
theorem wd_1_174 : (Jvm.Cond.methodLink "RiddlePress$Riddle" (59 : Nat) ({ cls := "RiddlePress$Riddle", name := "addAnswer", desc := "(LRiddlePress$Order;)V" } : Jvm.MethodName)) ∈ ab_T := ab_w1 174 rfl rfl
theorem wd_1_176 : (Jvm.Cond.instanceMethod ({ cls := "RiddlePress$Riddle", name := "addAnswer", desc := "(LRiddlePress$Order;)V" } : Jvm.MethodName)) ∈ ab_T := ab_w1 176 rfl rfl
theorem wd_1_177 : (Jvm.Cond.code ({ cls := "RiddlePress$Riddle", name := "addAnswer", desc := "(LRiddlePress$Order;)V" } : Jvm.MethodName) prog_9_method_5_code (3 : Nat) (Option.none : Option Jvm.ClassFile.FieldType)) ∈ ab_T := ab_w1 177 rfl rfl
theorem wd_1_178 : (Jvm.Cond.methodLink "RiddlePress$Riddle" (80 : Nat) ({ cls := "RiddlePress$Order", name := "placeOf", desc := "(I)I" } : Jvm.MethodName)) ∈ ab_T := ab_w1 178 rfl rfl
theorem wd_1_179 : (Jvm.Cond.methodLink "RiddlePress$Riddle" (63 : Nat) ({ cls := "RiddlePress$Order", name := "goOn", desc := "()Z" } : Jvm.MethodName)) ∈ ab_T := ab_w1 179 rfl rfl
theorem wd_1_180 : (Jvm.Cond.instanceMethod ({ cls := "RiddlePress$Order", name := "goOn", desc := "()Z" } : Jvm.MethodName)) ∈ ab_T := ab_w1 180 rfl rfl
theorem wd_1_181 : (Jvm.Cond.selects "RiddlePress$Order" ({ cls := "RiddlePress$Order", name := "goOn", desc := "()Z" } : Jvm.MethodName) ({ cls := "RiddlePress$Order", name := "goOn", desc := "()Z" } : Jvm.MethodName)) ∈ ab_T := ab_w1 181 rfl rfl
theorem wd_1_182 : (Jvm.Cond.code ({ cls := "RiddlePress$Order", name := "goOn", desc := "()Z" } : Jvm.MethodName) prog_5_method_3_code (5 : Nat) (Option.some Jvm.ClassFile.FieldType.boolean)) ∈ ab_T := ab_w1 182 rfl rfl
theorem wd_1_183 : (Jvm.Cond.methodLink "RiddlePress$Order" (15 : Nat) ({ cls := "RiddlePress$Order", name := "exchange", desc := "(II)V" } : Jvm.MethodName)) ∈ ab_T := ab_w1 183 rfl rfl
theorem wd_1_185 : (Jvm.Cond.instanceMethod ({ cls := "RiddlePress$Order", name := "exchange", desc := "(II)V" } : Jvm.MethodName)) ∈ ab_T := ab_w1 185 rfl rfl
theorem wd_1_186 : (Jvm.Cond.code ({ cls := "RiddlePress$Order", name := "exchange", desc := "(II)V" } : Jvm.MethodName) prog_5_method_4_code (4 : Nat) (Option.none : Option Jvm.ClassFile.FieldType)) ∈ ab_T := ab_w1 186 rfl rfl
theorem wd_1_196 : (Jvm.Cond.classLink "RiddlePress" (29 : Nat) "java/lang/IllegalArgumentException") ∈ ab_T := ab_w1 196 rfl rfl
theorem wd_2_2 : (Jvm.Cond.methodLink "RiddlePress" (33 : Nat) ({ cls := "java/lang/IllegalArgumentException", name := "<init>", desc := "(Ljava/lang/String;)V" } : Jvm.MethodName)) ∈ ab_T := ab_w2 2 rfl rfl
theorem wd_2_28 : (Jvm.Cond.classLink "RiddlePress" (42 : Nat) "java/lang/IllegalStateException") ∈ ab_T := ab_w2 28 rfl rfl
theorem wd_2_38 : (Jvm.Cond.methodLink "RiddlePress" (46 : Nat) ({ cls := "java/lang/IllegalStateException", name := "<init>", desc := "(Ljava/lang/String;)V" } : Jvm.MethodName)) ∈ ab_T := ab_w2 38 rfl rfl
theorem wd_2_44 : (Jvm.Cond.methodLink "RiddlePress" (49 : Nat) ({ cls := "RiddlePress$Riddle", name := "<init>", desc := "(I)V" } : Jvm.MethodName)) ∈ ab_T := ab_w2 44 rfl rfl
theorem wd_2_45 : (Jvm.Cond.instanceMethod ({ cls := "RiddlePress$Riddle", name := "<init>", desc := "(I)V" } : Jvm.MethodName)) ∈ ab_T := ab_w2 45 rfl rfl
theorem wd_2_46 : (Jvm.Cond.code ({ cls := "RiddlePress$Riddle", name := "<init>", desc := "(I)V" } : Jvm.MethodName) prog_9_method_1_code (2 : Nat) (Option.none : Option Jvm.ClassFile.FieldType)) ∈ ab_T := ab_w2 46 rfl rfl
theorem wd_2_47 : (Jvm.Cond.methodLink "RiddlePress$Riddle" (3 : Nat) ({ cls := "java/lang/Object", name := "<init>", desc := "()V" } : Jvm.MethodName)) ∈ ab_T := ab_w2 47 rfl rfl
theorem wd_2_48 : (Jvm.Cond.classLink "RiddlePress$Riddle" (15 : Nat) "java/util/ArrayList") ∈ ab_T := ab_w2 48 rfl rfl
theorem wd_2_49 : (Jvm.Cond.methodLink "RiddlePress$Riddle" (17 : Nat) ({ cls := "java/util/ArrayList", name := "<init>", desc := "()V" } : Jvm.MethodName)) ∈ ab_T := ab_w2 49 rfl rfl
theorem wd_2_50 : (Jvm.Cond.classLink "RiddlePress$Riddle" (22 : Nat) "RiddlePress$Proof") ∈ ab_T := ab_w2 50 rfl rfl
theorem wd_2_51 : (Jvm.Cond.instantiable "RiddlePress$Proof" (7 : Nat)) ∈ ab_T := ab_w2 51 rfl rfl
theorem wd_2_52 : (Jvm.Cond.methodLink "RiddlePress$Riddle" (24 : Nat) ({ cls := "RiddlePress$Proof", name := "<init>", desc := "(I)V" } : Jvm.MethodName)) ∈ ab_T := ab_w2 52 rfl rfl
theorem wd_2_53 : (Jvm.Cond.instanceMethod ({ cls := "RiddlePress$Proof", name := "<init>", desc := "(I)V" } : Jvm.MethodName)) ∈ ab_T := ab_w2 53 rfl rfl
theorem wd_2_54 : (Jvm.Cond.code ({ cls := "RiddlePress$Proof", name := "<init>", desc := "(I)V" } : Jvm.MethodName) prog_8_method_1_code (2 : Nat) (Option.none : Option Jvm.ClassFile.FieldType)) ∈ ab_T := ab_w2 54 rfl rfl
theorem wd_2_55 : (Jvm.Cond.methodLink "RiddlePress$Proof" (3 : Nat) ({ cls := "java/lang/Object", name := "<init>", desc := "()V" } : Jvm.MethodName)) ∈ ab_T := ab_w2 55 rfl rfl
theorem wd_2_56 : (Jvm.Cond.classLink "RiddlePress$Proof" (21 : Nat) "RiddlePress$Places") ∈ ab_T := ab_w2 56 rfl rfl
theorem wd_2_57 : (Jvm.Cond.instantiable "RiddlePress$Places" (1 : Nat)) ∈ ab_T := ab_w2 57 rfl rfl
theorem wd_2_58 : (Jvm.Cond.methodLink "RiddlePress$Proof" (23 : Nat) ({ cls := "RiddlePress$Places", name := "<init>", desc := "(I)V" } : Jvm.MethodName)) ∈ ab_T := ab_w2 58 rfl rfl
theorem wd_2_59 : (Jvm.Cond.instanceMethod ({ cls := "RiddlePress$Places", name := "<init>", desc := "(I)V" } : Jvm.MethodName)) ∈ ab_T := ab_w2 59 rfl rfl
theorem wd_2_60 : (Jvm.Cond.code ({ cls := "RiddlePress$Places", name := "<init>", desc := "(I)V" } : Jvm.MethodName) prog_7_method_1_code (2 : Nat) (Option.none : Option Jvm.ClassFile.FieldType)) ∈ ab_T := ab_w2 60 rfl rfl
theorem wd_2_61 : (Jvm.Cond.methodLink "RiddlePress$Places" (3 : Nat) ({ cls := "java/lang/Object", name := "<init>", desc := "()V" } : Jvm.MethodName)) ∈ ab_T := ab_w2 61 rfl rfl
theorem wd_2_62 : (Jvm.Cond.fieldLink "RiddlePress$Places" (9 : Nat) "RiddlePress$Places" "sets" "[I") ∈ ab_T := ab_w2 62 rfl rfl
theorem wd_2_63 : (Jvm.Cond.laysFinal "RiddlePress$Places" "RiddlePress$Places" "sets" "[I") ∈ ab_T := ab_w2 63 rfl rfl
theorem wd_2_66 : (Jvm.Cond.fieldLink "RiddlePress$Proof" (9 : Nat) "RiddlePress$Proof" "ruleOf" "[I") ∈ ab_T := ab_w2 66 rfl rfl
theorem wd_2_67 : (Jvm.Cond.fieldLink "RiddlePress" (138 : Nat) "RiddlePress$Proof" "ruleOf" "[I") ∈ ab_T := ab_w2 67 rfl rfl
theorem wd_2_68 : (Jvm.Cond.fieldLink "RiddlePress$Proof" (15 : Nat) "RiddlePress$Proof" "causeOf" "[I") ∈ ab_T := ab_w2 68 rfl rfl
theorem wd_2_69 : (Jvm.Cond.fieldLink "RiddlePress" (141 : Nat) "RiddlePress$Proof" "causeOf" "[I") ∈ ab_T := ab_w2 69 rfl rfl
theorem wd_2_70 : (Jvm.Cond.fieldLink "RiddlePress$Proof" (18 : Nat) "RiddlePress$Proof" "takenBy" "[I") ∈ ab_T := ab_w2 70 rfl rfl
theorem wd_2_71 : (Jvm.Cond.fieldLink "RiddlePress" (144 : Nat) "RiddlePress$Proof" "takenBy" "[I") ∈ ab_T := ab_w2 71 rfl rfl
theorem wd_2_72 : (Jvm.Cond.fieldLink "RiddlePress$Proof" (30 : Nat) "RiddlePress$Proof" "stepCount" "I") ∈ ab_T := ab_w2 72 rfl rfl
theorem wd_2_73 : (Jvm.Cond.fieldLink "RiddlePress" (130 : Nat) "RiddlePress$Proof" "stepCount" "I") ∈ ab_T := ab_w2 73 rfl rfl
theorem wd_2_74 : (Jvm.Cond.fieldLink "RiddlePress$Proof" (34 : Nat) "RiddlePress$Proof" "outcome" "C") ∈ ab_T := ab_w2 74 rfl rfl
theorem wd_2_75 : (Jvm.Cond.fieldLink "RiddlePress" (79 : Nat) "RiddlePress$Proof" "outcome" "C") ∈ ab_T := ab_w2 75 rfl rfl
theorem wd_2_76 : (Jvm.Cond.fieldLink "RiddlePress$Proof" (26 : Nat) "RiddlePress$Proof" "places" "LRiddlePress$Places;") ∈ ab_T := ab_w2 76 rfl rfl
theorem wd_2_77 : (Jvm.Cond.fieldLink "RiddlePress$Proof" (38 : Nat) "RiddlePress$Proof" "rulesUsed" "I") ∈ ab_T := ab_w2 77 rfl rfl
theorem wd_2_78 : (Jvm.Cond.laysFinal "RiddlePress$Proof" "RiddlePress$Proof" "ruleOf" "[I") ∈ ab_T := ab_w2 78 rfl rfl
theorem wd_2_80 : (Jvm.Cond.laysFinal "RiddlePress$Proof" "RiddlePress$Proof" "causeOf" "[I") ∈ ab_T := ab_w2 80 rfl rfl
theorem wd_2_82 : (Jvm.Cond.laysFinal "RiddlePress$Proof" "RiddlePress$Proof" "takenBy" "[I") ∈ ab_T := ab_w2 82 rfl rfl
theorem wd_2_84 : (Jvm.Cond.lays "RiddlePress$Proof" "RiddlePress$Proof" "stepCount" "I") ∈ ab_T := ab_w2 84 rfl rfl
theorem wd_2_86 : (Jvm.Cond.lays "RiddlePress$Proof" "RiddlePress$Proof" "outcome" "C") ∈ ab_T := ab_w2 86 rfl rfl
theorem wd_2_88 : (Jvm.Cond.laysFinal "RiddlePress$Proof" "RiddlePress$Proof" "places" "LRiddlePress$Places;") ∈ ab_T := ab_w2 88 rfl rfl
theorem wd_2_90 : (Jvm.Cond.lays "RiddlePress$Proof" "RiddlePress$Proof" "rulesUsed" "I") ∈ ab_T := ab_w2 90 rfl rfl
theorem wd_2_93 : (Jvm.Cond.fieldLink "RiddlePress$Riddle" (9 : Nat) "RiddlePress$Riddle" "persons" "I") ∈ ab_T := ab_w2 93 rfl rfl
theorem wd_2_94 : (Jvm.Cond.fieldLink "RiddlePress" (65 : Nat) "RiddlePress$Riddle" "persons" "I") ∈ ab_T := ab_w2 94 rfl rfl
theorem wd_2_95 : (Jvm.Cond.fieldLink "RiddlePress$Riddle" (18 : Nat) "RiddlePress$Riddle" "clues" "Ljava/util/List;") ∈ ab_T := ab_w2 95 rfl rfl
theorem wd_2_96 : (Jvm.Cond.fieldLink "RiddlePress" (90 : Nat) "RiddlePress$Riddle" "clues" "Ljava/util/List;") ∈ ab_T := ab_w2 96 rfl rfl
theorem wd_2_97 : (Jvm.Cond.fieldLink "RiddlePress$Riddle" (27 : Nat) "RiddlePress$Riddle" "proof" "LRiddlePress$Proof;") ∈ ab_T := ab_w2 97 rfl rfl
theorem wd_2_98 : (Jvm.Cond.fieldLink "RiddlePress" (75 : Nat) "RiddlePress$Riddle" "proof" "LRiddlePress$Proof;") ∈ ab_T := ab_w2 98 rfl rfl
theorem wd_2_99 : (Jvm.Cond.fieldLink "RiddlePress$Riddle" (31 : Nat) "RiddlePress$Riddle" "firstAnswer" "[I") ∈ ab_T := ab_w2 99 rfl rfl
theorem wd_2_100 : (Jvm.Cond.fieldLink "RiddlePress" (105 : Nat) "RiddlePress$Riddle" "firstAnswer" "[I") ∈ ab_T := ab_w2 100 rfl rfl
theorem wd_2_101 : (Jvm.Cond.fieldLink "RiddlePress$Riddle" (35 : Nat) "RiddlePress$Riddle" "answerCount" "I") ∈ ab_T := ab_w2 101 rfl rfl
theorem wd_2_102 : (Jvm.Cond.fieldLink "RiddlePress" (102 : Nat) "RiddlePress$Riddle" "answerCount" "I") ∈ ab_T := ab_w2 102 rfl rfl
theorem wd_2_103 : (Jvm.Cond.fieldLink "RiddlePress$Riddle" (38 : Nat) "RiddlePress$Riddle" "state" "C") ∈ ab_T := ab_w2 103 rfl rfl
theorem wd_2_104 : (Jvm.Cond.fieldLink "RiddlePress" (119 : Nat) "RiddlePress$Riddle" "state" "C") ∈ ab_T := ab_w2 104 rfl rfl
theorem wd_2_105 : (Jvm.Cond.fieldLink "RiddlePress$Riddle" (42 : Nat) "RiddlePress$Riddle" "issue" "LRiddlePress$Issue;") ∈ ab_T := ab_w2 105 rfl rfl
theorem wd_2_106 : (Jvm.Cond.fieldLink "RiddlePress" (236 : Nat) "RiddlePress$Riddle" "issue" "LRiddlePress$Issue;") ∈ ab_T := ab_w2 106 rfl rfl
theorem wd_2_107 : (Jvm.Cond.laysFinal "RiddlePress$Riddle" "RiddlePress$Riddle" "persons" "I") ∈ ab_T := ab_w2 107 rfl rfl
theorem wd_2_109 : (Jvm.Cond.laysFinal "RiddlePress$Riddle" "RiddlePress$Riddle" "clues" "Ljava/util/List;") ∈ ab_T := ab_w2 109 rfl rfl
theorem wd_2_111 : (Jvm.Cond.laysFinal "RiddlePress$Riddle" "RiddlePress$Riddle" "proof" "LRiddlePress$Proof;") ∈ ab_T := ab_w2 111 rfl rfl
theorem wd_2_113 : (Jvm.Cond.laysFinal "RiddlePress$Riddle" "RiddlePress$Riddle" "firstAnswer" "[I") ∈ ab_T := ab_w2 113 rfl rfl
theorem wd_2_115 : (Jvm.Cond.lays "RiddlePress$Riddle" "RiddlePress$Riddle" "answerCount" "I") ∈ ab_T := ab_w2 115 rfl rfl
theorem wd_2_117 : (Jvm.Cond.lays "RiddlePress$Riddle" "RiddlePress$Riddle" "state" "C") ∈ ab_T := ab_w2 117 rfl rfl
theorem wd_2_119 : (Jvm.Cond.lays "RiddlePress$Riddle" "RiddlePress$Riddle" "issue" "LRiddlePress$Issue;") ∈ ab_T := ab_w2 119 rfl rfl
theorem wd_2_123 : (Jvm.Cond.methodLink "RiddlePress" (52 : Nat) ({ cls := "java/util/List", name := "add", desc := "(Ljava/lang/Object;)Z" } : Jvm.MethodName)) ∈ ab_T := ab_w2 123 rfl rfl
theorem wd_2_126 : (Jvm.Cond.selects "java/util/ArrayList" ({ cls := "java/util/List", name := "add", desc := "(Ljava/lang/Object;)Z" } : Jvm.MethodName) ({ cls := "java/util/ArrayList", name := "add", desc := "(Ljava/lang/Object;)Z" } : Jvm.MethodName)) ∈ ab_T := ab_w2 126 rfl rfl
theorem wd_2_128 : (Jvm.Cond.instanceMethod ({ cls := "java/util/ArrayList", name := "add", desc := "(Ljava/lang/Object;)Z" } : Jvm.MethodName)) ∈ ab_T := ab_w2 128 rfl rfl
theorem wd_2_130 : (Jvm.Cond.code ({ cls := "java/util/ArrayList", name := "add", desc := "(Ljava/lang/Object;)Z" } : Jvm.MethodName) prog_37_method_25_code (2 : Nat) (Option.some Jvm.ClassFile.FieldType.boolean)) ∈ ab_T := ab_w2 130 rfl rfl
theorem wd_2_131 : (Jvm.Cond.methodLink "java/util/ArrayList" (131 : Nat) ({ cls := "java/util/ArrayList", name := "add", desc := "(Ljava/lang/Object;[Ljava/lang/Object;I)V" } : Jvm.MethodName)) ∈ ab_T := ab_w2 131 rfl rfl
theorem wd_2_133 : (Jvm.Cond.instanceMethod ({ cls := "java/util/ArrayList", name := "add", desc := "(Ljava/lang/Object;[Ljava/lang/Object;I)V" } : Jvm.MethodName)) ∈ ab_T := ab_w2 133 rfl rfl
theorem wd_2_134 : (Jvm.Cond.code ({ cls := "java/util/ArrayList", name := "add", desc := "(Ljava/lang/Object;[Ljava/lang/Object;I)V" } : Jvm.MethodName) prog_37_method_24_code (4 : Nat) (Option.none : Option Jvm.ClassFile.FieldType)) ∈ ab_T := ab_w2 134 rfl rfl
theorem wd_2_135 : (Jvm.Cond.methodLink "java/util/ArrayList" (129 : Nat) ({ cls := "java/util/ArrayList", name := "grow", desc := "()[Ljava/lang/Object;" } : Jvm.MethodName)) ∈ ab_T := ab_w2 135 rfl rfl
theorem wd_2_137 : (Jvm.Cond.instanceMethod ({ cls := "java/util/ArrayList", name := "grow", desc := "()[Ljava/lang/Object;" } : Jvm.MethodName)) ∈ ab_T := ab_w2 137 rfl rfl
theorem wd_2_138 : (Jvm.Cond.code ({ cls := "java/util/ArrayList", name := "grow", desc := "()[Ljava/lang/Object;" } : Jvm.MethodName) prog_37_method_7_code (1 : Nat) (Option.some (Jvm.ClassFile.FieldType.array (Jvm.ClassFile.FieldType.object "java/lang/Object")))) ∈ ab_T := ab_w2 138 rfl rfl
theorem wd_2_139 : (Jvm.Cond.methodLink "java/util/ArrayList" (69 : Nat) ({ cls := "java/util/ArrayList", name := "grow", desc := "(I)[Ljava/lang/Object;" } : Jvm.MethodName)) ∈ ab_T := ab_w2 139 rfl rfl
theorem wd_2_141 : (Jvm.Cond.instanceMethod ({ cls := "java/util/ArrayList", name := "grow", desc := "(I)[Ljava/lang/Object;" } : Jvm.MethodName)) ∈ ab_T := ab_w2 141 rfl rfl
theorem wd_2_142 : (Jvm.Cond.code ({ cls := "java/util/ArrayList", name := "grow", desc := "(I)[Ljava/lang/Object;" } : Jvm.MethodName) prog_37_method_6_code (4 : Nat) (Option.some (Jvm.ClassFile.FieldType.array (Jvm.ClassFile.FieldType.object "java/lang/Object")))) ∈ ab_T := ab_w2 142 rfl rfl
theorem wd_2_143 : (Jvm.Cond.methodLink "java/util/ArrayList" (73 : Nat) ({ cls := "jdk/internal/util/ArraysSupport", name := "newLength", desc := "(III)I" } : Jvm.MethodName)) ∈ ab_T := ab_w2 143 rfl rfl
theorem wd_2_144 : (Jvm.Cond.static ({ cls := "jdk/internal/util/ArraysSupport", name := "newLength", desc := "(III)I" } : Jvm.MethodName)) ∈ ab_T := ab_w2 144 rfl rfl
theorem wd_2_145 : (Jvm.Cond.code ({ cls := "jdk/internal/util/ArraysSupport", name := "newLength", desc := "(III)I" } : Jvm.MethodName) prog_45_method_27_code (4 : Nat) (Option.some Jvm.ClassFile.FieldType.int)) ∈ ab_T := ab_w2 145 rfl rfl
theorem wd_2_146 : (Jvm.Cond.methodLink "jdk/internal/util/ArraysSupport" (194 : Nat) ({ cls := "java/lang/Math", name := "max", desc := "(II)I" } : Jvm.MethodName)) ∈ ab_T := ab_w2 146 rfl rfl
theorem wd_2_147 : (Jvm.Cond.constant "jdk/internal/util/ArraysSupport" (200 : Nat) (2147483639 : Int32)) ∈ ab_T := ab_w2 147 rfl rfl
theorem wd_2_151 : (Jvm.Cond.methodLink "java/util/ArrayList" (66 : Nat) ({ cls := "java/util/Arrays", name := "copyOf", desc := "([Ljava/lang/Object;I)[Ljava/lang/Object;" } : Jvm.MethodName)) ∈ ab_T := ab_w2 151 rfl rfl
theorem wd_2_152 : (Jvm.Cond.static ({ cls := "java/util/Arrays", name := "copyOf", desc := "([Ljava/lang/Object;I)[Ljava/lang/Object;" } : Jvm.MethodName)) ∈ ab_T := ab_w2 152 rfl rfl
theorem wd_2_153 : (Jvm.Cond.code ({ cls := "java/util/Arrays", name := "copyOf", desc := "([Ljava/lang/Object;I)[Ljava/lang/Object;" } : Jvm.MethodName) prog_38_method_119_code (2 : Nat) (Option.some (Jvm.ClassFile.FieldType.array (Jvm.ClassFile.FieldType.object "java/lang/Object")))) ∈ ab_T := ab_w2 153 rfl rfl
theorem wd_2_154 : (Jvm.Cond.methodLink "java/util/Arrays" (86 : Nat) ({ cls := "java/lang/Object", name := "getClass", desc := "()Ljava/lang/Class;" } : Jvm.MethodName)) ∈ ab_T := ab_w2 154 rfl rfl
theorem wd_2_155 : (Jvm.Cond.instanceMethod ({ cls := "java/lang/Object", name := "getClass", desc := "()Ljava/lang/Class;" } : Jvm.MethodName)) ∈ ab_T := ab_w2 155 rfl rfl
theorem wd_2_175 : (Jvm.Cond.native ({ cls := "java/lang/Object", name := "getClass", desc := "()Ljava/lang/Class;" } : Jvm.MethodName)) ∈ ab_T := ab_w2 175 rfl rfl
theorem wd_2_176 : (Jvm.Cond.methodLink "java/util/Arrays" (300 : Nat) ({ cls := "java/util/Arrays", name := "copyOf", desc := "([Ljava/lang/Object;ILjava/lang/Class;)[Ljava/lang/Object;" } : Jvm.MethodName)) ∈ ab_T := ab_w2 176 rfl rfl
theorem wd_2_177 : (Jvm.Cond.static ({ cls := "java/util/Arrays", name := "copyOf", desc := "([Ljava/lang/Object;ILjava/lang/Class;)[Ljava/lang/Object;" } : Jvm.MethodName)) ∈ ab_T := ab_w2 177 rfl rfl
theorem wd_2_178 : (Jvm.Cond.code ({ cls := "java/util/Arrays", name := "copyOf", desc := "([Ljava/lang/Object;ILjava/lang/Class;)[Ljava/lang/Object;" } : Jvm.MethodName) prog_38_method_120_code (4 : Nat) (Option.some (Jvm.ClassFile.FieldType.array (Jvm.ClassFile.FieldType.object "java/lang/Object")))) ∈ ab_T := ab_w2 178 rfl rfl
theorem wd_2_179 : (Jvm.Cond.classLink "java/util/Arrays" (110 : Nat) "[Ljava/lang/Object;") ∈ ab_T := ab_w2 179 rfl rfl
theorem wd_2_181 : (Jvm.Cond.classLink "java/util/Arrays" (2 : Nat) "java/lang/Object") ∈ ab_T := ab_w2 181 rfl rfl
theorem wd_2_182 : (Jvm.Cond.methodLink "java/util/Arrays" (304 : Nat) ({ cls := "java/lang/Math", name := "min", desc := "(II)I" } : Jvm.MethodName)) ∈ ab_T := ab_w2 182 rfl rfl
theorem wd_2_183 : (Jvm.Cond.methodLink "java/util/Arrays" (150 : Nat) ({ cls := "java/lang/System", name := "arraycopy", desc := "(Ljava/lang/Object;ILjava/lang/Object;II)V" } : Jvm.MethodName)) ∈ ab_T := ab_w2 183 rfl rfl
theorem wd_2_184 : (Jvm.Cond.static ({ cls := "java/lang/System", name := "arraycopy", desc := "(Ljava/lang/Object;ILjava/lang/Object;II)V" } : Jvm.MethodName)) ∈ ab_T := ab_w2 184 rfl rfl
theorem wd_2_185 : (Jvm.Cond.native ({ cls := "java/lang/System", name := "arraycopy", desc := "(Ljava/lang/Object;ILjava/lang/Object;II)V" } : Jvm.MethodName)) ∈ ab_T := ab_w2 185 rfl rfl
theorem wd_2_186 : (Jvm.Cond.methodLink "java/util/ArrayList" (79 : Nat) ({ cls := "java/lang/Math", name := "max", desc := "(II)I" } : Jvm.MethodName)) ∈ ab_T := ab_w2 186 rfl rfl
theorem wd_2_187 : (Jvm.Cond.classLink "java/util/ArrayList" (7 : Nat) "java/lang/Object") ∈ ab_T := ab_w2 187 rfl rfl
theorem wd_2_220 : (Jvm.Cond.methodLink "RiddlePress" (56 : Nat) ({ cls := "RiddlePress", name := "findRiddle", desc := "(I)LRiddlePress$Riddle;" } : Jvm.MethodName)) ∈ ab_T := ab_w2 220 rfl rfl
theorem wd_2_222 : (Jvm.Cond.instanceMethod ({ cls := "RiddlePress", name := "findRiddle", desc := "(I)LRiddlePress$Riddle;" } : Jvm.MethodName)) ∈ ab_T := ab_w2 222 rfl rfl
theorem wd_2_223 : (Jvm.Cond.code ({ cls := "RiddlePress", name := "findRiddle", desc := "(I)LRiddlePress$Riddle;" } : Jvm.MethodName) prog_1_method_32_code (2 : Nat) (Option.some (Jvm.ClassFile.FieldType.object "RiddlePress$Riddle"))) ∈ ab_T := ab_w2 223 rfl rfl
theorem wd_2_224 : (Jvm.Cond.classLink "RiddlePress" (109 : Nat) "java/lang/IndexOutOfBoundsException") ∈ ab_T := ab_w2 224 rfl rfl
theorem wd_2_234 : (Jvm.Cond.methodLink "RiddlePress" (113 : Nat) ({ cls := "java/lang/IndexOutOfBoundsException", name := "<init>", desc := "(Ljava/lang/String;)V" } : Jvm.MethodName)) ∈ ab_T := ab_w2 234 rfl rfl
theorem wd_2_237 : (Jvm.Cond.classLink "RiddlePress" (60 : Nat) "RiddlePress$Clue") ∈ ab_T := ab_w2 237 rfl rfl
theorem wd_2_238 : (Jvm.Cond.instantiable "RiddlePress$Clue" (4 : Nat)) ∈ ab_T := ab_w2 238 rfl rfl
theorem wd_2_239 : (Jvm.Cond.methodLink "RiddlePress" (62 : Nat) ({ cls := "RiddlePress$Clue", name := "<init>", desc := "(CIII)V" } : Jvm.MethodName)) ∈ ab_T := ab_w2 239 rfl rfl
theorem wd_3_0 : (Jvm.Cond.instanceMethod ({ cls := "RiddlePress$Clue", name := "<init>", desc := "(CIII)V" } : Jvm.MethodName)) ∈ ab_T := ab_w3 0 rfl rfl
theorem wd_3_1 : (Jvm.Cond.code ({ cls := "RiddlePress$Clue", name := "<init>", desc := "(CIII)V" } : Jvm.MethodName) prog_2_method_1_code (5 : Nat) (Option.none : Option Jvm.ClassFile.FieldType)) ∈ ab_T := ab_w3 1 rfl rfl
theorem wd_3_2 : (Jvm.Cond.methodLink "RiddlePress$Clue" (3 : Nat) ({ cls := "java/lang/Object", name := "<init>", desc := "()V" } : Jvm.MethodName)) ∈ ab_T := ab_w3 2 rfl rfl
theorem wd_3_3 : (Jvm.Cond.fieldLink "RiddlePress$Clue" (9 : Nat) "RiddlePress$Clue" "kind" "C") ∈ ab_T := ab_w3 3 rfl rfl
theorem wd_3_4 : (Jvm.Cond.fieldLink "RiddlePress$Places" (21 : Nat) "RiddlePress$Clue" "kind" "C") ∈ ab_T := ab_w3 4 rfl rfl
theorem wd_3_5 : (Jvm.Cond.fieldLink "RiddlePress$Clue" (15 : Nat) "RiddlePress$Clue" "a" "I") ∈ ab_T := ab_w3 5 rfl rfl
theorem wd_3_6 : (Jvm.Cond.fieldLink "RiddlePress$OwnRule" (32 : Nat) "RiddlePress$Clue" "a" "I") ∈ ab_T := ab_w3 6 rfl rfl
theorem wd_3_7 : (Jvm.Cond.fieldLink "RiddlePress$Places" (27 : Nat) "RiddlePress$Clue" "a" "I") ∈ ab_T := ab_w3 7 rfl rfl
theorem wd_3_8 : (Jvm.Cond.fieldLink "RiddlePress$Clue" (19 : Nat) "RiddlePress$Clue" "b" "I") ∈ ab_T := ab_w3 8 rfl rfl
theorem wd_3_9 : (Jvm.Cond.fieldLink "RiddlePress$OwnRule" (37 : Nat) "RiddlePress$Clue" "b" "I") ∈ ab_T := ab_w3 9 rfl rfl
theorem wd_3_10 : (Jvm.Cond.fieldLink "RiddlePress$Places" (31 : Nat) "RiddlePress$Clue" "b" "I") ∈ ab_T := ab_w3 10 rfl rfl
theorem wd_3_11 : (Jvm.Cond.fieldLink "RiddlePress$Clue" (22 : Nat) "RiddlePress$Clue" "c" "I") ∈ ab_T := ab_w3 11 rfl rfl
theorem wd_3_12 : (Jvm.Cond.fieldLink "RiddlePress$OwnRule" (40 : Nat) "RiddlePress$Clue" "c" "I") ∈ ab_T := ab_w3 12 rfl rfl
theorem wd_3_13 : (Jvm.Cond.fieldLink "RiddlePress$Places" (48 : Nat) "RiddlePress$Clue" "c" "I") ∈ ab_T := ab_w3 13 rfl rfl
theorem wd_3_14 : (Jvm.Cond.laysFinal "RiddlePress$Clue" "RiddlePress$Clue" "kind" "C") ∈ ab_T := ab_w3 14 rfl rfl
theorem wd_3_16 : (Jvm.Cond.laysFinal "RiddlePress$Clue" "RiddlePress$Clue" "a" "I") ∈ ab_T := ab_w3 16 rfl rfl
theorem wd_3_18 : (Jvm.Cond.laysFinal "RiddlePress$Clue" "RiddlePress$Clue" "b" "I") ∈ ab_T := ab_w3 18 rfl rfl
theorem wd_3_20 : (Jvm.Cond.laysFinal "RiddlePress$Clue" "RiddlePress$Clue" "c" "I") ∈ ab_T := ab_w3 20 rfl rfl
theorem wd_3_23 : (Jvm.Cond.methodLink "RiddlePress" (69 : Nat) ({ cls := "RiddlePress$Clue", name := "isFor", desc := "(I)Z" } : Jvm.MethodName)) ∈ ab_T := ab_w3 23 rfl rfl
theorem wd_3_24 : (Jvm.Cond.instanceMethod ({ cls := "RiddlePress$Clue", name := "isFor", desc := "(I)Z" } : Jvm.MethodName)) ∈ ab_T := ab_w3 24 rfl rfl
theorem wd_3_25 : (Jvm.Cond.selects "RiddlePress$Clue" ({ cls := "RiddlePress$Clue", name := "isFor", desc := "(I)Z" } : Jvm.MethodName) ({ cls := "RiddlePress$Clue", name := "isFor", desc := "(I)Z" } : Jvm.MethodName)) ∈ ab_T := ab_w3 25 rfl rfl
theorem wd_3_26 : (Jvm.Cond.code ({ cls := "RiddlePress$Clue", name := "isFor", desc := "(I)Z" } : Jvm.MethodName) prog_2_method_3_code (2 : Nat) (Option.some Jvm.ClassFile.FieldType.boolean)) ∈ ab_T := ab_w3 26 rfl rfl
theorem wd_3_27 : (Jvm.Cond.methodLink "RiddlePress$Clue" (33 : Nat) ({ cls := "RiddlePress$Clue", name := "ruleNumber", desc := "()I" } : Jvm.MethodName)) ∈ ab_T := ab_w3 27 rfl rfl
theorem wd_3_28 : (Jvm.Cond.instanceMethod ({ cls := "RiddlePress$Clue", name := "ruleNumber", desc := "()I" } : Jvm.MethodName)) ∈ ab_T := ab_w3 28 rfl rfl
theorem wd_3_29 : (Jvm.Cond.selects "RiddlePress$Clue" ({ cls := "RiddlePress$Clue", name := "ruleNumber", desc := "()I" } : Jvm.MethodName) ({ cls := "RiddlePress$Clue", name := "ruleNumber", desc := "()I" } : Jvm.MethodName)) ∈ ab_T := ab_w3 29 rfl rfl
theorem wd_3_30 : (Jvm.Cond.code ({ cls := "RiddlePress$Clue", name := "ruleNumber", desc := "()I" } : Jvm.MethodName) prog_2_method_2_code (1 : Nat) (Option.some Jvm.ClassFile.FieldType.int)) ∈ ab_T := ab_w3 30 rfl rfl
theorem wd_3_32 : (Jvm.Cond.methodLink "RiddlePress$Clue" (27 : Nat) ({ cls := "java/lang/String", name := "indexOf", desc := "(I)I" } : Jvm.MethodName)) ∈ ab_T := ab_w3 32 rfl rfl
theorem wd_3_33 : (Jvm.Cond.instanceMethod ({ cls := "java/lang/String", name := "indexOf", desc := "(I)I" } : Jvm.MethodName)) ∈ ab_T := ab_w3 33 rfl rfl
theorem wd_3_34 : (Jvm.Cond.selects "java/lang/String" ({ cls := "java/lang/String", name := "indexOf", desc := "(I)I" } : Jvm.MethodName) ({ cls := "java/lang/String", name := "indexOf", desc := "(I)I" } : Jvm.MethodName)) ∈ ab_T := ab_w3 34 rfl rfl
theorem wd_3_35 : (Jvm.Cond.code ({ cls := "java/lang/String", name := "indexOf", desc := "(I)I" } : Jvm.MethodName) prog_27_method_79_code (2 : Nat) (Option.some Jvm.ClassFile.FieldType.int)) ∈ ab_T := ab_w3 35 rfl rfl
theorem wd_3_36 : (Jvm.Cond.methodLink "java/lang/String" (633 : Nat) ({ cls := "java/lang/String", name := "indexOf", desc := "(II)I" } : Jvm.MethodName)) ∈ ab_T := ab_w3 36 rfl rfl
theorem wd_3_37 : (Jvm.Cond.instanceMethod ({ cls := "java/lang/String", name := "indexOf", desc := "(II)I" } : Jvm.MethodName)) ∈ ab_T := ab_w3 37 rfl rfl
theorem wd_3_38 : (Jvm.Cond.selects "java/lang/String" ({ cls := "java/lang/String", name := "indexOf", desc := "(II)I" } : Jvm.MethodName) ({ cls := "java/lang/String", name := "indexOf", desc := "(II)I" } : Jvm.MethodName)) ∈ ab_T := ab_w3 38 rfl rfl
theorem wd_3_39 : (Jvm.Cond.code ({ cls := "java/lang/String", name := "indexOf", desc := "(II)I" } : Jvm.MethodName) prog_27_method_80_code (3 : Nat) (Option.some Jvm.ClassFile.FieldType.int)) ∈ ab_T := ab_w3 39 rfl rfl
theorem wd_3_40 : (Jvm.Cond.methodLink "java/lang/String" (492 : Nat) ({ cls := "java/lang/String", name := "isLatin1", desc := "()Z" } : Jvm.MethodName)) ∈ ab_T := ab_w3 40 rfl rfl
theorem wd_3_41 : (Jvm.Cond.instanceMethod ({ cls := "java/lang/String", name := "isLatin1", desc := "()Z" } : Jvm.MethodName)) ∈ ab_T := ab_w3 41 rfl rfl
theorem wd_3_42 : (Jvm.Cond.selects "java/lang/String" ({ cls := "java/lang/String", name := "isLatin1", desc := "()Z" } : Jvm.MethodName) ({ cls := "java/lang/String", name := "isLatin1", desc := "()Z" } : Jvm.MethodName)) ∈ ab_T := ab_w3 42 rfl rfl
theorem wd_3_43 : (Jvm.Cond.code ({ cls := "java/lang/String", name := "isLatin1", desc := "()Z" } : Jvm.MethodName) prog_27_method_154_code (1 : Nat) (Option.some Jvm.ClassFile.FieldType.boolean)) ∈ ab_T := ab_w3 43 rfl rfl
theorem wd_3_44 : (Jvm.Cond.fieldLink "java/lang/String" (38 : Nat) "java/lang/String" "COMPACT_STRINGS" "Z") ∈ ab_T := ab_w3 44 rfl rfl
theorem wd_3_46 : (Jvm.Cond.methodLink "java/lang/String" (505 : Nat) ({ cls := "java/lang/String", name := "length", desc := "()I" } : Jvm.MethodName)) ∈ ab_T := ab_w3 46 rfl rfl
theorem wd_3_47 : (Jvm.Cond.instanceMethod ({ cls := "java/lang/String", name := "length", desc := "()I" } : Jvm.MethodName)) ∈ ab_T := ab_w3 47 rfl rfl
theorem wd_3_48 : (Jvm.Cond.selects "java/lang/String" ({ cls := "java/lang/String", name := "length", desc := "()I" } : Jvm.MethodName) ({ cls := "java/lang/String", name := "length", desc := "()I" } : Jvm.MethodName)) ∈ ab_T := ab_w3 48 rfl rfl
theorem wd_3_49 : (Jvm.Cond.code ({ cls := "java/lang/String", name := "length", desc := "()I" } : Jvm.MethodName) prog_27_method_54_code (1 : Nat) (Option.some Jvm.ClassFile.FieldType.int)) ∈ ab_T := ab_w3 49 rfl rfl
theorem wd_3_50 : (Jvm.Cond.methodLink "java/lang/String" (335 : Nat) ({ cls := "java/lang/String", name := "coder", desc := "()B" } : Jvm.MethodName)) ∈ ab_T := ab_w3 50 rfl rfl
theorem wd_3_51 : (Jvm.Cond.instanceMethod ({ cls := "java/lang/String", name := "coder", desc := "()B" } : Jvm.MethodName)) ∈ ab_T := ab_w3 51 rfl rfl
theorem wd_3_52 : (Jvm.Cond.selects "java/lang/String" ({ cls := "java/lang/String", name := "coder", desc := "()B" } : Jvm.MethodName) ({ cls := "java/lang/String", name := "coder", desc := "()B" } : Jvm.MethodName)) ∈ ab_T := ab_w3 52 rfl rfl
theorem wd_3_53 : (Jvm.Cond.code ({ cls := "java/lang/String", name := "coder", desc := "()B" } : Jvm.MethodName) prog_27_method_152_code (1 : Nat) (Option.some Jvm.ClassFile.FieldType.byte)) ∈ ab_T := ab_w3 53 rfl rfl
theorem wd_3_54 : (Jvm.Cond.methodLink "java/lang/String" (637 : Nat) ({ cls := "java/lang/StringLatin1", name := "indexOf", desc := "([BIII)I" } : Jvm.MethodName)) ∈ ab_T := ab_w3 54 rfl rfl
theorem wd_3_55 : (Jvm.Cond.static ({ cls := "java/lang/StringLatin1", name := "indexOf", desc := "([BIII)I" } : Jvm.MethodName)) ∈ ab_T := ab_w3 55 rfl rfl
theorem wd_3_56 : (Jvm.Cond.code ({ cls := "java/lang/StringLatin1", name := "indexOf", desc := "([BIII)I" } : Jvm.MethodName) prog_28_method_22_code (4 : Nat) (Option.some Jvm.ClassFile.FieldType.int)) ∈ ab_T := ab_w3 56 rfl rfl
theorem wd_3_57 : (Jvm.Cond.methodLink "java/lang/StringLatin1" (88 : Nat) ({ cls := "java/lang/StringLatin1", name := "canEncode", desc := "(I)Z" } : Jvm.MethodName)) ∈ ab_T := ab_w3 57 rfl rfl
theorem wd_3_58 : (Jvm.Cond.static ({ cls := "java/lang/StringLatin1", name := "canEncode", desc := "(I)Z" } : Jvm.MethodName)) ∈ ab_T := ab_w3 58 rfl rfl
theorem wd_3_59 : (Jvm.Cond.code ({ cls := "java/lang/StringLatin1", name := "canEncode", desc := "(I)Z" } : Jvm.MethodName) prog_28_method_4_code (1 : Nat) (Option.some Jvm.ClassFile.FieldType.boolean)) ∈ ab_T := ab_w3 59 rfl rfl
theorem wd_3_60 : (Jvm.Cond.methodLink "java/lang/StringLatin1" (92 : Nat) ({ cls := "java/lang/Math", name := "max", desc := "(II)I" } : Jvm.MethodName)) ∈ ab_T := ab_w3 60 rfl rfl
theorem wd_3_61 : (Jvm.Cond.methodLink "java/lang/StringLatin1" (38 : Nat) ({ cls := "java/lang/Math", name := "min", desc := "(II)I" } : Jvm.MethodName)) ∈ ab_T := ab_w3 61 rfl rfl
theorem wd_3_62 : (Jvm.Cond.methodLink "java/lang/StringLatin1" (95 : Nat) ({ cls := "java/lang/StringLatin1", name := "indexOfChar", desc := "([BIII)I" } : Jvm.MethodName)) ∈ ab_T := ab_w3 62 rfl rfl
theorem wd_3_63 : (Jvm.Cond.static ({ cls := "java/lang/StringLatin1", name := "indexOfChar", desc := "([BIII)I" } : Jvm.MethodName)) ∈ ab_T := ab_w3 63 rfl rfl
theorem wd_3_64 : (Jvm.Cond.code ({ cls := "java/lang/StringLatin1", name := "indexOfChar", desc := "([BIII)I" } : Jvm.MethodName) prog_28_method_23_code (6 : Nat) (Option.some Jvm.ClassFile.FieldType.int)) ∈ ab_T := ab_w3 64 rfl rfl
theorem wd_3_115 : (Jvm.Cond.classLink "RiddlePress" (85 : Nat) "java/lang/UnsupportedOperationException") ∈ ab_T := ab_w3 115 rfl rfl
theorem wd_3_125 : (Jvm.Cond.methodLink "RiddlePress" (89 : Nat) ({ cls := "java/lang/UnsupportedOperationException", name := "<init>", desc := "(Ljava/lang/String;)V" } : Jvm.MethodName)) ∈ ab_T := ab_w3 125 rfl rfl
theorem wd_3_132 : (Jvm.Cond.methodLink "RiddlePress" (95 : Nat) ({ cls := "RiddlePress$Riddle", name := "addClue", desc := "(LRiddlePress$Clue;)V" } : Jvm.MethodName)) ∈ ab_T := ab_w3 132 rfl rfl
theorem wd_3_133 : (Jvm.Cond.instanceMethod ({ cls := "RiddlePress$Riddle", name := "addClue", desc := "(LRiddlePress$Clue;)V" } : Jvm.MethodName)) ∈ ab_T := ab_w3 133 rfl rfl
theorem wd_3_134 : (Jvm.Cond.selects "RiddlePress$Riddle" ({ cls := "RiddlePress$Riddle", name := "addClue", desc := "(LRiddlePress$Clue;)V" } : Jvm.MethodName) ({ cls := "RiddlePress$Riddle", name := "addClue", desc := "(LRiddlePress$Clue;)V" } : Jvm.MethodName)) ∈ ab_T := ab_w3 134 rfl rfl
theorem wd_3_135 : (Jvm.Cond.code ({ cls := "RiddlePress$Riddle", name := "addClue", desc := "(LRiddlePress$Clue;)V" } : Jvm.MethodName) prog_9_method_2_code (2 : Nat) (Option.none : Option Jvm.ClassFile.FieldType)) ∈ ab_T := ab_w3 135 rfl rfl
theorem wd_3_137 : (Jvm.Cond.methodLink "RiddlePress$Riddle" (46 : Nat) ({ cls := "java/util/List", name := "add", desc := "(Ljava/lang/Object;)Z" } : Jvm.MethodName)) ∈ ab_T := ab_w3 137 rfl rfl
theorem wd_3_154 : (Jvm.Cond.classLink "RiddlePress" (114 : Nat) "java/util/NoSuchElementException") ∈ ab_T := ab_w3 154 rfl rfl
theorem wd_3_164 : (Jvm.Cond.methodLink "RiddlePress" (118 : Nat) ({ cls := "java/util/NoSuchElementException", name := "<init>", desc := "(Ljava/lang/String;)V" } : Jvm.MethodName)) ∈ ab_T := ab_w3 164 rfl rfl
theorem wd_3_178 : (Jvm.Cond.methodLink "RiddlePress" (124 : Nat) ({ cls := "RiddlePress$Proof", name := "make", desc := "(Ljava/util/List;Ljava/util/List;)V" } : Jvm.MethodName)) ∈ ab_T := ab_w3 178 rfl rfl
theorem wd_3_179 : (Jvm.Cond.instanceMethod ({ cls := "RiddlePress$Proof", name := "make", desc := "(Ljava/util/List;Ljava/util/List;)V" } : Jvm.MethodName)) ∈ ab_T := ab_w3 179 rfl rfl
theorem wd_3_180 : (Jvm.Cond.selects "RiddlePress$Proof" ({ cls := "RiddlePress$Proof", name := "make", desc := "(Ljava/util/List;Ljava/util/List;)V" } : Jvm.MethodName) ({ cls := "RiddlePress$Proof", name := "make", desc := "(Ljava/util/List;Ljava/util/List;)V" } : Jvm.MethodName)) ∈ ab_T := ab_w3 180 rfl rfl
theorem wd_3_181 : (Jvm.Cond.code ({ cls := "RiddlePress$Proof", name := "make", desc := "(Ljava/util/List;Ljava/util/List;)V" } : Jvm.MethodName) prog_8_method_5_code (6 : Nat) (Option.none : Option Jvm.ClassFile.FieldType)) ∈ ab_T := ab_w3 181 rfl rfl
theorem wd_3_182 : (Jvm.Cond.methodLink "RiddlePress$Proof" (41 : Nat) ({ cls := "RiddlePress$Proof", name := "lose", desc := "()V" } : Jvm.MethodName)) ∈ ab_T := ab_w3 182 rfl rfl
theorem wd_3_183 : (Jvm.Cond.instanceMethod ({ cls := "RiddlePress$Proof", name := "lose", desc := "()V" } : Jvm.MethodName)) ∈ ab_T := ab_w3 183 rfl rfl
theorem wd_3_184 : (Jvm.Cond.selects "RiddlePress$Proof" ({ cls := "RiddlePress$Proof", name := "lose", desc := "()V" } : Jvm.MethodName) ({ cls := "RiddlePress$Proof", name := "lose", desc := "()V" } : Jvm.MethodName)) ∈ ab_T := ab_w3 184 rfl rfl
theorem wd_3_185 : (Jvm.Cond.code ({ cls := "RiddlePress$Proof", name := "lose", desc := "()V" } : Jvm.MethodName) prog_8_method_4_code (1 : Nat) (Option.none : Option Jvm.ClassFile.FieldType)) ∈ ab_T := ab_w3 185 rfl rfl
theorem wd_3_186 : (Jvm.Cond.methodLink "RiddlePress$Proof" (44 : Nat) ({ cls := "RiddlePress$Places", name := "giveAll", desc := "()V" } : Jvm.MethodName)) ∈ ab_T := ab_w3 186 rfl rfl
theorem wd_3_187 : (Jvm.Cond.instanceMethod ({ cls := "RiddlePress$Places", name := "giveAll", desc := "()V" } : Jvm.MethodName)) ∈ ab_T := ab_w3 187 rfl rfl
theorem wd_3_188 : (Jvm.Cond.selects "RiddlePress$Places" ({ cls := "RiddlePress$Places", name := "giveAll", desc := "()V" } : Jvm.MethodName) ({ cls := "RiddlePress$Places", name := "giveAll", desc := "()V" } : Jvm.MethodName)) ∈ ab_T := ab_w3 188 rfl rfl
theorem wd_3_189 : (Jvm.Cond.code ({ cls := "RiddlePress$Places", name := "giveAll", desc := "()V" } : Jvm.MethodName) prog_7_method_3_code (2 : Nat) (Option.none : Option Jvm.ClassFile.FieldType)) ∈ ab_T := ab_w3 189 rfl rfl
theorem wd_3_190 : (Jvm.Cond.methodLink "RiddlePress$Proof" (47 : Nat) ({ cls := "RiddlePress$Proof", name := "makeStepByClues", desc := "(Ljava/util/List;)Z" } : Jvm.MethodName)) ∈ ab_T := ab_w3 190 rfl rfl
theorem wd_3_192 : (Jvm.Cond.instanceMethod ({ cls := "RiddlePress$Proof", name := "makeStepByClues", desc := "(Ljava/util/List;)Z" } : Jvm.MethodName)) ∈ ab_T := ab_w3 192 rfl rfl
theorem wd_3_193 : (Jvm.Cond.code ({ cls := "RiddlePress$Proof", name := "makeStepByClues", desc := "(Ljava/util/List;)Z" } : Jvm.MethodName) prog_8_method_6_code (5 : Nat) (Option.some Jvm.ClassFile.FieldType.boolean)) ∈ ab_T := ab_w3 193 rfl rfl
theorem wd_3_195 : (Jvm.Cond.methodLink "RiddlePress$Proof" (71 : Nat) ({ cls := "java/util/List", name := "size", desc := "()I" } : Jvm.MethodName)) ∈ ab_T := ab_w3 195 rfl rfl
theorem wd_3_197 : (Jvm.Cond.methodLink "RiddlePress$Proof" (77 : Nat) ({ cls := "java/util/List", name := "get", desc := "(I)Ljava/lang/Object;" } : Jvm.MethodName)) ∈ ab_T := ab_w3 197 rfl rfl
theorem wd_3_198 : (Jvm.Cond.classLink "RiddlePress$Proof" (81 : Nat) "RiddlePress$Clue") ∈ ab_T := ab_w3 198 rfl rfl
theorem wd_3_199 : (Jvm.Cond.methodLink "RiddlePress$Proof" (83 : Nat) ({ cls := "RiddlePress$Clue", name := "ruleNumber", desc := "()I" } : Jvm.MethodName)) ∈ ab_T := ab_w3 199 rfl rfl
theorem wd_3_200 : (Jvm.Cond.methodLink "RiddlePress$Proof" (86 : Nat) ({ cls := "RiddlePress$Places", name := "takeByClue", desc := "(LRiddlePress$Clue;)I" } : Jvm.MethodName)) ∈ ab_T := ab_w3 200 rfl rfl
theorem wd_3_201 : (Jvm.Cond.instanceMethod ({ cls := "RiddlePress$Places", name := "takeByClue", desc := "(LRiddlePress$Clue;)I" } : Jvm.MethodName)) ∈ ab_T := ab_w3 201 rfl rfl
theorem wd_3_202 : (Jvm.Cond.selects "RiddlePress$Places" ({ cls := "RiddlePress$Places", name := "takeByClue", desc := "(LRiddlePress$Clue;)I" } : Jvm.MethodName) ({ cls := "RiddlePress$Places", name := "takeByClue", desc := "(LRiddlePress$Clue;)I" } : Jvm.MethodName)) ∈ ab_T := ab_w3 202 rfl rfl
theorem wd_3_203 : (Jvm.Cond.code ({ cls := "RiddlePress$Places", name := "takeByClue", desc := "(LRiddlePress$Clue;)I" } : Jvm.MethodName) prog_7_method_6_code (2 : Nat) (Option.some Jvm.ClassFile.FieldType.int)) ∈ ab_T := ab_w3 203 rfl rfl
theorem wd_3_204 : (Jvm.Cond.methodLink "RiddlePress$Places" (34 : Nat) ({ cls := "RiddlePress$Places", name := "keep", desc := "(II)I" } : Jvm.MethodName)) ∈ ab_T := ab_w3 204 rfl rfl
theorem wd_3_206 : (Jvm.Cond.instanceMethod ({ cls := "RiddlePress$Places", name := "keep", desc := "(II)I" } : Jvm.MethodName)) ∈ ab_T := ab_w3 206 rfl rfl
theorem wd_3_207 : (Jvm.Cond.code ({ cls := "RiddlePress$Places", name := "keep", desc := "(II)I" } : Jvm.MethodName) prog_7_method_19_code (4 : Nat) (Option.some Jvm.ClassFile.FieldType.int)) ∈ ab_T := ab_w3 207 rfl rfl
theorem wd_3_208 : (Jvm.Cond.methodLink "RiddlePress$Places" (15 : Nat) ({ cls := "java/lang/Integer", name := "bitCount", desc := "(I)I" } : Jvm.MethodName)) ∈ ab_T := ab_w3 208 rfl rfl
theorem wd_3_209 : (Jvm.Cond.static ({ cls := "java/lang/Integer", name := "bitCount", desc := "(I)I" } : Jvm.MethodName)) ∈ ab_T := ab_w3 209 rfl rfl
theorem wd_3_210 : (Jvm.Cond.code ({ cls := "java/lang/Integer", name := "bitCount", desc := "(I)I" } : Jvm.MethodName) prog_23_method_49_code (1 : Nat) (Option.some Jvm.ClassFile.FieldType.int)) ∈ ab_T := ab_w3 210 rfl rfl
theorem wd_3_211 : (Jvm.Cond.constant "java/lang/Integer" (265 : Nat) (1431655765 : Int32)) ∈ ab_T := ab_w3 211 rfl rfl
theorem wd_3_212 : (Jvm.Cond.constant "java/lang/Integer" (266 : Nat) (858993459 : Int32)) ∈ ab_T := ab_w3 212 rfl rfl
theorem wd_3_213 : (Jvm.Cond.constant "java/lang/Integer" (267 : Nat) (252645135 : Int32)) ∈ ab_T := ab_w3 213 rfl rfl
theorem wd_3_214 : (Jvm.Cond.methodLink "RiddlePress$Places" (38 : Nat) ({ cls := "RiddlePress$Places", name := "takeByBefore", desc := "(II)I" } : Jvm.MethodName)) ∈ ab_T := ab_w3 214 rfl rfl
theorem wd_3_216 : (Jvm.Cond.instanceMethod ({ cls := "RiddlePress$Places", name := "takeByBefore", desc := "(II)I" } : Jvm.MethodName)) ∈ ab_T := ab_w3 216 rfl rfl
theorem wd_3_217 : (Jvm.Cond.code ({ cls := "RiddlePress$Places", name := "takeByBefore", desc := "(II)I" } : Jvm.MethodName) prog_7_method_12_code (4 : Nat) (Option.some Jvm.ClassFile.FieldType.int)) ∈ ab_T := ab_w3 217 rfl rfl
theorem wd_3_218 : (Jvm.Cond.methodLink "RiddlePress$Places" (64 : Nat) ({ cls := "RiddlePress$Places", name := "setOf", desc := "(I)I" } : Jvm.MethodName)) ∈ ab_T := ab_w3 218 rfl rfl
theorem wd_3_220 : (Jvm.Cond.instanceMethod ({ cls := "RiddlePress$Places", name := "setOf", desc := "(I)I" } : Jvm.MethodName)) ∈ ab_T := ab_w3 220 rfl rfl
theorem wd_3_221 : (Jvm.Cond.code ({ cls := "RiddlePress$Places", name := "setOf", desc := "(I)I" } : Jvm.MethodName) prog_7_method_18_code (2 : Nat) (Option.some Jvm.ClassFile.FieldType.int)) ∈ ab_T := ab_w3 221 rfl rfl
theorem wd_3_222 : (Jvm.Cond.methodLink "RiddlePress$Places" (70 : Nat) ({ cls := "RiddlePress$Places", name := "leftOf", desc := "(I)I" } : Jvm.MethodName)) ∈ ab_T := ab_w3 222 rfl rfl
theorem wd_3_223 : (Jvm.Cond.static ({ cls := "RiddlePress$Places", name := "leftOf", desc := "(I)I" } : Jvm.MethodName)) ∈ ab_T := ab_w3 223 rfl rfl
theorem wd_3_224 : (Jvm.Cond.code ({ cls := "RiddlePress$Places", name := "leftOf", desc := "(I)I" } : Jvm.MethodName) prog_7_method_16_code (3 : Nat) (Option.some Jvm.ClassFile.FieldType.int)) ∈ ab_T := ab_w3 224 rfl rfl
theorem wd_3_225 : (Jvm.Cond.methodLink "RiddlePress$Places" (73 : Nat) ({ cls := "RiddlePress$Places", name := "rightOf", desc := "(I)I" } : Jvm.MethodName)) ∈ ab_T := ab_w3 225 rfl rfl
theorem wd_3_226 : (Jvm.Cond.static ({ cls := "RiddlePress$Places", name := "rightOf", desc := "(I)I" } : Jvm.MethodName)) ∈ ab_T := ab_w3 226 rfl rfl
theorem wd_3_227 : (Jvm.Cond.code ({ cls := "RiddlePress$Places", name := "rightOf", desc := "(I)I" } : Jvm.MethodName) prog_7_method_17_code (3 : Nat) (Option.some Jvm.ClassFile.FieldType.int)) ∈ ab_T := ab_w3 227 rfl rfl
theorem wd_3_228 : (Jvm.Cond.methodLink "RiddlePress$Places" (41 : Nat) ({ cls := "RiddlePress$Places", name := "takeByDistance", desc := "(III)I" } : Jvm.MethodName)) ∈ ab_T := ab_w3 228 rfl rfl
theorem wd_3_230 : (Jvm.Cond.instanceMethod ({ cls := "RiddlePress$Places", name := "takeByDistance", desc := "(III)I" } : Jvm.MethodName)) ∈ ab_T := ab_w3 230 rfl rfl
theorem wd_3_231 : (Jvm.Cond.code ({ cls := "RiddlePress$Places", name := "takeByDistance", desc := "(III)I" } : Jvm.MethodName) prog_7_method_13_code (5 : Nat) (Option.some Jvm.ClassFile.FieldType.int)) ∈ ab_T := ab_w3 231 rfl rfl
theorem wd_3_232 : (Jvm.Cond.methodLink "RiddlePress$Places" (45 : Nat) ({ cls := "RiddlePress$Places", name := "takeByNextLeft", desc := "(II)I" } : Jvm.MethodName)) ∈ ab_T := ab_w3 232 rfl rfl
theorem wd_3_234 : (Jvm.Cond.instanceMethod ({ cls := "RiddlePress$Places", name := "takeByNextLeft", desc := "(II)I" } : Jvm.MethodName)) ∈ ab_T := ab_w3 234 rfl rfl
theorem wd_3_235 : (Jvm.Cond.code ({ cls := "RiddlePress$Places", name := "takeByNextLeft", desc := "(II)I" } : Jvm.MethodName) prog_7_method_14_code (4 : Nat) (Option.some Jvm.ClassFile.FieldType.int)) ∈ ab_T := ab_w3 235 rfl rfl
theorem wd_3_236 : (Jvm.Cond.methodLink "RiddlePress$Places" (51 : Nat) ({ cls := "RiddlePress$Places", name := "takeByBetween", desc := "(III)I" } : Jvm.MethodName)) ∈ ab_T := ab_w3 236 rfl rfl
theorem wd_3_238 : (Jvm.Cond.instanceMethod ({ cls := "RiddlePress$Places", name := "takeByBetween", desc := "(III)I" } : Jvm.MethodName)) ∈ ab_T := ab_w3 238 rfl rfl
theorem wd_3_239 : (Jvm.Cond.code ({ cls := "RiddlePress$Places", name := "takeByBetween", desc := "(III)I" } : Jvm.MethodName) prog_7_method_15_code (6 : Nat) (Option.some Jvm.ClassFile.FieldType.int)) ∈ ab_T := ab_w3 239 rfl rfl
theorem wd_4_0 : (Jvm.Cond.methodLink "RiddlePress$Proof" (90 : Nat) ({ cls := "RiddlePress$Proof", name := "addStep", desc := "(III)Z" } : Jvm.MethodName)) ∈ ab_T := ab_w4 0 rfl rfl
theorem wd_4_2 : (Jvm.Cond.instanceMethod ({ cls := "RiddlePress$Proof", name := "addStep", desc := "(III)Z" } : Jvm.MethodName)) ∈ ab_T := ab_w4 2 rfl rfl
theorem wd_4_3 : (Jvm.Cond.code ({ cls := "RiddlePress$Proof", name := "addStep", desc := "(III)Z" } : Jvm.MethodName) prog_8_method_11_code (4 : Nat) (Option.some Jvm.ClassFile.FieldType.boolean)) ∈ ab_T := ab_w4 3 rfl rfl
theorem wd_4_4 : (Jvm.Cond.methodLink "RiddlePress$Proof" (51 : Nat) ({ cls := "RiddlePress$Proof", name := "makeStepByPersons", desc := "()Z" } : Jvm.MethodName)) ∈ ab_T := ab_w4 4 rfl rfl
theorem wd_4_6 : (Jvm.Cond.instanceMethod ({ cls := "RiddlePress$Proof", name := "makeStepByPersons", desc := "()Z" } : Jvm.MethodName)) ∈ ab_T := ab_w4 6 rfl rfl
theorem wd_4_7 : (Jvm.Cond.code ({ cls := "RiddlePress$Proof", name := "makeStepByPersons", desc := "()Z" } : Jvm.MethodName) prog_8_method_7_code (2 : Nat) (Option.some Jvm.ClassFile.FieldType.boolean)) ∈ ab_T := ab_w4 7 rfl rfl
theorem wd_4_8 : (Jvm.Cond.methodLink "RiddlePress$Proof" (94 : Nat) ({ cls := "RiddlePress$Places", name := "count", desc := "()I" } : Jvm.MethodName)) ∈ ab_T := ab_w4 8 rfl rfl
theorem wd_4_9 : (Jvm.Cond.instanceMethod ({ cls := "RiddlePress$Places", name := "count", desc := "()I" } : Jvm.MethodName)) ∈ ab_T := ab_w4 9 rfl rfl
theorem wd_4_10 : (Jvm.Cond.selects "RiddlePress$Places" ({ cls := "RiddlePress$Places", name := "count", desc := "()I" } : Jvm.MethodName) ({ cls := "RiddlePress$Places", name := "count", desc := "()I" } : Jvm.MethodName)) ∈ ab_T := ab_w4 10 rfl rfl
theorem wd_4_11 : (Jvm.Cond.code ({ cls := "RiddlePress$Places", name := "count", desc := "()I" } : Jvm.MethodName) prog_7_method_2_code (1 : Nat) (Option.some Jvm.ClassFile.FieldType.int)) ∈ ab_T := ab_w4 11 rfl rfl
theorem wd_4_12 : (Jvm.Cond.methodLink "RiddlePress$Proof" (97 : Nat) ({ cls := "RiddlePress$Places", name := "takeByPerson", desc := "(I)I" } : Jvm.MethodName)) ∈ ab_T := ab_w4 12 rfl rfl
theorem wd_4_13 : (Jvm.Cond.instanceMethod ({ cls := "RiddlePress$Places", name := "takeByPerson", desc := "(I)I" } : Jvm.MethodName)) ∈ ab_T := ab_w4 13 rfl rfl
theorem wd_4_14 : (Jvm.Cond.selects "RiddlePress$Places" ({ cls := "RiddlePress$Places", name := "takeByPerson", desc := "(I)I" } : Jvm.MethodName) ({ cls := "RiddlePress$Places", name := "takeByPerson", desc := "(I)I" } : Jvm.MethodName)) ∈ ab_T := ab_w4 14 rfl rfl
theorem wd_4_15 : (Jvm.Cond.code ({ cls := "RiddlePress$Places", name := "takeByPerson", desc := "(I)I" } : Jvm.MethodName) prog_7_method_8_code (3 : Nat) (Option.some Jvm.ClassFile.FieldType.int)) ∈ ab_T := ab_w4 15 rfl rfl
theorem wd_4_16 : (Jvm.Cond.methodLink "RiddlePress$Places" (67 : Nat) ({ cls := "RiddlePress$Places", name := "takeFromOthers", desc := "(III)I" } : Jvm.MethodName)) ∈ ab_T := ab_w4 16 rfl rfl
theorem wd_4_18 : (Jvm.Cond.instanceMethod ({ cls := "RiddlePress$Places", name := "takeFromOthers", desc := "(III)I" } : Jvm.MethodName)) ∈ ab_T := ab_w4 18 rfl rfl
theorem wd_4_19 : (Jvm.Cond.code ({ cls := "RiddlePress$Places", name := "takeFromOthers", desc := "(III)I" } : Jvm.MethodName) prog_7_method_11_code (6 : Nat) (Option.some Jvm.ClassFile.FieldType.int)) ∈ ab_T := ab_w4 19 rfl rfl
theorem wd_4_20 : (Jvm.Cond.methodLink "RiddlePress$Proof" (55 : Nat) ({ cls := "RiddlePress$Proof", name := "makeStepByPlaces", desc := "()Z" } : Jvm.MethodName)) ∈ ab_T := ab_w4 20 rfl rfl
theorem wd_4_22 : (Jvm.Cond.instanceMethod ({ cls := "RiddlePress$Proof", name := "makeStepByPlaces", desc := "()Z" } : Jvm.MethodName)) ∈ ab_T := ab_w4 22 rfl rfl
theorem wd_4_23 : (Jvm.Cond.code ({ cls := "RiddlePress$Proof", name := "makeStepByPlaces", desc := "()Z" } : Jvm.MethodName) prog_8_method_8_code (2 : Nat) (Option.some Jvm.ClassFile.FieldType.boolean)) ∈ ab_T := ab_w4 23 rfl rfl
theorem wd_4_24 : (Jvm.Cond.methodLink "RiddlePress$Proof" (101 : Nat) ({ cls := "RiddlePress$Places", name := "takeByPlace", desc := "(I)I" } : Jvm.MethodName)) ∈ ab_T := ab_w4 24 rfl rfl
theorem wd_4_25 : (Jvm.Cond.instanceMethod ({ cls := "RiddlePress$Places", name := "takeByPlace", desc := "(I)I" } : Jvm.MethodName)) ∈ ab_T := ab_w4 25 rfl rfl
theorem wd_4_26 : (Jvm.Cond.selects "RiddlePress$Places" ({ cls := "RiddlePress$Places", name := "takeByPlace", desc := "(I)I" } : Jvm.MethodName) ({ cls := "RiddlePress$Places", name := "takeByPlace", desc := "(I)I" } : Jvm.MethodName)) ∈ ab_T := ab_w4 26 rfl rfl
theorem wd_4_27 : (Jvm.Cond.code ({ cls := "RiddlePress$Places", name := "takeByPlace", desc := "(I)I" } : Jvm.MethodName) prog_7_method_9_code (5 : Nat) (Option.some Jvm.ClassFile.FieldType.int)) ∈ ab_T := ab_w4 27 rfl rfl
theorem wd_4_28 : (Jvm.Cond.methodLink "RiddlePress$Proof" (58 : Nat) ({ cls := "RiddlePress$Proof", name := "makeStepByPairs", desc := "()Z" } : Jvm.MethodName)) ∈ ab_T := ab_w4 28 rfl rfl
theorem wd_4_30 : (Jvm.Cond.instanceMethod ({ cls := "RiddlePress$Proof", name := "makeStepByPairs", desc := "()Z" } : Jvm.MethodName)) ∈ ab_T := ab_w4 30 rfl rfl
theorem wd_4_31 : (Jvm.Cond.code ({ cls := "RiddlePress$Proof", name := "makeStepByPairs", desc := "()Z" } : Jvm.MethodName) prog_8_method_9_code (4 : Nat) (Option.some Jvm.ClassFile.FieldType.boolean)) ∈ ab_T := ab_w4 31 rfl rfl
theorem wd_4_32 : (Jvm.Cond.methodLink "RiddlePress$Proof" (104 : Nat) ({ cls := "RiddlePress$Places", name := "takeByPair", desc := "(II)I" } : Jvm.MethodName)) ∈ ab_T := ab_w4 32 rfl rfl
theorem wd_4_33 : (Jvm.Cond.instanceMethod ({ cls := "RiddlePress$Places", name := "takeByPair", desc := "(II)I" } : Jvm.MethodName)) ∈ ab_T := ab_w4 33 rfl rfl
theorem wd_4_34 : (Jvm.Cond.selects "RiddlePress$Places" ({ cls := "RiddlePress$Places", name := "takeByPair", desc := "(II)I" } : Jvm.MethodName) ({ cls := "RiddlePress$Places", name := "takeByPair", desc := "(II)I" } : Jvm.MethodName)) ∈ ab_T := ab_w4 34 rfl rfl
theorem wd_4_35 : (Jvm.Cond.code ({ cls := "RiddlePress$Places", name := "takeByPair", desc := "(II)I" } : Jvm.MethodName) prog_7_method_10_code (4 : Nat) (Option.some Jvm.ClassFile.FieldType.int)) ∈ ab_T := ab_w4 35 rfl rfl
theorem wd_4_36 : (Jvm.Cond.methodLink "RiddlePress$Proof" (61 : Nat) ({ cls := "RiddlePress$Proof", name := "makeStepByOwnRules", desc := "(Ljava/util/List;Ljava/util/List;)Z" } : Jvm.MethodName)) ∈ ab_T := ab_w4 36 rfl rfl
theorem wd_4_38 : (Jvm.Cond.instanceMethod ({ cls := "RiddlePress$Proof", name := "makeStepByOwnRules", desc := "(Ljava/util/List;Ljava/util/List;)Z" } : Jvm.MethodName)) ∈ ab_T := ab_w4 38 rfl rfl
theorem wd_4_39 : (Jvm.Cond.code ({ cls := "RiddlePress$Proof", name := "makeStepByOwnRules", desc := "(Ljava/util/List;Ljava/util/List;)Z" } : Jvm.MethodName) prog_8_method_10_code (7 : Nat) (Option.some Jvm.ClassFile.FieldType.boolean)) ∈ ab_T := ab_w4 39 rfl rfl
theorem wd_4_40 : (Jvm.Cond.classLink "RiddlePress$Proof" (108 : Nat) "RiddlePress$OwnRule") ∈ ab_T := ab_w4 40 rfl rfl
theorem wd_4_41 : (Jvm.Cond.methodLink "RiddlePress$Proof" (114 : Nat) ({ cls := "RiddlePress$Places", name := "takeByOwnRule", desc := "(LRiddlePress$OwnRule;LRiddlePress$Clue;)I" } : Jvm.MethodName)) ∈ ab_T := ab_w4 41 rfl rfl
theorem wd_4_42 : (Jvm.Cond.instanceMethod ({ cls := "RiddlePress$Places", name := "takeByOwnRule", desc := "(LRiddlePress$OwnRule;LRiddlePress$Clue;)I" } : Jvm.MethodName)) ∈ ab_T := ab_w4 42 rfl rfl
theorem wd_4_43 : (Jvm.Cond.selects "RiddlePress$Places" ({ cls := "RiddlePress$Places", name := "takeByOwnRule", desc := "(LRiddlePress$OwnRule;LRiddlePress$Clue;)I" } : Jvm.MethodName) ({ cls := "RiddlePress$Places", name := "takeByOwnRule", desc := "(LRiddlePress$OwnRule;LRiddlePress$Clue;)I" } : Jvm.MethodName)) ∈ ab_T := ab_w4 43 rfl rfl
theorem wd_4_44 : (Jvm.Cond.code ({ cls := "RiddlePress$Places", name := "takeByOwnRule", desc := "(LRiddlePress$OwnRule;LRiddlePress$Clue;)I" } : Jvm.MethodName) prog_7_method_7_code (3 : Nat) (Option.some Jvm.ClassFile.FieldType.int)) ∈ ab_T := ab_w4 44 rfl rfl
theorem wd_4_45 : (Jvm.Cond.methodLink "RiddlePress$Places" (57 : Nat) ({ cls := "RiddlePress$OwnRule", name := "personIn", desc := "(LRiddlePress$Clue;)I" } : Jvm.MethodName)) ∈ ab_T := ab_w4 45 rfl rfl
theorem wd_4_46 : (Jvm.Cond.instanceMethod ({ cls := "RiddlePress$OwnRule", name := "personIn", desc := "(LRiddlePress$Clue;)I" } : Jvm.MethodName)) ∈ ab_T := ab_w4 46 rfl rfl
theorem wd_4_47 : (Jvm.Cond.selects "RiddlePress$OwnRule" ({ cls := "RiddlePress$OwnRule", name := "personIn", desc := "(LRiddlePress$Clue;)I" } : Jvm.MethodName) ({ cls := "RiddlePress$OwnRule", name := "personIn", desc := "(LRiddlePress$Clue;)I" } : Jvm.MethodName)) ∈ ab_T := ab_w4 47 rfl rfl
theorem wd_4_48 : (Jvm.Cond.code ({ cls := "RiddlePress$OwnRule", name := "personIn", desc := "(LRiddlePress$Clue;)I" } : Jvm.MethodName) prog_6_method_2_code (2 : Nat) (Option.some Jvm.ClassFile.FieldType.int)) ∈ ab_T := ab_w4 48 rfl rfl
theorem wd_4_49 : (Jvm.Cond.methodLink "RiddlePress$Places" (61 : Nat) ({ cls := "RiddlePress$OwnRule", name := "placesOf", desc := "(I)I" } : Jvm.MethodName)) ∈ ab_T := ab_w4 49 rfl rfl
theorem wd_4_50 : (Jvm.Cond.instanceMethod ({ cls := "RiddlePress$OwnRule", name := "placesOf", desc := "(I)I" } : Jvm.MethodName)) ∈ ab_T := ab_w4 50 rfl rfl
theorem wd_4_51 : (Jvm.Cond.selects "RiddlePress$OwnRule" ({ cls := "RiddlePress$OwnRule", name := "placesOf", desc := "(I)I" } : Jvm.MethodName) ({ cls := "RiddlePress$OwnRule", name := "placesOf", desc := "(I)I" } : Jvm.MethodName)) ∈ ab_T := ab_w4 51 rfl rfl
theorem wd_4_52 : (Jvm.Cond.code ({ cls := "RiddlePress$OwnRule", name := "placesOf", desc := "(I)I" } : Jvm.MethodName) prog_6_method_3_code (4 : Nat) (Option.some Jvm.ClassFile.FieldType.int)) ∈ ab_T := ab_w4 52 rfl rfl
theorem wd_4_53 : (Jvm.Cond.methodLink "RiddlePress$OwnRule" (43 : Nat) ({ cls := "java/lang/Math", name := "min", desc := "(II)I" } : Jvm.MethodName)) ∈ ab_T := ab_w4 53 rfl rfl
theorem wd_4_54 : (Jvm.Cond.methodLink "RiddlePress$Proof" (65 : Nat) ({ cls := "RiddlePress$Places", name := "isSomeoneWithout", desc := "()Z" } : Jvm.MethodName)) ∈ ab_T := ab_w4 54 rfl rfl
theorem wd_4_55 : (Jvm.Cond.instanceMethod ({ cls := "RiddlePress$Places", name := "isSomeoneWithout", desc := "()Z" } : Jvm.MethodName)) ∈ ab_T := ab_w4 55 rfl rfl
theorem wd_4_56 : (Jvm.Cond.selects "RiddlePress$Places" ({ cls := "RiddlePress$Places", name := "isSomeoneWithout", desc := "()Z" } : Jvm.MethodName) ({ cls := "RiddlePress$Places", name := "isSomeoneWithout", desc := "()Z" } : Jvm.MethodName)) ∈ ab_T := ab_w4 56 rfl rfl
theorem wd_4_57 : (Jvm.Cond.code ({ cls := "RiddlePress$Places", name := "isSomeoneWithout", desc := "()Z" } : Jvm.MethodName) prog_7_method_4_code (2 : Nat) (Option.some Jvm.ClassFile.FieldType.boolean)) ∈ ab_T := ab_w4 57 rfl rfl
theorem wd_4_58 : (Jvm.Cond.methodLink "RiddlePress$Proof" (68 : Nat) ({ cls := "RiddlePress$Places", name := "hasEachOne", desc := "()Z" } : Jvm.MethodName)) ∈ ab_T := ab_w4 58 rfl rfl
theorem wd_4_59 : (Jvm.Cond.instanceMethod ({ cls := "RiddlePress$Places", name := "hasEachOne", desc := "()Z" } : Jvm.MethodName)) ∈ ab_T := ab_w4 59 rfl rfl
theorem wd_4_60 : (Jvm.Cond.selects "RiddlePress$Places" ({ cls := "RiddlePress$Places", name := "hasEachOne", desc := "()Z" } : Jvm.MethodName) ({ cls := "RiddlePress$Places", name := "hasEachOne", desc := "()Z" } : Jvm.MethodName)) ∈ ab_T := ab_w4 60 rfl rfl
theorem wd_4_61 : (Jvm.Cond.code ({ cls := "RiddlePress$Places", name := "hasEachOne", desc := "()Z" } : Jvm.MethodName) prog_7_method_5_code (2 : Nat) (Option.some Jvm.ClassFile.FieldType.boolean)) ∈ ab_T := ab_w4 61 rfl rfl
theorem wd_4_77 : (Jvm.Cond.methodLink "RiddlePress" (133 : Nat) ({ cls := "RiddlePress$Proof", name := "hasStep", desc := "(I)Z" } : Jvm.MethodName)) ∈ ab_T := ab_w4 77 rfl rfl
theorem wd_4_78 : (Jvm.Cond.instanceMethod ({ cls := "RiddlePress$Proof", name := "hasStep", desc := "(I)Z" } : Jvm.MethodName)) ∈ ab_T := ab_w4 78 rfl rfl
theorem wd_4_79 : (Jvm.Cond.selects "RiddlePress$Proof" ({ cls := "RiddlePress$Proof", name := "hasStep", desc := "(I)Z" } : Jvm.MethodName) ({ cls := "RiddlePress$Proof", name := "hasStep", desc := "(I)Z" } : Jvm.MethodName)) ∈ ab_T := ab_w4 79 rfl rfl
theorem wd_4_80 : (Jvm.Cond.code ({ cls := "RiddlePress$Proof", name := "hasStep", desc := "(I)Z" } : Jvm.MethodName) prog_8_method_2_code (2 : Nat) (Option.some Jvm.ClassFile.FieldType.boolean)) ∈ ab_T := ab_w4 80 rfl rfl
theorem wd_4_103 : (Jvm.Cond.methodLink "RiddlePress" (147 : Nat) ({ cls := "RiddlePress", name := "checkRule", desc := "(I)V" } : Jvm.MethodName)) ∈ ab_T := ab_w4 103 rfl rfl
theorem wd_4_105 : (Jvm.Cond.instanceMethod ({ cls := "RiddlePress", name := "checkRule", desc := "(I)V" } : Jvm.MethodName)) ∈ ab_T := ab_w4 105 rfl rfl
theorem wd_4_106 : (Jvm.Cond.code ({ cls := "RiddlePress", name := "checkRule", desc := "(I)V" } : Jvm.MethodName) prog_1_method_33_code (2 : Nat) (Option.none : Option Jvm.ClassFile.FieldType)) ∈ ab_T := ab_w4 106 rfl rfl
theorem wd_4_123 : (Jvm.Cond.methodLink "RiddlePress" (155 : Nat) ({ cls := "java/lang/String", name := "indexOf", desc := "(I)I" } : Jvm.MethodName)) ∈ ab_T := ab_w4 123 rfl rfl
theorem wd_4_124 : (Jvm.Cond.methodLink "RiddlePress" (161 : Nat) ({ cls := "RiddlePress", name := "isPersonOf", desc := "(CC)Z" } : Jvm.MethodName)) ∈ ab_T := ab_w4 124 rfl rfl
theorem wd_4_125 : (Jvm.Cond.static ({ cls := "RiddlePress", name := "isPersonOf", desc := "(CC)Z" } : Jvm.MethodName)) ∈ ab_T := ab_w4 125 rfl rfl
theorem wd_4_126 : (Jvm.Cond.code ({ cls := "RiddlePress", name := "isPersonOf", desc := "(CC)Z" } : Jvm.MethodName) prog_1_method_37_code (2 : Nat) (Option.some Jvm.ClassFile.FieldType.boolean)) ∈ ab_T := ab_w4 126 rfl rfl
theorem wd_4_129 : (Jvm.Cond.instantiable "RiddlePress$OwnRule" (6 : Nat)) ∈ ab_T := ab_w4 129 rfl rfl
theorem wd_4_130 : (Jvm.Cond.methodLink "RiddlePress" (171 : Nat) ({ cls := "RiddlePress$OwnRule", name := "<init>", desc := "(CCZI)V" } : Jvm.MethodName)) ∈ ab_T := ab_w4 130 rfl rfl
theorem wd_4_131 : (Jvm.Cond.instanceMethod ({ cls := "RiddlePress$OwnRule", name := "<init>", desc := "(CCZI)V" } : Jvm.MethodName)) ∈ ab_T := ab_w4 131 rfl rfl
theorem wd_4_132 : (Jvm.Cond.code ({ cls := "RiddlePress$OwnRule", name := "<init>", desc := "(CCZI)V" } : Jvm.MethodName) prog_6_method_1_code (5 : Nat) (Option.none : Option Jvm.ClassFile.FieldType)) ∈ ab_T := ab_w4 132 rfl rfl
theorem wd_4_133 : (Jvm.Cond.methodLink "RiddlePress$OwnRule" (3 : Nat) ({ cls := "java/lang/Object", name := "<init>", desc := "()V" } : Jvm.MethodName)) ∈ ab_T := ab_w4 133 rfl rfl
theorem wd_4_134 : (Jvm.Cond.fieldLink "RiddlePress$OwnRule" (9 : Nat) "RiddlePress$OwnRule" "kind" "C") ∈ ab_T := ab_w4 134 rfl rfl
theorem wd_4_135 : (Jvm.Cond.fieldLink "RiddlePress$Places" (54 : Nat) "RiddlePress$OwnRule" "kind" "C") ∈ ab_T := ab_w4 135 rfl rfl
theorem wd_4_136 : (Jvm.Cond.fieldLink "RiddlePress$OwnRule" (26 : Nat) "RiddlePress$OwnRule" "isStanding" "Z") ∈ ab_T := ab_w4 136 rfl rfl
theorem wd_4_137 : (Jvm.Cond.fieldLink "RiddlePress$Proof" (110 : Nat) "RiddlePress$OwnRule" "isStanding" "Z") ∈ ab_T := ab_w4 137 rfl rfl
theorem wd_4_138 : (Jvm.Cond.fieldLink "RiddlePress" (181 : Nat) "RiddlePress$OwnRule" "isStanding" "Z") ∈ ab_T := ab_w4 138 rfl rfl
theorem wd_4_139 : (Jvm.Cond.fieldLink "RiddlePress$OwnRule" (29 : Nat) "RiddlePress$OwnRule" "counterDigits" "I") ∈ ab_T := ab_w4 139 rfl rfl
theorem wd_4_140 : (Jvm.Cond.fieldLink "RiddlePress" (185 : Nat) "RiddlePress$OwnRule" "counterDigits" "I") ∈ ab_T := ab_w4 140 rfl rfl
theorem wd_4_141 : (Jvm.Cond.fieldLink "RiddlePress$OwnRule" (15 : Nat) "RiddlePress$OwnRule" "person" "C") ∈ ab_T := ab_w4 141 rfl rfl
theorem wd_4_142 : (Jvm.Cond.fieldLink "RiddlePress$OwnRule" (18 : Nat) "RiddlePress$OwnRule" "isFirst" "Z") ∈ ab_T := ab_w4 142 rfl rfl
theorem wd_4_143 : (Jvm.Cond.fieldLink "RiddlePress$OwnRule" (22 : Nat) "RiddlePress$OwnRule" "k" "I") ∈ ab_T := ab_w4 143 rfl rfl
theorem wd_4_144 : (Jvm.Cond.laysFinal "RiddlePress$OwnRule" "RiddlePress$OwnRule" "kind" "C") ∈ ab_T := ab_w4 144 rfl rfl
theorem wd_4_146 : (Jvm.Cond.lays "RiddlePress$OwnRule" "RiddlePress$OwnRule" "isStanding" "Z") ∈ ab_T := ab_w4 146 rfl rfl
theorem wd_4_148 : (Jvm.Cond.lays "RiddlePress$OwnRule" "RiddlePress$OwnRule" "counterDigits" "I") ∈ ab_T := ab_w4 148 rfl rfl
theorem wd_4_150 : (Jvm.Cond.laysFinal "RiddlePress$OwnRule" "RiddlePress$OwnRule" "person" "C") ∈ ab_T := ab_w4 150 rfl rfl
theorem wd_4_152 : (Jvm.Cond.laysFinal "RiddlePress$OwnRule" "RiddlePress$OwnRule" "isFirst" "Z") ∈ ab_T := ab_w4 152 rfl rfl
theorem wd_4_154 : (Jvm.Cond.laysFinal "RiddlePress$OwnRule" "RiddlePress$OwnRule" "k" "I") ∈ ab_T := ab_w4 154 rfl rfl
theorem wd_4_157 : (Jvm.Cond.methodLink "RiddlePress" (174 : Nat) ({ cls := "RiddlePress$OwnRule", name := "findCounterexample", desc := "()V" } : Jvm.MethodName)) ∈ ab_T := ab_w4 157 rfl rfl
theorem wd_4_158 : (Jvm.Cond.instanceMethod ({ cls := "RiddlePress$OwnRule", name := "findCounterexample", desc := "()V" } : Jvm.MethodName)) ∈ ab_T := ab_w4 158 rfl rfl
theorem wd_4_159 : (Jvm.Cond.selects "RiddlePress$OwnRule" ({ cls := "RiddlePress$OwnRule", name := "findCounterexample", desc := "()V" } : Jvm.MethodName) ({ cls := "RiddlePress$OwnRule", name := "findCounterexample", desc := "()V" } : Jvm.MethodName)) ∈ ab_T := ab_w4 159 rfl rfl
theorem wd_4_160 : (Jvm.Cond.code ({ cls := "RiddlePress$OwnRule", name := "findCounterexample", desc := "()V" } : Jvm.MethodName) prog_6_method_4_code (3 : Nat) (Option.none : Option Jvm.ClassFile.FieldType)) ∈ ab_T := ab_w4 160 rfl rfl
theorem wd_4_161 : (Jvm.Cond.classLink "RiddlePress$OwnRule" (33 : Nat) "RiddlePress$Clue") ∈ ab_T := ab_w4 161 rfl rfl
theorem wd_4_162 : (Jvm.Cond.methodLink "RiddlePress$OwnRule" (49 : Nat) ({ cls := "RiddlePress$Clue", name := "<init>", desc := "(CIII)V" } : Jvm.MethodName)) ∈ ab_T := ab_w4 162 rfl rfl
theorem wd_4_163 : (Jvm.Cond.classLink "RiddlePress$OwnRule" (52 : Nat) "RiddlePress$Order") ∈ ab_T := ab_w4 163 rfl rfl
theorem wd_4_164 : (Jvm.Cond.methodLink "RiddlePress$OwnRule" (54 : Nat) ({ cls := "RiddlePress$Order", name := "<init>", desc := "(I)V" } : Jvm.MethodName)) ∈ ab_T := ab_w4 164 rfl rfl
theorem wd_4_165 : (Jvm.Cond.methodLink "RiddlePress$OwnRule" (57 : Nat) ({ cls := "RiddlePress$OwnRule", name := "placesOf", desc := "(I)I" } : Jvm.MethodName)) ∈ ab_T := ab_w4 165 rfl rfl
theorem wd_4_166 : (Jvm.Cond.methodLink "RiddlePress$OwnRule" (61 : Nat) ({ cls := "RiddlePress$OwnRule", name := "findCounterexampleOf", desc := "(LRiddlePress$Order;LRiddlePress$Clue;I)V" } : Jvm.MethodName)) ∈ ab_T := ab_w4 166 rfl rfl
theorem wd_4_168 : (Jvm.Cond.instanceMethod ({ cls := "RiddlePress$OwnRule", name := "findCounterexampleOf", desc := "(LRiddlePress$Order;LRiddlePress$Clue;I)V" } : Jvm.MethodName)) ∈ ab_T := ab_w4 168 rfl rfl
theorem wd_4_169 : (Jvm.Cond.code ({ cls := "RiddlePress$OwnRule", name := "findCounterexampleOf", desc := "(LRiddlePress$Order;LRiddlePress$Clue;I)V" } : Jvm.MethodName) prog_6_method_5_code (7 : Nat) (Option.none : Option Jvm.ClassFile.FieldType)) ∈ ab_T := ab_w4 169 rfl rfl
theorem wd_4_170 : (Jvm.Cond.methodLink "RiddlePress$OwnRule" (65 : Nat) ({ cls := "RiddlePress$OwnRule", name := "personIn", desc := "(LRiddlePress$Clue;)I" } : Jvm.MethodName)) ∈ ab_T := ab_w4 170 rfl rfl
theorem wd_4_171 : (Jvm.Cond.methodLink "RiddlePress$OwnRule" (69 : Nat) ({ cls := "RiddlePress$Order", name := "placeOf", desc := "(I)I" } : Jvm.MethodName)) ∈ ab_T := ab_w4 171 rfl rfl
theorem wd_4_172 : (Jvm.Cond.methodLink "RiddlePress$OwnRule" (72 : Nat) ({ cls := "RiddlePress$Clue", name := "isFitBy", desc := "(LRiddlePress$Order;)Z" } : Jvm.MethodName)) ∈ ab_T := ab_w4 172 rfl rfl
theorem wd_4_173 : (Jvm.Cond.methodLink "RiddlePress$OwnRule" (76 : Nat) ({ cls := "RiddlePress$Order", name := "digits", desc := "()I" } : Jvm.MethodName)) ∈ ab_T := ab_w4 173 rfl rfl
theorem wd_4_174 : (Jvm.Cond.instanceMethod ({ cls := "RiddlePress$Order", name := "digits", desc := "()I" } : Jvm.MethodName)) ∈ ab_T := ab_w4 174 rfl rfl
theorem wd_4_175 : (Jvm.Cond.selects "RiddlePress$Order" ({ cls := "RiddlePress$Order", name := "digits", desc := "()I" } : Jvm.MethodName) ({ cls := "RiddlePress$Order", name := "digits", desc := "()I" } : Jvm.MethodName)) ∈ ab_T := ab_w4 175 rfl rfl
theorem wd_4_176 : (Jvm.Cond.code ({ cls := "RiddlePress$Order", name := "digits", desc := "()I" } : Jvm.MethodName) prog_5_method_5_code (3 : Nat) (Option.some Jvm.ClassFile.FieldType.int)) ∈ ab_T := ab_w4 176 rfl rfl
theorem wd_4_177 : (Jvm.Cond.methodLink "RiddlePress$OwnRule" (80 : Nat) ({ cls := "RiddlePress$Order", name := "goOn", desc := "()Z" } : Jvm.MethodName)) ∈ ab_T := ab_w4 177 rfl rfl
theorem wd_4_185 : (Jvm.Cond.methodLink "RiddlePress" (177 : Nat) ({ cls := "RiddlePress", name := "findOwnRule", desc := "(I)LRiddlePress$OwnRule;" } : Jvm.MethodName)) ∈ ab_T := ab_w4 185 rfl rfl
theorem wd_4_187 : (Jvm.Cond.instanceMethod ({ cls := "RiddlePress", name := "findOwnRule", desc := "(I)LRiddlePress$OwnRule;" } : Jvm.MethodName)) ∈ ab_T := ab_w4 187 rfl rfl
theorem wd_4_188 : (Jvm.Cond.code ({ cls := "RiddlePress", name := "findOwnRule", desc := "(I)LRiddlePress$OwnRule;" } : Jvm.MethodName) prog_1_method_34_code (3 : Nat) (Option.some (Jvm.ClassFile.FieldType.object "RiddlePress$OwnRule"))) ∈ ab_T := ab_w4 188 rfl rfl
theorem wd_4_206 : (Jvm.Cond.classLink "RiddlePress" (196 : Nat) "RiddlePress$Issue") ∈ ab_T := ab_w4 206 rfl rfl
theorem wd_4_207 : (Jvm.Cond.methodLink "RiddlePress" (198 : Nat) ({ cls := "RiddlePress", name := "isOnSaleBy", desc := "(LRiddlePress$Issue;I)Z" } : Jvm.MethodName)) ∈ ab_T := ab_w4 207 rfl rfl
theorem wd_4_209 : (Jvm.Cond.instanceMethod ({ cls := "RiddlePress", name := "isOnSaleBy", desc := "(LRiddlePress$Issue;I)Z" } : Jvm.MethodName)) ∈ ab_T := ab_w4 209 rfl rfl
theorem wd_4_210 : (Jvm.Cond.code ({ cls := "RiddlePress", name := "isOnSaleBy", desc := "(LRiddlePress$Issue;I)Z" } : Jvm.MethodName) prog_1_method_40_code (4 : Nat) (Option.some Jvm.ClassFile.FieldType.boolean)) ∈ ab_T := ab_w4 210 rfl rfl
theorem wd_4_211 : (Jvm.Cond.methodLink "RiddlePress" (206 : Nat) ({ cls := "RiddlePress", name := "payBack", desc := "(II)V" } : Jvm.MethodName)) ∈ ab_T := ab_w4 211 rfl rfl
theorem wd_4_213 : (Jvm.Cond.instanceMethod ({ cls := "RiddlePress", name := "payBack", desc := "(II)V" } : Jvm.MethodName)) ∈ ab_T := ab_w4 213 rfl rfl
theorem wd_4_214 : (Jvm.Cond.code ({ cls := "RiddlePress", name := "payBack", desc := "(II)V" } : Jvm.MethodName) prog_1_method_47_code (5 : Nat) (Option.none : Option Jvm.ClassFile.FieldType)) ∈ ab_T := ab_w4 214 rfl rfl
theorem wd_4_215 : (Jvm.Cond.classLink "RiddlePress" (250 : Nat) "RiddlePress$Customer") ∈ ab_T := ab_w4 215 rfl rfl
theorem wd_4_216 : (Jvm.Cond.methodLink "RiddlePress" (274 : Nat) ({ cls := "RiddlePress$Customer", name := "isOwnerOf", desc := "(I)Z" } : Jvm.MethodName)) ∈ ab_T := ab_w4 216 rfl rfl
theorem wd_4_217 : (Jvm.Cond.instanceMethod ({ cls := "RiddlePress$Customer", name := "isOwnerOf", desc := "(I)Z" } : Jvm.MethodName)) ∈ ab_T := ab_w4 217 rfl rfl
theorem wd_4_218 : (Jvm.Cond.selects "RiddlePress$Customer" ({ cls := "RiddlePress$Customer", name := "isOwnerOf", desc := "(I)Z" } : Jvm.MethodName) ({ cls := "RiddlePress$Customer", name := "isOwnerOf", desc := "(I)Z" } : Jvm.MethodName)) ∈ ab_T := ab_w4 218 rfl rfl
theorem wd_4_219 : (Jvm.Cond.code ({ cls := "RiddlePress$Customer", name := "isOwnerOf", desc := "(I)Z" } : Jvm.MethodName) prog_3_method_2_code (2 : Nat) (Option.some Jvm.ClassFile.FieldType.boolean)) ∈ ab_T := ab_w4 219 rfl rfl
theorem wd_4_220 : (Jvm.Cond.constant "RiddlePress" (263 : Nat) (2147483647 : Int32)) ∈ ab_T := ab_w4 220 rfl rfl
theorem wd_4_221 : (Jvm.Cond.methodLink "RiddlePress" (313 : Nat) ({ cls := "java/lang/Math", name := "min", desc := "(II)I" } : Jvm.MethodName)) ∈ ab_T := ab_w4 221 rfl rfl
theorem wd_4_222 : (Jvm.Cond.methodLink "RiddlePress" (210 : Nat) ({ cls := "RiddlePress", name := "takeBackRiddles", desc := "(LRiddlePress$Issue;I)V" } : Jvm.MethodName)) ∈ ab_T := ab_w4 222 rfl rfl
theorem wd_4_224 : (Jvm.Cond.instanceMethod ({ cls := "RiddlePress", name := "takeBackRiddles", desc := "(LRiddlePress$Issue;I)V" } : Jvm.MethodName)) ∈ ab_T := ab_w4 224 rfl rfl
theorem wd_4_225 : (Jvm.Cond.code ({ cls := "RiddlePress", name := "takeBackRiddles", desc := "(LRiddlePress$Issue;I)V" } : Jvm.MethodName) prog_1_method_41_code (5 : Nat) (Option.none : Option Jvm.ClassFile.FieldType)) ∈ ab_T := ab_w4 225 rfl rfl
theorem wd_4_226 : (Jvm.Cond.methodLink "RiddlePress" (214 : Nat) ({ cls := "RiddlePress", name := "loseProofsBy", desc := "(I)V" } : Jvm.MethodName)) ∈ ab_T := ab_w4 226 rfl rfl
theorem wd_4_228 : (Jvm.Cond.instanceMethod ({ cls := "RiddlePress", name := "loseProofsBy", desc := "(I)V" } : Jvm.MethodName)) ∈ ab_T := ab_w4 228 rfl rfl
theorem wd_4_229 : (Jvm.Cond.code ({ cls := "RiddlePress", name := "loseProofsBy", desc := "(I)V" } : Jvm.MethodName) prog_1_method_42_code (4 : Nat) (Option.none : Option Jvm.ClassFile.FieldType)) ∈ ab_T := ab_w4 229 rfl rfl
theorem wd_4_230 : (Jvm.Cond.methodLink "RiddlePress" (307 : Nat) ({ cls := "RiddlePress$Proof", name := "lose", desc := "()V" } : Jvm.MethodName)) ∈ ab_T := ab_w4 230 rfl rfl
theorem wd_4_239 : (Jvm.Cond.instantiable "RiddlePress$Issue" (2 : Nat)) ∈ ab_T := ab_w4 239 rfl rfl
theorem wd_5_0 : (Jvm.Cond.methodLink "RiddlePress" (219 : Nat) ({ cls := "RiddlePress$Issue", name := "<init>", desc := "()V" } : Jvm.MethodName)) ∈ ab_T := ab_w5 0 rfl rfl
theorem wd_5_1 : (Jvm.Cond.instanceMethod ({ cls := "RiddlePress$Issue", name := "<init>", desc := "()V" } : Jvm.MethodName)) ∈ ab_T := ab_w5 1 rfl rfl
theorem wd_5_2 : (Jvm.Cond.code ({ cls := "RiddlePress$Issue", name := "<init>", desc := "()V" } : Jvm.MethodName) prog_4_method_1_code (1 : Nat) (Option.none : Option Jvm.ClassFile.FieldType)) ∈ ab_T := ab_w5 2 rfl rfl
theorem wd_5_3 : (Jvm.Cond.methodLink "RiddlePress$Issue" (3 : Nat) ({ cls := "java/lang/Object", name := "<init>", desc := "()V" } : Jvm.MethodName)) ∈ ab_T := ab_w5 3 rfl rfl
theorem wd_5_4 : (Jvm.Cond.fieldLink "RiddlePress$Issue" (9 : Nat) "RiddlePress$Issue" "state" "C") ∈ ab_T := ab_w5 4 rfl rfl
theorem wd_5_5 : (Jvm.Cond.fieldLink "RiddlePress" (202 : Nat) "RiddlePress$Issue" "state" "C") ∈ ab_T := ab_w5 5 rfl rfl
theorem wd_5_6 : (Jvm.Cond.fieldLink "RiddlePress$Issue" (15 : Nat) "RiddlePress$Issue" "price" "I") ∈ ab_T := ab_w5 6 rfl rfl
theorem wd_5_7 : (Jvm.Cond.fieldLink "RiddlePress" (203 : Nat) "RiddlePress$Issue" "price" "I") ∈ ab_T := ab_w5 7 rfl rfl
theorem wd_5_8 : (Jvm.Cond.lays "RiddlePress$Issue" "RiddlePress$Issue" "state" "C") ∈ ab_T := ab_w5 8 rfl rfl
theorem wd_5_10 : (Jvm.Cond.lays "RiddlePress$Issue" "RiddlePress$Issue" "price" "I") ∈ ab_T := ab_w5 10 rfl rfl
theorem wd_5_20 : (Jvm.Cond.methodLink "RiddlePress" (220 : Nat) ({ cls := "RiddlePress", name := "findIssue", desc := "(I)LRiddlePress$Issue;" } : Jvm.MethodName)) ∈ ab_T := ab_w5 20 rfl rfl
theorem wd_5_22 : (Jvm.Cond.instanceMethod ({ cls := "RiddlePress", name := "findIssue", desc := "(I)LRiddlePress$Issue;" } : Jvm.MethodName)) ∈ ab_T := ab_w5 22 rfl rfl
theorem wd_5_23 : (Jvm.Cond.code ({ cls := "RiddlePress", name := "findIssue", desc := "(I)LRiddlePress$Issue;" } : Jvm.MethodName) prog_1_method_35_code (2 : Nat) (Option.some (Jvm.ClassFile.FieldType.object "RiddlePress$Issue"))) ∈ ab_T := ab_w5 23 rfl rfl
theorem wd_5_25 : (Jvm.Cond.methodLink "RiddlePress" (224 : Nat) ({ cls := "RiddlePress", name := "isReady", desc := "(LRiddlePress$Riddle;)Z" } : Jvm.MethodName)) ∈ ab_T := ab_w5 25 rfl rfl
theorem wd_5_26 : (Jvm.Cond.static ({ cls := "RiddlePress", name := "isReady", desc := "(LRiddlePress$Riddle;)Z" } : Jvm.MethodName)) ∈ ab_T := ab_w5 26 rfl rfl
theorem wd_5_27 : (Jvm.Cond.code ({ cls := "RiddlePress", name := "isReady", desc := "(LRiddlePress$Riddle;)Z" } : Jvm.MethodName) prog_1_method_39_code (1 : Nat) (Option.some Jvm.ClassFile.FieldType.boolean)) ∈ ab_T := ab_w5 27 rfl rfl
theorem wd_5_29 : (Jvm.Cond.methodLink "RiddlePress" (230 : Nat) ({ cls := "RiddlePress", name := "countRiddlesOf", desc := "(LRiddlePress$Issue;)I" } : Jvm.MethodName)) ∈ ab_T := ab_w5 29 rfl rfl
theorem wd_5_31 : (Jvm.Cond.instanceMethod ({ cls := "RiddlePress", name := "countRiddlesOf", desc := "(LRiddlePress$Issue;)I" } : Jvm.MethodName)) ∈ ab_T := ab_w5 31 rfl rfl
theorem wd_5_32 : (Jvm.Cond.code ({ cls := "RiddlePress", name := "countRiddlesOf", desc := "(LRiddlePress$Issue;)I" } : Jvm.MethodName) prog_1_method_38_code (4 : Nat) (Option.some Jvm.ClassFile.FieldType.int)) ∈ ab_T := ab_w5 32 rfl rfl
theorem wd_5_43 : (Jvm.Cond.methodLink "RiddlePress" (244 : Nat) ({ cls := "RiddlePress", name := "sellToSubscribers", desc := "(II)I" } : Jvm.MethodName)) ∈ ab_T := ab_w5 43 rfl rfl
theorem wd_5_45 : (Jvm.Cond.instanceMethod ({ cls := "RiddlePress", name := "sellToSubscribers", desc := "(II)I" } : Jvm.MethodName)) ∈ ab_T := ab_w5 45 rfl rfl
theorem wd_5_46 : (Jvm.Cond.code ({ cls := "RiddlePress", name := "sellToSubscribers", desc := "(II)I" } : Jvm.MethodName) prog_1_method_45_code (6 : Nat) (Option.some Jvm.ClassFile.FieldType.int)) ∈ ab_T := ab_w5 46 rfl rfl
theorem wd_5_47 : (Jvm.Cond.methodLink "RiddlePress" (279 : Nat) ({ cls := "RiddlePress", name := "sell", desc := "(LRiddlePress$Customer;II)V" } : Jvm.MethodName)) ∈ ab_T := ab_w5 47 rfl rfl
theorem wd_5_49 : (Jvm.Cond.instanceMethod ({ cls := "RiddlePress", name := "sell", desc := "(LRiddlePress$Customer;II)V" } : Jvm.MethodName)) ∈ ab_T := ab_w5 49 rfl rfl
theorem wd_5_50 : (Jvm.Cond.code ({ cls := "RiddlePress", name := "sell", desc := "(LRiddlePress$Customer;II)V" } : Jvm.MethodName) prog_1_method_46_code (4 : Nat) (Option.none : Option Jvm.ClassFile.FieldType)) ∈ ab_T := ab_w5 50 rfl rfl
theorem wd_5_51 : (Jvm.Cond.methodLink "RiddlePress" (310 : Nat) ({ cls := "RiddlePress$Customer", name := "addIssue", desc := "(I)V" } : Jvm.MethodName)) ∈ ab_T := ab_w5 51 rfl rfl
theorem wd_5_52 : (Jvm.Cond.instanceMethod ({ cls := "RiddlePress$Customer", name := "addIssue", desc := "(I)V" } : Jvm.MethodName)) ∈ ab_T := ab_w5 52 rfl rfl
theorem wd_5_53 : (Jvm.Cond.selects "RiddlePress$Customer" ({ cls := "RiddlePress$Customer", name := "addIssue", desc := "(I)V" } : Jvm.MethodName) ({ cls := "RiddlePress$Customer", name := "addIssue", desc := "(I)V" } : Jvm.MethodName)) ∈ ab_T := ab_w5 53 rfl rfl
theorem wd_5_54 : (Jvm.Cond.code ({ cls := "RiddlePress$Customer", name := "addIssue", desc := "(I)V" } : Jvm.MethodName) prog_3_method_3_code (2 : Nat) (Option.none : Option Jvm.ClassFile.FieldType)) ∈ ab_T := ab_w5 54 rfl rfl
theorem wd_5_77 : (Jvm.Cond.instantiable "RiddlePress$Customer" (3 : Nat)) ∈ ab_T := ab_w5 77 rfl rfl
theorem wd_5_78 : (Jvm.Cond.methodLink "RiddlePress" (252 : Nat) ({ cls := "RiddlePress$Customer", name := "<init>", desc := "()V" } : Jvm.MethodName)) ∈ ab_T := ab_w5 78 rfl rfl
theorem wd_5_79 : (Jvm.Cond.instanceMethod ({ cls := "RiddlePress$Customer", name := "<init>", desc := "()V" } : Jvm.MethodName)) ∈ ab_T := ab_w5 79 rfl rfl
theorem wd_5_80 : (Jvm.Cond.code ({ cls := "RiddlePress$Customer", name := "<init>", desc := "()V" } : Jvm.MethodName) prog_3_method_1_code (1 : Nat) (Option.none : Option Jvm.ClassFile.FieldType)) ∈ ab_T := ab_w5 80 rfl rfl
theorem wd_5_81 : (Jvm.Cond.methodLink "RiddlePress$Customer" (3 : Nat) ({ cls := "java/lang/Object", name := "<init>", desc := "()V" } : Jvm.MethodName)) ∈ ab_T := ab_w5 81 rfl rfl
theorem wd_5_82 : (Jvm.Cond.fieldLink "RiddlePress$Customer" (9 : Nat) "RiddlePress$Customer" "credits" "I") ∈ ab_T := ab_w5 82 rfl rfl
theorem wd_5_83 : (Jvm.Cond.fieldLink "RiddlePress" (260 : Nat) "RiddlePress$Customer" "credits" "I") ∈ ab_T := ab_w5 83 rfl rfl
theorem wd_5_84 : (Jvm.Cond.fieldLink "RiddlePress$Customer" (15 : Nat) "RiddlePress$Customer" "subscribed" "I") ∈ ab_T := ab_w5 84 rfl rfl
theorem wd_5_85 : (Jvm.Cond.fieldLink "RiddlePress" (271 : Nat) "RiddlePress$Customer" "subscribed" "I") ∈ ab_T := ab_w5 85 rfl rfl
theorem wd_5_86 : (Jvm.Cond.fieldLink "RiddlePress$Customer" (18 : Nat) "RiddlePress$Customer" "isOwner" "[Z") ∈ ab_T := ab_w5 86 rfl rfl
theorem wd_5_87 : (Jvm.Cond.lays "RiddlePress$Customer" "RiddlePress$Customer" "credits" "I") ∈ ab_T := ab_w5 87 rfl rfl
theorem wd_5_89 : (Jvm.Cond.lays "RiddlePress$Customer" "RiddlePress$Customer" "subscribed" "I") ∈ ab_T := ab_w5 89 rfl rfl
theorem wd_5_91 : (Jvm.Cond.laysFinal "RiddlePress$Customer" "RiddlePress$Customer" "isOwner" "[Z") ∈ ab_T := ab_w5 91 rfl rfl
theorem wd_5_94 : (Jvm.Cond.arrayClass Jvm.ClassFile.FieldType.boolean) ∈ ab_T := ab_w5 94 rfl rfl
theorem wd_5_116 : (Jvm.Cond.methodLink "RiddlePress" (253 : Nat) ({ cls := "RiddlePress", name := "findCustomer", desc := "(I)LRiddlePress$Customer;" } : Jvm.MethodName)) ∈ ab_T := ab_w5 116 rfl rfl
theorem wd_5_118 : (Jvm.Cond.instanceMethod ({ cls := "RiddlePress", name := "findCustomer", desc := "(I)LRiddlePress$Customer;" } : Jvm.MethodName)) ∈ ab_T := ab_w5 118 rfl rfl
theorem wd_5_119 : (Jvm.Cond.code ({ cls := "RiddlePress", name := "findCustomer", desc := "(I)LRiddlePress$Customer;" } : Jvm.MethodName) prog_1_method_36_code (2 : Nat) (Option.some (Jvm.ClassFile.FieldType.object "RiddlePress$Customer"))) ∈ ab_T := ab_w5 119 rfl rfl
theorem wd_5_121 : (Jvm.Cond.constant "RiddlePress" (257 : Nat) (2000000000 : Int32)) ∈ ab_T := ab_w5 121 rfl rfl
theorem wd_5_123 : (Jvm.Cond.classLink "RiddlePress" (264 : Nat) "java/lang/ArithmeticException") ∈ ab_T := ab_w5 123 rfl rfl
theorem wd_5_125 : (Jvm.Cond.methodLink "RiddlePress" (268 : Nat) ({ cls := "java/lang/ArithmeticException", name := "<init>", desc := "(Ljava/lang/String;)V" } : Jvm.MethodName)) ∈ ab_T := ab_w5 125 rfl rfl
theorem wd_5_164 : (Jvm.Cond.methodLink "RiddlePress" (286 : Nat) ({ cls := "java/util/List", name := "isEmpty", desc := "()Z" } : Jvm.MethodName)) ∈ ab_T := ab_w5 164 rfl rfl
theorem wd_5_167 : (Jvm.Cond.selects "java/util/ArrayList" ({ cls := "java/util/List", name := "isEmpty", desc := "()Z" } : Jvm.MethodName) ({ cls := "java/util/ArrayList", name := "isEmpty", desc := "()Z" } : Jvm.MethodName)) ∈ ab_T := ab_w5 167 rfl rfl
theorem wd_5_169 : (Jvm.Cond.instanceMethod ({ cls := "java/util/ArrayList", name := "isEmpty", desc := "()Z" } : Jvm.MethodName)) ∈ ab_T := ab_w5 169 rfl rfl
theorem wd_5_171 : (Jvm.Cond.code ({ cls := "java/util/ArrayList", name := "isEmpty", desc := "()Z" } : Jvm.MethodName) prog_37_method_9_code (1 : Nat) (Option.some Jvm.ClassFile.FieldType.boolean)) ∈ ab_T := ab_w5 171 rfl rfl
theorem wd_5_173 : (Jvm.Cond.methodLink "RiddlePress" (292 : Nat) ({ cls := "RiddlePress", name := "countWholeProofs", desc := "()I" } : Jvm.MethodName)) ∈ ab_T := ab_w5 173 rfl rfl
theorem wd_5_175 : (Jvm.Cond.instanceMethod ({ cls := "RiddlePress", name := "countWholeProofs", desc := "()I" } : Jvm.MethodName)) ∈ ab_T := ab_w5 175 rfl rfl
theorem wd_5_176 : (Jvm.Cond.code ({ cls := "RiddlePress", name := "countWholeProofs", desc := "()I" } : Jvm.MethodName) prog_1_method_44_code (3 : Nat) (Option.some Jvm.ClassFile.FieldType.int)) ∈ ab_T := ab_w5 176 rfl rfl
theorem wd_5_190 : (Jvm.Cond.methodLink "RiddlePressModel" (1 : Nat) ({ cls := "java/lang/Object", name := "<init>", desc := "()V" } : Jvm.MethodName)) ∈ ab_T := ab_w5 190 rfl rfl
theorem wd_5_191 : (Jvm.Cond.fieldLink "RiddlePressModel" (7 : Nat) "RiddlePressModel" "persons" "[I") ∈ ab_T := ab_w5 191 rfl rfl
theorem wd_5_192 : (Jvm.Cond.fieldLink "RiddlePressModel" (13 : Nat) "RiddlePressModel" "clues" "[I") ∈ ab_T := ab_w5 192 rfl rfl
theorem wd_5_193 : (Jvm.Cond.fieldLink "RiddlePressModel" (16 : Nat) "RiddlePressModel" "state" "[I") ∈ ab_T := ab_w5 193 rfl rfl
theorem wd_5_194 : (Jvm.Cond.fieldLink "RiddlePressModel" (19 : Nat) "RiddlePressModel" "proof" "[I") ∈ ab_T := ab_w5 194 rfl rfl
theorem wd_5_195 : (Jvm.Cond.fieldLink "RiddlePressModel" (22 : Nat) "RiddlePressModel" "steps" "[I") ∈ ab_T := ab_w5 195 rfl rfl
theorem wd_5_196 : (Jvm.Cond.fieldLink "RiddlePressModel" (25 : Nat) "RiddlePressModel" "issueOf" "[I") ∈ ab_T := ab_w5 196 rfl rfl
theorem wd_5_197 : (Jvm.Cond.fieldLink "RiddlePressModel" (28 : Nat) "RiddlePressModel" "kind" "[I") ∈ ab_T := ab_w5 197 rfl rfl
theorem wd_5_198 : (Jvm.Cond.fieldLink "RiddlePressModel" (31 : Nat) "RiddlePressModel" "ofA" "[I") ∈ ab_T := ab_w5 198 rfl rfl
theorem wd_5_199 : (Jvm.Cond.fieldLink "RiddlePressModel" (34 : Nat) "RiddlePressModel" "ofB" "[I") ∈ ab_T := ab_w5 199 rfl rfl
theorem wd_5_200 : (Jvm.Cond.fieldLink "RiddlePressModel" (37 : Nat) "RiddlePressModel" "ofC" "[I") ∈ ab_T := ab_w5 200 rfl rfl
theorem wd_5_201 : (Jvm.Cond.fieldLink "RiddlePressModel" (40 : Nat) "RiddlePressModel" "stepRule" "[I") ∈ ab_T := ab_w5 201 rfl rfl
theorem wd_5_202 : (Jvm.Cond.fieldLink "RiddlePressModel" (43 : Nat) "RiddlePressModel" "stepCause" "[I") ∈ ab_T := ab_w5 202 rfl rfl
theorem wd_5_203 : (Jvm.Cond.fieldLink "RiddlePressModel" (46 : Nat) "RiddlePressModel" "stepTaken" "[I") ∈ ab_T := ab_w5 203 rfl rfl
theorem wd_5_204 : (Jvm.Cond.fieldLink "RiddlePressModel" (49 : Nat) "RiddlePressModel" "ownKind" "[I") ∈ ab_T := ab_w5 204 rfl rfl
theorem wd_5_205 : (Jvm.Cond.fieldLink "RiddlePressModel" (52 : Nat) "RiddlePressModel" "ownPerson" "[I") ∈ ab_T := ab_w5 205 rfl rfl
theorem wd_5_206 : (Jvm.Cond.fieldLink "RiddlePressModel" (55 : Nat) "RiddlePressModel" "ownFirst" "[I") ∈ ab_T := ab_w5 206 rfl rfl
theorem wd_5_207 : (Jvm.Cond.fieldLink "RiddlePressModel" (58 : Nat) "RiddlePressModel" "ownMany" "[I") ∈ ab_T := ab_w5 207 rfl rfl
theorem wd_5_208 : (Jvm.Cond.fieldLink "RiddlePressModel" (61 : Nat) "RiddlePressModel" "fallen" "[I") ∈ ab_T := ab_w5 208 rfl rfl
theorem wd_5_209 : (Jvm.Cond.fieldLink "RiddlePressModel" (64 : Nat) "RiddlePressModel" "issueState" "[I") ∈ ab_T := ab_w5 209 rfl rfl
theorem wd_5_210 : (Jvm.Cond.fieldLink "RiddlePressModel" (67 : Nat) "RiddlePressModel" "riddlesIn" "[I") ∈ ab_T := ab_w5 210 rfl rfl
theorem wd_5_211 : (Jvm.Cond.fieldLink "RiddlePressModel" (70 : Nat) "RiddlePressModel" "price" "[I") ∈ ab_T := ab_w5 211 rfl rfl
theorem wd_5_212 : (Jvm.Cond.fieldLink "RiddlePressModel" (73 : Nat) "RiddlePressModel" "riddleAt" "[I") ∈ ab_T := ab_w5 212 rfl rfl
theorem wd_5_213 : (Jvm.Cond.fieldLink "RiddlePressModel" (76 : Nat) "RiddlePressModel" "credits" "[I") ∈ ab_T := ab_w5 213 rfl rfl
theorem wd_5_214 : (Jvm.Cond.fieldLink "RiddlePressModel" (79 : Nat) "RiddlePressModel" "subscribed" "[I") ∈ ab_T := ab_w5 214 rfl rfl
theorem wd_5_215 : (Jvm.Cond.fieldLink "RiddlePressModel" (82 : Nat) "RiddlePressModel" "owns" "[I") ∈ ab_T := ab_w5 215 rfl rfl
theorem wd_5_216 : (Jvm.Cond.fieldLink "RiddlePressModel" (85 : Nat) "RiddlePressModel" "may" "[I") ∈ ab_T := ab_w5 216 rfl rfl
theorem wd_5_217 : (Jvm.Cond.fieldLink "RiddlePressModel" (88 : Nat) "RiddlePressModel" "stand" "[I") ∈ ab_T := ab_w5 217 rfl rfl
theorem wd_5_218 : (Jvm.Cond.fieldLink "RiddlePressModel" (91 : Nat) "RiddlePressModel" "found" "[I") ∈ ab_T := ab_w5 218 rfl rfl
theorem wd_5_219 : (Jvm.Cond.fieldLink "RiddlePressModel" (260 : Nat) "RiddlePressModel" "press" "J") ∈ ab_T := ab_w5 219 rfl rfl
theorem wd_5_220 : (Jvm.Cond.fieldLink "RiddlePressModel" (94 : Nat) "RiddlePressModel" "thrown" "I") ∈ ab_T := ab_w5 220 rfl rfl
theorem wd_5_221 : (Jvm.Cond.fieldLink "RiddlePressModel" (200 : Nat) "RiddlePressModel" "riddles" "I") ∈ ab_T := ab_w5 221 rfl rfl
theorem wd_5_222 : (Jvm.Cond.fieldLink "RiddlePressModel" (156 : Nat) "RiddlePressModel" "rules" "I") ∈ ab_T := ab_w5 222 rfl rfl
theorem wd_5_223 : (Jvm.Cond.fieldLink "RiddlePressModel" (264 : Nat) "RiddlePressModel" "issues" "I") ∈ ab_T := ab_w5 223 rfl rfl
theorem wd_5_224 : (Jvm.Cond.fieldLink "RiddlePressModel" (254 : Nat) "RiddlePressModel" "customers" "I") ∈ ab_T := ab_w5 224 rfl rfl
theorem wd_5_225 : (Jvm.Cond.fieldLink "RiddlePressModel" (102 : Nat) "RiddlePressModel" "now" "I") ∈ ab_T := ab_w5 225 rfl rfl
theorem wd_5_226 : (Jvm.Cond.fieldLink "RiddlePressModel" (181 : Nat) "RiddlePressModel" "count" "I") ∈ ab_T := ab_w5 226 rfl rfl
theorem wd_5_227 : (Jvm.Cond.laysFinal "RiddlePressModel" "RiddlePressModel" "persons" "[I") ∈ ab_T := ab_w5 227 rfl rfl
theorem wd_5_229 : (Jvm.Cond.laysFinal "RiddlePressModel" "RiddlePressModel" "clues" "[I") ∈ ab_T := ab_w5 229 rfl rfl
theorem wd_5_231 : (Jvm.Cond.laysFinal "RiddlePressModel" "RiddlePressModel" "state" "[I") ∈ ab_T := ab_w5 231 rfl rfl
theorem wd_5_233 : (Jvm.Cond.laysFinal "RiddlePressModel" "RiddlePressModel" "proof" "[I") ∈ ab_T := ab_w5 233 rfl rfl
theorem wd_5_235 : (Jvm.Cond.laysFinal "RiddlePressModel" "RiddlePressModel" "steps" "[I") ∈ ab_T := ab_w5 235 rfl rfl
theorem wd_5_237 : (Jvm.Cond.laysFinal "RiddlePressModel" "RiddlePressModel" "issueOf" "[I") ∈ ab_T := ab_w5 237 rfl rfl
theorem wd_5_239 : (Jvm.Cond.laysFinal "RiddlePressModel" "RiddlePressModel" "kind" "[I") ∈ ab_T := ab_w5 239 rfl rfl
theorem wd_6_1 : (Jvm.Cond.laysFinal "RiddlePressModel" "RiddlePressModel" "ofA" "[I") ∈ ab_T := ab_w6 1 rfl rfl
theorem wd_6_3 : (Jvm.Cond.laysFinal "RiddlePressModel" "RiddlePressModel" "ofB" "[I") ∈ ab_T := ab_w6 3 rfl rfl
theorem wd_6_5 : (Jvm.Cond.laysFinal "RiddlePressModel" "RiddlePressModel" "ofC" "[I") ∈ ab_T := ab_w6 5 rfl rfl
theorem wd_6_7 : (Jvm.Cond.laysFinal "RiddlePressModel" "RiddlePressModel" "stepRule" "[I") ∈ ab_T := ab_w6 7 rfl rfl
theorem wd_6_9 : (Jvm.Cond.laysFinal "RiddlePressModel" "RiddlePressModel" "stepCause" "[I") ∈ ab_T := ab_w6 9 rfl rfl
theorem wd_6_11 : (Jvm.Cond.laysFinal "RiddlePressModel" "RiddlePressModel" "stepTaken" "[I") ∈ ab_T := ab_w6 11 rfl rfl
theorem wd_6_13 : (Jvm.Cond.laysFinal "RiddlePressModel" "RiddlePressModel" "ownKind" "[I") ∈ ab_T := ab_w6 13 rfl rfl
theorem wd_6_15 : (Jvm.Cond.laysFinal "RiddlePressModel" "RiddlePressModel" "ownPerson" "[I") ∈ ab_T := ab_w6 15 rfl rfl
theorem wd_6_17 : (Jvm.Cond.laysFinal "RiddlePressModel" "RiddlePressModel" "ownFirst" "[I") ∈ ab_T := ab_w6 17 rfl rfl
theorem wd_6_19 : (Jvm.Cond.laysFinal "RiddlePressModel" "RiddlePressModel" "ownMany" "[I") ∈ ab_T := ab_w6 19 rfl rfl
theorem wd_6_21 : (Jvm.Cond.laysFinal "RiddlePressModel" "RiddlePressModel" "fallen" "[I") ∈ ab_T := ab_w6 21 rfl rfl
theorem wd_6_23 : (Jvm.Cond.laysFinal "RiddlePressModel" "RiddlePressModel" "issueState" "[I") ∈ ab_T := ab_w6 23 rfl rfl
theorem wd_6_25 : (Jvm.Cond.laysFinal "RiddlePressModel" "RiddlePressModel" "riddlesIn" "[I") ∈ ab_T := ab_w6 25 rfl rfl
theorem wd_6_27 : (Jvm.Cond.laysFinal "RiddlePressModel" "RiddlePressModel" "price" "[I") ∈ ab_T := ab_w6 27 rfl rfl
theorem wd_6_29 : (Jvm.Cond.laysFinal "RiddlePressModel" "RiddlePressModel" "riddleAt" "[I") ∈ ab_T := ab_w6 29 rfl rfl
theorem wd_6_31 : (Jvm.Cond.laysFinal "RiddlePressModel" "RiddlePressModel" "credits" "[I") ∈ ab_T := ab_w6 31 rfl rfl
theorem wd_6_33 : (Jvm.Cond.laysFinal "RiddlePressModel" "RiddlePressModel" "subscribed" "[I") ∈ ab_T := ab_w6 33 rfl rfl
theorem wd_6_35 : (Jvm.Cond.laysFinal "RiddlePressModel" "RiddlePressModel" "owns" "[I") ∈ ab_T := ab_w6 35 rfl rfl
theorem wd_6_37 : (Jvm.Cond.laysFinal "RiddlePressModel" "RiddlePressModel" "may" "[I") ∈ ab_T := ab_w6 37 rfl rfl
theorem wd_6_39 : (Jvm.Cond.laysFinal "RiddlePressModel" "RiddlePressModel" "stand" "[I") ∈ ab_T := ab_w6 39 rfl rfl
theorem wd_6_41 : (Jvm.Cond.laysFinal "RiddlePressModel" "RiddlePressModel" "found" "[I") ∈ ab_T := ab_w6 41 rfl rfl
theorem wd_6_43 : (Jvm.Cond.lays "RiddlePressModel" "RiddlePressModel" "press" "J") ∈ ab_T := ab_w6 43 rfl rfl
theorem wd_6_45 : (Jvm.Cond.lays "RiddlePressModel" "RiddlePressModel" "thrown" "I") ∈ ab_T := ab_w6 45 rfl rfl
theorem wd_6_47 : (Jvm.Cond.lays "RiddlePressModel" "RiddlePressModel" "riddles" "I") ∈ ab_T := ab_w6 47 rfl rfl
theorem wd_6_49 : (Jvm.Cond.lays "RiddlePressModel" "RiddlePressModel" "rules" "I") ∈ ab_T := ab_w6 49 rfl rfl
theorem wd_6_51 : (Jvm.Cond.lays "RiddlePressModel" "RiddlePressModel" "issues" "I") ∈ ab_T := ab_w6 51 rfl rfl
theorem wd_6_53 : (Jvm.Cond.lays "RiddlePressModel" "RiddlePressModel" "customers" "I") ∈ ab_T := ab_w6 53 rfl rfl
theorem wd_6_55 : (Jvm.Cond.lays "RiddlePressModel" "RiddlePressModel" "now" "I") ∈ ab_T := ab_w6 55 rfl rfl
theorem wd_6_57 : (Jvm.Cond.lays "RiddlePressModel" "RiddlePressModel" "count" "I") ∈ ab_T := ab_w6 57 rfl rfl
theorem wd_6_68 : (Jvm.Cond.methodLink "RiddlePressModel" (203 : Nat) ({ cls := "RiddlePressModel", name := "in", desc := "(III)Z" } : Jvm.MethodName)) ∈ ab_T := ab_w6 68 rfl rfl
theorem wd_6_69 : (Jvm.Cond.static ({ cls := "RiddlePressModel", name := "in", desc := "(III)Z" } : Jvm.MethodName)) ∈ ab_T := ab_w6 69 rfl rfl
theorem wd_6_70 : (Jvm.Cond.code ({ cls := "RiddlePressModel", name := "in", desc := "(III)Z" } : Jvm.MethodName) prog_11_method_9_code (3 : Nat) (Option.some Jvm.ClassFile.FieldType.boolean)) ∈ ab_T := ab_w6 70 rfl rfl
theorem wd_6_71 : (Jvm.Cond.methodLink "RiddlePressModel" (206 : Nat) ({ cls := "RiddlePressModel", name := "fails", desc := "(I)I" } : Jvm.MethodName)) ∈ ab_T := ab_w6 71 rfl rfl
theorem wd_6_73 : (Jvm.Cond.instanceMethod ({ cls := "RiddlePressModel", name := "fails", desc := "(I)I" } : Jvm.MethodName)) ∈ ab_T := ab_w6 73 rfl rfl
theorem wd_6_74 : (Jvm.Cond.code ({ cls := "RiddlePressModel", name := "fails", desc := "(I)I" } : Jvm.MethodName) prog_11_method_3_code (2 : Nat) (Option.some Jvm.ClassFile.FieldType.int)) ∈ ab_T := ab_w6 74 rfl rfl
theorem wd_6_75 : (Jvm.Cond.methodLink "RiddlePressModel" (209 : Nat) ({ cls := "RiddlePressModel", name := "tell", desc := "(I)I" } : Jvm.MethodName)) ∈ ab_T := ab_w6 75 rfl rfl
theorem wd_6_77 : (Jvm.Cond.instanceMethod ({ cls := "RiddlePressModel", name := "tell", desc := "(I)I" } : Jvm.MethodName)) ∈ ab_T := ab_w6 77 rfl rfl
theorem wd_6_78 : (Jvm.Cond.code ({ cls := "RiddlePressModel", name := "tell", desc := "(I)I" } : Jvm.MethodName) prog_11_method_4_code (2 : Nat) (Option.some Jvm.ClassFile.FieldType.int)) ∈ ab_T := ab_w6 78 rfl rfl
theorem wd_6_83 : (Jvm.Cond.methodLink "RiddlePressModel" (212 : Nat) ({ cls := "RiddlePressModel", name := "isRiddle", desc := "(I)Z" } : Jvm.MethodName)) ∈ ab_T := ab_w6 83 rfl rfl
theorem wd_6_85 : (Jvm.Cond.instanceMethod ({ cls := "RiddlePressModel", name := "isRiddle", desc := "(I)Z" } : Jvm.MethodName)) ∈ ab_T := ab_w6 85 rfl rfl
theorem wd_6_86 : (Jvm.Cond.code ({ cls := "RiddlePressModel", name := "isRiddle", desc := "(I)Z" } : Jvm.MethodName) prog_11_method_41_code (2 : Nat) (Option.some Jvm.ClassFile.FieldType.boolean)) ∈ ab_T := ab_w6 86 rfl rfl
theorem wd_6_87 : (Jvm.Cond.methodLink "RiddlePressModel" (215 : Nat) ({ cls := "RiddlePressModel", name := "isClue", desc := "(IIIII)Z" } : Jvm.MethodName)) ∈ ab_T := ab_w6 87 rfl rfl
theorem wd_6_89 : (Jvm.Cond.instanceMethod ({ cls := "RiddlePressModel", name := "isClue", desc := "(IIIII)Z" } : Jvm.MethodName)) ∈ ab_T := ab_w6 89 rfl rfl
theorem wd_6_90 : (Jvm.Cond.code ({ cls := "RiddlePressModel", name := "isClue", desc := "(IIIII)Z" } : Jvm.MethodName) prog_11_method_43_code (7 : Nat) (Option.some Jvm.ClassFile.FieldType.boolean)) ∈ ab_T := ab_w6 90 rfl rfl
theorem wd_6_95 : (Jvm.Cond.methodLink "RiddlePressModel" (219 : Nat) ({ cls := "RiddlePressModel", name := "answersOf", desc := "(I)I" } : Jvm.MethodName)) ∈ ab_T := ab_w6 95 rfl rfl
theorem wd_6_97 : (Jvm.Cond.instanceMethod ({ cls := "RiddlePressModel", name := "answersOf", desc := "(I)I" } : Jvm.MethodName)) ∈ ab_T := ab_w6 97 rfl rfl
theorem wd_6_98 : (Jvm.Cond.code ({ cls := "RiddlePressModel", name := "answersOf", desc := "(I)I" } : Jvm.MethodName) prog_11_method_37_code (5 : Nat) (Option.some Jvm.ClassFile.FieldType.int)) ∈ ab_T := ab_w6 98 rfl rfl
theorem wd_6_99 : (Jvm.Cond.methodLink "RiddlePressModel" (184 : Nat) ({ cls := "RiddlePressModel", name := "begins", desc := "(I)V" } : Jvm.MethodName)) ∈ ab_T := ab_w6 99 rfl rfl
theorem wd_6_101 : (Jvm.Cond.instanceMethod ({ cls := "RiddlePressModel", name := "begins", desc := "(I)V" } : Jvm.MethodName)) ∈ ab_T := ab_w6 101 rfl rfl
theorem wd_6_102 : (Jvm.Cond.code ({ cls := "RiddlePressModel", name := "begins", desc := "(I)V" } : Jvm.MethodName) prog_11_method_33_code (3 : Nat) (Option.none : Option Jvm.ClassFile.FieldType)) ∈ ab_T := ab_w6 102 rfl rfl
theorem wd_6_103 : (Jvm.Cond.methodLink "RiddlePressModel" (188 : Nat) ({ cls := "RiddlePressModel", name := "fitsAll", desc := "()Z" } : Jvm.MethodName)) ∈ ab_T := ab_w6 103 rfl rfl
theorem wd_6_105 : (Jvm.Cond.instanceMethod ({ cls := "RiddlePressModel", name := "fitsAll", desc := "()Z" } : Jvm.MethodName)) ∈ ab_T := ab_w6 105 rfl rfl
theorem wd_6_106 : (Jvm.Cond.code ({ cls := "RiddlePressModel", name := "fitsAll", desc := "()Z" } : Jvm.MethodName) prog_11_method_36_code (3 : Nat) (Option.some Jvm.ClassFile.FieldType.boolean)) ∈ ab_T := ab_w6 106 rfl rfl
theorem wd_6_107 : (Jvm.Cond.methodLink "RiddlePressModel" (178 : Nat) ({ cls := "RiddlePressModel", name := "fits", desc := "(I)Z" } : Jvm.MethodName)) ∈ ab_T := ab_w6 107 rfl rfl
theorem wd_6_109 : (Jvm.Cond.instanceMethod ({ cls := "RiddlePressModel", name := "fits", desc := "(I)Z" } : Jvm.MethodName)) ∈ ab_T := ab_w6 109 rfl rfl
theorem wd_6_110 : (Jvm.Cond.code ({ cls := "RiddlePressModel", name := "fits", desc := "(I)Z" } : Jvm.MethodName) prog_11_method_32_code (4 : Nat) (Option.some Jvm.ClassFile.FieldType.boolean)) ∈ ab_T := ab_w6 110 rfl rfl
theorem wd_6_111 : (Jvm.Cond.methodLink "RiddlePressModel" (191 : Nat) ({ cls := "RiddlePressModel", name := "goesOn", desc := "(I)Z" } : Jvm.MethodName)) ∈ ab_T := ab_w6 111 rfl rfl
theorem wd_6_113 : (Jvm.Cond.instanceMethod ({ cls := "RiddlePressModel", name := "goesOn", desc := "(I)Z" } : Jvm.MethodName)) ∈ ab_T := ab_w6 113 rfl rfl
theorem wd_6_114 : (Jvm.Cond.code ({ cls := "RiddlePressModel", name := "goesOn", desc := "(I)Z" } : Jvm.MethodName) prog_11_method_34_code (6 : Nat) (Option.some Jvm.ClassFile.FieldType.boolean)) ∈ ab_T := ab_w6 114 rfl rfl
theorem wd_6_115 : (Jvm.Cond.methodLink "RiddlePressModel" (174 : Nat) ({ cls := "RiddlePressModel", name := "swaps", desc := "(II)V" } : Jvm.MethodName)) ∈ ab_T := ab_w6 115 rfl rfl
theorem wd_6_117 : (Jvm.Cond.instanceMethod ({ cls := "RiddlePressModel", name := "swaps", desc := "(II)V" } : Jvm.MethodName)) ∈ ab_T := ab_w6 117 rfl rfl
theorem wd_6_118 : (Jvm.Cond.code ({ cls := "RiddlePressModel", name := "swaps", desc := "(II)V" } : Jvm.MethodName) prog_11_method_35_code (4 : Nat) (Option.none : Option Jvm.ClassFile.FieldType)) ∈ ab_T := ab_w6 118 rfl rfl
theorem wd_6_127 : (Jvm.Cond.methodLink "RiddlePressModel" (222 : Nat) ({ cls := "RiddlePressModel", name := "noLetter", desc := "(I)C" } : Jvm.MethodName)) ∈ ab_T := ab_w6 127 rfl rfl
theorem wd_6_129 : (Jvm.Cond.instanceMethod ({ cls := "RiddlePressModel", name := "noLetter", desc := "(I)C" } : Jvm.MethodName)) ∈ ab_T := ab_w6 129 rfl rfl
theorem wd_6_130 : (Jvm.Cond.code ({ cls := "RiddlePressModel", name := "noLetter", desc := "(I)C" } : Jvm.MethodName) prog_11_method_8_code (2 : Nat) (Option.some Jvm.ClassFile.FieldType.char)) ∈ ab_T := ab_w6 130 rfl rfl
theorem wd_6_131 : (Jvm.Cond.methodLink "RiddlePressModel" (226 : Nat) ({ cls := "RiddlePressModel", name := "proves", desc := "(I)I" } : Jvm.MethodName)) ∈ ab_T := ab_w6 131 rfl rfl
theorem wd_6_133 : (Jvm.Cond.instanceMethod ({ cls := "RiddlePressModel", name := "proves", desc := "(I)I" } : Jvm.MethodName)) ∈ ab_T := ab_w6 133 rfl rfl
theorem wd_6_134 : (Jvm.Cond.code ({ cls := "RiddlePressModel", name := "proves", desc := "(I)I" } : Jvm.MethodName) prog_11_method_30_code (5 : Nat) (Option.some Jvm.ClassFile.FieldType.int)) ∈ ab_T := ab_w6 134 rfl rfl
theorem wd_6_135 : (Jvm.Cond.methodLink "RiddlePressModel" (163 : Nat) ({ cls := "RiddlePressModel", name := "all", desc := "()I" } : Jvm.MethodName)) ∈ ab_T := ab_w6 135 rfl rfl
theorem wd_6_137 : (Jvm.Cond.instanceMethod ({ cls := "RiddlePressModel", name := "all", desc := "()I" } : Jvm.MethodName)) ∈ ab_T := ab_w6 137 rfl rfl
theorem wd_6_138 : (Jvm.Cond.code ({ cls := "RiddlePressModel", name := "all", desc := "()I" } : Jvm.MethodName) prog_11_method_14_code (1 : Nat) (Option.some Jvm.ClassFile.FieldType.int)) ∈ ab_T := ab_w6 138 rfl rfl
theorem wd_6_139 : (Jvm.Cond.methodLink "RiddlePressModel" (167 : Nat) ({ cls := "RiddlePressModel", name := "isAnyDone", desc := "()Z" } : Jvm.MethodName)) ∈ ab_T := ab_w6 139 rfl rfl
theorem wd_6_141 : (Jvm.Cond.instanceMethod ({ cls := "RiddlePressModel", name := "isAnyDone", desc := "()Z" } : Jvm.MethodName)) ∈ ab_T := ab_w6 141 rfl rfl
theorem wd_6_142 : (Jvm.Cond.code ({ cls := "RiddlePressModel", name := "isAnyDone", desc := "()Z" } : Jvm.MethodName) prog_11_method_29_code (2 : Nat) (Option.some Jvm.ClassFile.FieldType.boolean)) ∈ ab_T := ab_w6 142 rfl rfl
theorem wd_6_143 : (Jvm.Cond.methodLink "RiddlePressModel" (159 : Nat) ({ cls := "RiddlePressModel", name := "isDone", desc := "(I)Z" } : Jvm.MethodName)) ∈ ab_T := ab_w6 143 rfl rfl
theorem wd_6_145 : (Jvm.Cond.instanceMethod ({ cls := "RiddlePressModel", name := "isDone", desc := "(I)Z" } : Jvm.MethodName)) ∈ ab_T := ab_w6 145 rfl rfl
theorem wd_6_146 : (Jvm.Cond.code ({ cls := "RiddlePressModel", name := "isDone", desc := "(I)Z" } : Jvm.MethodName) prog_11_method_28_code (4 : Nat) (Option.some Jvm.ClassFile.FieldType.boolean)) ∈ ab_T := ab_w6 146 rfl rfl
theorem wd_6_147 : (Jvm.Cond.methodLink "RiddlePressModel" (140 : Nat) ({ cls := "RiddlePressModel", name := "byClue", desc := "(II)I" } : Jvm.MethodName)) ∈ ab_T := ab_w6 147 rfl rfl
theorem wd_6_149 : (Jvm.Cond.instanceMethod ({ cls := "RiddlePressModel", name := "byClue", desc := "(II)I" } : Jvm.MethodName)) ∈ ab_T := ab_w6 149 rfl rfl
theorem wd_6_150 : (Jvm.Cond.code ({ cls := "RiddlePressModel", name := "byClue", desc := "(II)I" } : Jvm.MethodName) prog_11_method_22_code (5 : Nat) (Option.some Jvm.ClassFile.FieldType.int)) ∈ ab_T := ab_w6 150 rfl rfl
theorem wd_6_151 : (Jvm.Cond.methodLink "RiddlePressModel" (123 : Nat) ({ cls := "RiddlePressModel", name := "byOwn", desc := "(II)I" } : Jvm.MethodName)) ∈ ab_T := ab_w6 151 rfl rfl
theorem wd_6_153 : (Jvm.Cond.instanceMethod ({ cls := "RiddlePressModel", name := "byOwn", desc := "(II)I" } : Jvm.MethodName)) ∈ ab_T := ab_w6 153 rfl rfl
theorem wd_6_154 : (Jvm.Cond.code ({ cls := "RiddlePressModel", name := "byOwn", desc := "(II)I" } : Jvm.MethodName) prog_11_method_23_code (6 : Nat) (Option.some Jvm.ClassFile.FieldType.int)) ∈ ab_T := ab_w6 154 rfl rfl
theorem wd_6_155 : (Jvm.Cond.methodLink "RiddlePressModel" (113 : Nat) ({ cls := "RiddlePressModel", name := "takes", desc := "(II)I" } : Jvm.MethodName)) ∈ ab_T := ab_w6 155 rfl rfl
theorem wd_6_157 : (Jvm.Cond.instanceMethod ({ cls := "RiddlePressModel", name := "takes", desc := "(II)I" } : Jvm.MethodName)) ∈ ab_T := ab_w6 157 rfl rfl
theorem wd_6_158 : (Jvm.Cond.code ({ cls := "RiddlePressModel", name := "takes", desc := "(II)I" } : Jvm.MethodName) prog_11_method_15_code (4 : Nat) (Option.some Jvm.ClassFile.FieldType.int)) ∈ ab_T := ab_w6 158 rfl rfl
theorem wd_6_159 : (Jvm.Cond.methodLink "RiddlePressModel" (105 : Nat) ({ cls := "RiddlePressModel", name := "size", desc := "(I)I" } : Jvm.MethodName)) ∈ ab_T := ab_w6 159 rfl rfl
theorem wd_6_160 : (Jvm.Cond.static ({ cls := "RiddlePressModel", name := "size", desc := "(I)I" } : Jvm.MethodName)) ∈ ab_T := ab_w6 160 rfl rfl
theorem wd_6_161 : (Jvm.Cond.code ({ cls := "RiddlePressModel", name := "size", desc := "(I)I" } : Jvm.MethodName) prog_11_method_13_code (3 : Nat) (Option.some Jvm.ClassFile.FieldType.int)) ∈ ab_T := ab_w6 161 rfl rfl
theorem wd_6_162 : (Jvm.Cond.methodLink "RiddlePressModel" (126 : Nat) ({ cls := "RiddlePressModel", name := "kindOf", desc := "(I)I" } : Jvm.MethodName)) ∈ ab_T := ab_w6 162 rfl rfl
theorem wd_6_163 : (Jvm.Cond.static ({ cls := "RiddlePressModel", name := "kindOf", desc := "(I)I" } : Jvm.MethodName)) ∈ ab_T := ab_w6 163 rfl rfl
theorem wd_6_164 : (Jvm.Cond.code ({ cls := "RiddlePressModel", name := "kindOf", desc := "(I)I" } : Jvm.MethodName) prog_11_method_21_code (1 : Nat) (Option.some Jvm.ClassFile.FieldType.int)) ∈ ab_T := ab_w6 164 rfl rfl
theorem wd_6_165 : (Jvm.Cond.methodLink "RiddlePressModel" (129 : Nat) ({ cls := "RiddlePressModel", name := "before", desc := "(II)I" } : Jvm.MethodName)) ∈ ab_T := ab_w6 165 rfl rfl
theorem wd_6_167 : (Jvm.Cond.instanceMethod ({ cls := "RiddlePressModel", name := "before", desc := "(II)I" } : Jvm.MethodName)) ∈ ab_T := ab_w6 167 rfl rfl
theorem wd_6_168 : (Jvm.Cond.code ({ cls := "RiddlePressModel", name := "before", desc := "(II)I" } : Jvm.MethodName) prog_11_method_19_code (4 : Nat) (Option.some Jvm.ClassFile.FieldType.int)) ∈ ab_T := ab_w6 168 rfl rfl
theorem wd_6_169 : (Jvm.Cond.methodLink "RiddlePressModel" (117 : Nat) ({ cls := "RiddlePressModel", name := "highest", desc := "(I)I" } : Jvm.MethodName)) ∈ ab_T := ab_w6 169 rfl rfl
theorem wd_6_170 : (Jvm.Cond.static ({ cls := "RiddlePressModel", name := "highest", desc := "(I)I" } : Jvm.MethodName)) ∈ ab_T := ab_w6 170 rfl rfl
theorem wd_6_171 : (Jvm.Cond.code ({ cls := "RiddlePressModel", name := "highest", desc := "(I)I" } : Jvm.MethodName) prog_11_method_12_code (2 : Nat) (Option.some Jvm.ClassFile.FieldType.int)) ∈ ab_T := ab_w6 171 rfl rfl
theorem wd_6_172 : (Jvm.Cond.methodLink "RiddlePressModel" (98 : Nat) ({ cls := "RiddlePressModel", name := "isOn", desc := "(II)Z" } : Jvm.MethodName)) ∈ ab_T := ab_w6 172 rfl rfl
theorem wd_6_173 : (Jvm.Cond.static ({ cls := "RiddlePressModel", name := "isOn", desc := "(II)Z" } : Jvm.MethodName)) ∈ ab_T := ab_w6 173 rfl rfl
theorem wd_6_174 : (Jvm.Cond.code ({ cls := "RiddlePressModel", name := "isOn", desc := "(II)Z" } : Jvm.MethodName) prog_11_method_10_code (2 : Nat) (Option.some Jvm.ClassFile.FieldType.boolean)) ∈ ab_T := ab_w6 174 rfl rfl
theorem wd_6_175 : (Jvm.Cond.methodLink "RiddlePressModel" (120 : Nat) ({ cls := "RiddlePressModel", name := "lowest", desc := "(I)I" } : Jvm.MethodName)) ∈ ab_T := ab_w6 175 rfl rfl
theorem wd_6_176 : (Jvm.Cond.static ({ cls := "RiddlePressModel", name := "lowest", desc := "(I)I" } : Jvm.MethodName)) ∈ ab_T := ab_w6 176 rfl rfl
theorem wd_6_177 : (Jvm.Cond.code ({ cls := "RiddlePressModel", name := "lowest", desc := "(I)I" } : Jvm.MethodName) prog_11_method_11_code (2 : Nat) (Option.some Jvm.ClassFile.FieldType.int)) ∈ ab_T := ab_w6 177 rfl rfl
theorem wd_6_178 : (Jvm.Cond.methodLink "RiddlePressModel" (132 : Nat) ({ cls := "RiddlePressModel", name := "both", desc := "(IIIZZ)I" } : Jvm.MethodName)) ∈ ab_T := ab_w6 178 rfl rfl
theorem wd_6_180 : (Jvm.Cond.instanceMethod ({ cls := "RiddlePressModel", name := "both", desc := "(IIIZZ)I" } : Jvm.MethodName)) ∈ ab_T := ab_w6 180 rfl rfl
theorem wd_6_181 : (Jvm.Cond.code ({ cls := "RiddlePressModel", name := "both", desc := "(IIIZZ)I" } : Jvm.MethodName) prog_11_method_18_code (7 : Nat) (Option.some Jvm.ClassFile.FieldType.int)) ∈ ab_T := ab_w6 181 rfl rfl
theorem wd_6_182 : (Jvm.Cond.methodLink "RiddlePressModel" (109 : Nat) ({ cls := "RiddlePressModel", name := "near", desc := "(IIZZ)I" } : Jvm.MethodName)) ∈ ab_T := ab_w6 182 rfl rfl
theorem wd_6_183 : (Jvm.Cond.static ({ cls := "RiddlePressModel", name := "near", desc := "(IIZZ)I" } : Jvm.MethodName)) ∈ ab_T := ab_w6 183 rfl rfl
theorem wd_6_184 : (Jvm.Cond.code ({ cls := "RiddlePressModel", name := "near", desc := "(IIZZ)I" } : Jvm.MethodName) prog_11_method_17_code (4 : Nat) (Option.some Jvm.ClassFile.FieldType.int)) ∈ ab_T := ab_w6 184 rfl rfl
theorem wd_6_185 : (Jvm.Cond.methodLink "RiddlePressModel" (136 : Nat) ({ cls := "RiddlePressModel", name := "between", desc := "(III)I" } : Jvm.MethodName)) ∈ ab_T := ab_w6 185 rfl rfl
theorem wd_6_187 : (Jvm.Cond.instanceMethod ({ cls := "RiddlePressModel", name := "between", desc := "(III)I" } : Jvm.MethodName)) ∈ ab_T := ab_w6 187 rfl rfl
theorem wd_6_188 : (Jvm.Cond.code ({ cls := "RiddlePressModel", name := "between", desc := "(III)I" } : Jvm.MethodName) prog_11_method_20_code (8 : Nat) (Option.some Jvm.ClassFile.FieldType.int)) ∈ ab_T := ab_w6 188 rfl rfl
theorem wd_6_189 : (Jvm.Cond.methodLink "RiddlePressModel" (143 : Nat) ({ cls := "RiddlePressModel", name := "isStep", desc := "(III)Z" } : Jvm.MethodName)) ∈ ab_T := ab_w6 189 rfl rfl
theorem wd_6_191 : (Jvm.Cond.instanceMethod ({ cls := "RiddlePressModel", name := "isStep", desc := "(III)Z" } : Jvm.MethodName)) ∈ ab_T := ab_w6 191 rfl rfl
theorem wd_6_192 : (Jvm.Cond.code ({ cls := "RiddlePressModel", name := "isStep", desc := "(III)Z" } : Jvm.MethodName) prog_11_method_27_code (5 : Nat) (Option.some Jvm.ClassFile.FieldType.boolean)) ∈ ab_T := ab_w6 192 rfl rfl
theorem wd_6_193 : (Jvm.Cond.methodLink "RiddlePressModel" (147 : Nat) ({ cls := "RiddlePressModel", name := "byPair", desc := "(II)I" } : Jvm.MethodName)) ∈ ab_T := ab_w6 193 rfl rfl
theorem wd_6_195 : (Jvm.Cond.instanceMethod ({ cls := "RiddlePressModel", name := "byPair", desc := "(II)I" } : Jvm.MethodName)) ∈ ab_T := ab_w6 195 rfl rfl
theorem wd_6_196 : (Jvm.Cond.code ({ cls := "RiddlePressModel", name := "byPair", desc := "(II)I" } : Jvm.MethodName) prog_11_method_26_code (5 : Nat) (Option.some Jvm.ClassFile.FieldType.int)) ∈ ab_T := ab_w6 196 rfl rfl
theorem wd_6_197 : (Jvm.Cond.methodLink "RiddlePressModel" (150 : Nat) ({ cls := "RiddlePressModel", name := "byPerson", desc := "(I)I" } : Jvm.MethodName)) ∈ ab_T := ab_w6 197 rfl rfl
theorem wd_6_199 : (Jvm.Cond.instanceMethod ({ cls := "RiddlePressModel", name := "byPerson", desc := "(I)I" } : Jvm.MethodName)) ∈ ab_T := ab_w6 199 rfl rfl
theorem wd_6_200 : (Jvm.Cond.code ({ cls := "RiddlePressModel", name := "byPerson", desc := "(I)I" } : Jvm.MethodName) prog_11_method_24_code (4 : Nat) (Option.some Jvm.ClassFile.FieldType.int)) ∈ ab_T := ab_w6 200 rfl rfl
theorem wd_6_201 : (Jvm.Cond.methodLink "RiddlePressModel" (153 : Nat) ({ cls := "RiddlePressModel", name := "byPlace", desc := "(I)I" } : Jvm.MethodName)) ∈ ab_T := ab_w6 201 rfl rfl
theorem wd_6_203 : (Jvm.Cond.instanceMethod ({ cls := "RiddlePressModel", name := "byPlace", desc := "(I)I" } : Jvm.MethodName)) ∈ ab_T := ab_w6 203 rfl rfl
theorem wd_6_204 : (Jvm.Cond.code ({ cls := "RiddlePressModel", name := "byPlace", desc := "(I)I" } : Jvm.MethodName) prog_11_method_25_code (5 : Nat) (Option.some Jvm.ClassFile.FieldType.int)) ∈ ab_T := ab_w6 204 rfl rfl
theorem wd_6_205 : (Jvm.Cond.methodLink "RiddlePressModel" (171 : Nat) ({ cls := "RiddlePressModel", name := "isEmpty", desc := "()Z" } : Jvm.MethodName)) ∈ ab_T := ab_w6 205 rfl rfl
theorem wd_6_207 : (Jvm.Cond.instanceMethod ({ cls := "RiddlePressModel", name := "isEmpty", desc := "()Z" } : Jvm.MethodName)) ∈ ab_T := ab_w6 207 rfl rfl
theorem wd_6_208 : (Jvm.Cond.code ({ cls := "RiddlePressModel", name := "isEmpty", desc := "()Z" } : Jvm.MethodName) prog_11_method_16_code (3 : Nat) (Option.some Jvm.ClassFile.FieldType.boolean)) ∈ ab_T := ab_w6 208 rfl rfl
theorem wd_6_209 : (Jvm.Cond.methodLink "RiddlePressModel" (229 : Nat) ({ cls := "RiddlePressModel", name := "letter", desc := "(I)C" } : Jvm.MethodName)) ∈ ab_T := ab_w6 209 rfl rfl
theorem wd_6_211 : (Jvm.Cond.instanceMethod ({ cls := "RiddlePressModel", name := "letter", desc := "(I)C" } : Jvm.MethodName)) ∈ ab_T := ab_w6 211 rfl rfl
theorem wd_6_212 : (Jvm.Cond.code ({ cls := "RiddlePressModel", name := "letter", desc := "(I)C" } : Jvm.MethodName) prog_11_method_7_code (2 : Nat) (Option.some Jvm.ClassFile.FieldType.char)) ∈ ab_T := ab_w6 212 rfl rfl
theorem wd_6_221 : (Jvm.Cond.methodLink "RiddlePressModel" (232 : Nat) ({ cls := "RiddlePressModel", name := "stepOf", desc := "(II)I" } : Jvm.MethodName)) ∈ ab_T := ab_w6 221 rfl rfl
theorem wd_6_223 : (Jvm.Cond.instanceMethod ({ cls := "RiddlePressModel", name := "stepOf", desc := "(II)I" } : Jvm.MethodName)) ∈ ab_T := ab_w6 223 rfl rfl
theorem wd_6_224 : (Jvm.Cond.code ({ cls := "RiddlePressModel", name := "stepOf", desc := "(II)I" } : Jvm.MethodName) prog_11_method_49_code (3 : Nat) (Option.some Jvm.ClassFile.FieldType.int)) ∈ ab_T := ab_w6 224 rfl rfl
theorem wd_6_237 : (Jvm.Cond.methodLink "RiddlePressModel" (235 : Nat) ({ cls := "RiddlePressModel", name := "isRule", desc := "(I)Z" } : Jvm.MethodName)) ∈ ab_T := ab_w6 237 rfl rfl
theorem wd_6_239 : (Jvm.Cond.instanceMethod ({ cls := "RiddlePressModel", name := "isRule", desc := "(I)Z" } : Jvm.MethodName)) ∈ ab_T := ab_w6 239 rfl rfl
theorem wd_7_0 : (Jvm.Cond.code ({ cls := "RiddlePressModel", name := "isRule", desc := "(I)Z" } : Jvm.MethodName) prog_11_method_53_code (2 : Nat) (Option.some Jvm.ClassFile.FieldType.boolean)) ∈ ab_T := ab_w7 0 rfl rfl
theorem wd_7_1 : (Jvm.Cond.methodLink "RiddlePressModel" (238 : Nat) ({ cls := "RiddlePressModel", name := "leans", desc := "(II)Z" } : Jvm.MethodName)) ∈ ab_T := ab_w7 1 rfl rfl
theorem wd_7_3 : (Jvm.Cond.instanceMethod ({ cls := "RiddlePressModel", name := "leans", desc := "(II)Z" } : Jvm.MethodName)) ∈ ab_T := ab_w7 3 rfl rfl
theorem wd_7_4 : (Jvm.Cond.code ({ cls := "RiddlePressModel", name := "leans", desc := "(II)Z" } : Jvm.MethodName) prog_11_method_31_code (5 : Nat) (Option.some Jvm.ClassFile.FieldType.boolean)) ∈ ab_T := ab_w7 4 rfl rfl
theorem wd_7_5 : (Jvm.Cond.methodLink "RiddlePressModel" (241 : Nat) ({ cls := "RiddlePressModel", name := "tells", desc := "(Z)Z" } : Jvm.MethodName)) ∈ ab_T := ab_w7 5 rfl rfl
theorem wd_7_7 : (Jvm.Cond.instanceMethod ({ cls := "RiddlePressModel", name := "tells", desc := "(Z)Z" } : Jvm.MethodName)) ∈ ab_T := ab_w7 7 rfl rfl
theorem wd_7_8 : (Jvm.Cond.code ({ cls := "RiddlePressModel", name := "tells", desc := "(Z)Z" } : Jvm.MethodName) prog_11_method_6_code (2 : Nat) (Option.some Jvm.ClassFile.FieldType.boolean)) ∈ ab_T := ab_w7 8 rfl rfl
theorem wd_7_9 : (Jvm.Cond.methodLink "RiddlePressModel" (245 : Nat) ({ cls := "RiddlePressModel", name := "refuses", desc := "(I)Z" } : Jvm.MethodName)) ∈ ab_T := ab_w7 9 rfl rfl
theorem wd_7_11 : (Jvm.Cond.instanceMethod ({ cls := "RiddlePressModel", name := "refuses", desc := "(I)Z" } : Jvm.MethodName)) ∈ ab_T := ab_w7 11 rfl rfl
theorem wd_7_12 : (Jvm.Cond.code ({ cls := "RiddlePressModel", name := "refuses", desc := "(I)Z" } : Jvm.MethodName) prog_11_method_5_code (2 : Nat) (Option.some Jvm.ClassFile.FieldType.boolean)) ∈ ab_T := ab_w7 12 rfl rfl
theorem wd_7_29 : (Jvm.Cond.methodLink "RiddlePressModel" (248 : Nat) ({ cls := "RiddlePressModel", name := "isOwn", desc := "(I)Z" } : Jvm.MethodName)) ∈ ab_T := ab_w7 29 rfl rfl
theorem wd_7_31 : (Jvm.Cond.instanceMethod ({ cls := "RiddlePressModel", name := "isOwn", desc := "(I)Z" } : Jvm.MethodName)) ∈ ab_T := ab_w7 31 rfl rfl
theorem wd_7_32 : (Jvm.Cond.code ({ cls := "RiddlePressModel", name := "isOwn", desc := "(I)Z" } : Jvm.MethodName) prog_11_method_58_code (2 : Nat) (Option.some Jvm.ClassFile.FieldType.boolean)) ∈ ab_T := ab_w7 32 rfl rfl
theorem wd_7_33 : (Jvm.Cond.methodLink "RiddlePressModel" (251 : Nat) ({ cls := "RiddlePressModel", name := "leastAgainst", desc := "(I)I" } : Jvm.MethodName)) ∈ ab_T := ab_w7 33 rfl rfl
theorem wd_7_35 : (Jvm.Cond.instanceMethod ({ cls := "RiddlePressModel", name := "leastAgainst", desc := "(I)I" } : Jvm.MethodName)) ∈ ab_T := ab_w7 35 rfl rfl
theorem wd_7_36 : (Jvm.Cond.code ({ cls := "RiddlePressModel", name := "leastAgainst", desc := "(I)I" } : Jvm.MethodName) prog_11_method_40_code (4 : Nat) (Option.some Jvm.ClassFile.FieldType.int)) ∈ ab_T := ab_w7 36 rfl rfl
theorem wd_7_37 : (Jvm.Cond.methodLink "RiddlePressModel" (197 : Nat) ({ cls := "RiddlePressModel", name := "against", desc := "(II)I" } : Jvm.MethodName)) ∈ ab_T := ab_w7 37 rfl rfl
theorem wd_7_39 : (Jvm.Cond.instanceMethod ({ cls := "RiddlePressModel", name := "against", desc := "(II)I" } : Jvm.MethodName)) ∈ ab_T := ab_w7 39 rfl rfl
theorem wd_7_40 : (Jvm.Cond.code ({ cls := "RiddlePressModel", name := "against", desc := "(II)I" } : Jvm.MethodName) prog_11_method_39_code (6 : Nat) (Option.some Jvm.ClassFile.FieldType.int)) ∈ ab_T := ab_w7 40 rfl rfl
theorem wd_7_41 : (Jvm.Cond.methodLink "RiddlePressModel" (194 : Nat) ({ cls := "RiddlePressModel", name := "isAgainst", desc := "(II)Z" } : Jvm.MethodName)) ∈ ab_T := ab_w7 41 rfl rfl
theorem wd_7_43 : (Jvm.Cond.instanceMethod ({ cls := "RiddlePressModel", name := "isAgainst", desc := "(II)Z" } : Jvm.MethodName)) ∈ ab_T := ab_w7 43 rfl rfl
theorem wd_7_44 : (Jvm.Cond.code ({ cls := "RiddlePressModel", name := "isAgainst", desc := "(II)Z" } : Jvm.MethodName) prog_11_method_38_code (7 : Nat) (Option.some Jvm.ClassFile.FieldType.boolean)) ∈ ab_T := ab_w7 44 rfl rfl
theorem wd_7_49 : (Jvm.Cond.methodLink "RiddlePressModel" (267 : Nat) ({ cls := "RiddlePressModel", name := "leansIssue", desc := "(II)Z" } : Jvm.MethodName)) ∈ ab_T := ab_w7 49 rfl rfl
theorem wd_7_51 : (Jvm.Cond.instanceMethod ({ cls := "RiddlePressModel", name := "leansIssue", desc := "(II)Z" } : Jvm.MethodName)) ∈ ab_T := ab_w7 51 rfl rfl
theorem wd_7_52 : (Jvm.Cond.code ({ cls := "RiddlePressModel", name := "leansIssue", desc := "(II)Z" } : Jvm.MethodName) prog_11_method_60_code (5 : Nat) (Option.some Jvm.ClassFile.FieldType.boolean)) ∈ ab_T := ab_w7 52 rfl rfl
theorem wd_7_53 : (Jvm.Cond.methodLink "RiddlePressModel" (270 : Nat) ({ cls := "RiddlePressModel", name := "recalls", desc := "(II)V" } : Jvm.MethodName)) ∈ ab_T := ab_w7 53 rfl rfl
theorem wd_7_55 : (Jvm.Cond.instanceMethod ({ cls := "RiddlePressModel", name := "recalls", desc := "(II)V" } : Jvm.MethodName)) ∈ ab_T := ab_w7 55 rfl rfl
theorem wd_7_56 : (Jvm.Cond.code ({ cls := "RiddlePressModel", name := "recalls", desc := "(II)V" } : Jvm.MethodName) prog_11_method_61_code (5 : Nat) (Option.none : Option Jvm.ClassFile.FieldType)) ∈ ab_T := ab_w7 56 rfl rfl
theorem wd_7_57 : (Jvm.Cond.constantLong "RiddlePressModel" (257 : Nat) (2147483647 : Int64)) ∈ ab_T := ab_w7 57 rfl rfl
theorem wd_7_58 : (Jvm.Cond.constant "RiddlePressModel" (259 : Nat) (2147483647 : Int32)) ∈ ab_T := ab_w7 58 rfl rfl
theorem wd_7_59 : (Jvm.Cond.methodLink "RiddlePressModel" (273 : Nat) ({ cls := "RiddlePressModel", name := "takesOut", desc := "(I)V" } : Jvm.MethodName)) ∈ ab_T := ab_w7 59 rfl rfl
theorem wd_7_61 : (Jvm.Cond.instanceMethod ({ cls := "RiddlePressModel", name := "takesOut", desc := "(I)V" } : Jvm.MethodName)) ∈ ab_T := ab_w7 61 rfl rfl
theorem wd_7_62 : (Jvm.Cond.code ({ cls := "RiddlePressModel", name := "takesOut", desc := "(I)V" } : Jvm.MethodName) prog_11_method_62_code (6 : Nat) (Option.none : Option Jvm.ClassFile.FieldType)) ∈ ab_T := ab_w7 62 rfl rfl
theorem wd_7_71 : (Jvm.Cond.methodLink "RiddlePressModel" (276 : Nat) ({ cls := "RiddlePressModel", name := "isIssue", desc := "(I)Z" } : Jvm.MethodName)) ∈ ab_T := ab_w7 71 rfl rfl
theorem wd_7_73 : (Jvm.Cond.instanceMethod ({ cls := "RiddlePressModel", name := "isIssue", desc := "(I)Z" } : Jvm.MethodName)) ∈ ab_T := ab_w7 73 rfl rfl
theorem wd_7_74 : (Jvm.Cond.code ({ cls := "RiddlePressModel", name := "isIssue", desc := "(I)Z" } : Jvm.MethodName) prog_11_method_64_code (2 : Nat) (Option.some Jvm.ClassFile.FieldType.boolean)) ∈ ab_T := ab_w7 74 rfl rfl
theorem wd_7_79 : (Jvm.Cond.methodLink "RiddlePressModel" (279 : Nat) ({ cls := "RiddlePressModel", name := "gets", desc := "(II)V" } : Jvm.MethodName)) ∈ ab_T := ab_w7 79 rfl rfl
theorem wd_7_81 : (Jvm.Cond.instanceMethod ({ cls := "RiddlePressModel", name := "gets", desc := "(II)V" } : Jvm.MethodName)) ∈ ab_T := ab_w7 81 rfl rfl
theorem wd_7_82 : (Jvm.Cond.code ({ cls := "RiddlePressModel", name := "gets", desc := "(II)V" } : Jvm.MethodName) prog_11_method_67_code (3 : Nat) (Option.none : Option Jvm.ClassFile.FieldType)) ∈ ab_T := ab_w7 82 rfl rfl
theorem wd_7_99 : (Jvm.Cond.methodLink "RiddlePressModel" (282 : Nat) ({ cls := "RiddlePressModel", name := "isCustomer", desc := "(I)Z" } : Jvm.MethodName)) ∈ ab_T := ab_w7 99 rfl rfl
theorem wd_7_101 : (Jvm.Cond.instanceMethod ({ cls := "RiddlePressModel", name := "isCustomer", desc := "(I)Z" } : Jvm.MethodName)) ∈ ab_T := ab_w7 101 rfl rfl
theorem wd_7_102 : (Jvm.Cond.code ({ cls := "RiddlePressModel", name := "isCustomer", desc := "(I)Z" } : Jvm.MethodName) prog_11_method_71_code (2 : Nat) (Option.some Jvm.ClassFile.FieldType.boolean)) ∈ ab_T := ab_w7 102 rfl rfl
theorem wd_7_103 : (Jvm.Cond.constant "RiddlePressModel" (285 : Nat) (2000000000 : Int32)) ∈ ab_T := ab_w7 103 rfl rfl
theorem wd_7_128 : (Jvm.Cond.methodLink "RiddlePressModel" (286 : Nat) ({ cls := "RiddlePressModel", name := "leansOwn", desc := "(I)Z" } : Jvm.MethodName)) ∈ ab_T := ab_w7 128 rfl rfl
theorem wd_7_130 : (Jvm.Cond.instanceMethod ({ cls := "RiddlePressModel", name := "leansOwn", desc := "(I)Z" } : Jvm.MethodName)) ∈ ab_T := ab_w7 130 rfl rfl
theorem wd_7_131 : (Jvm.Cond.code ({ cls := "RiddlePressModel", name := "leansOwn", desc := "(I)Z" } : Jvm.MethodName) prog_11_method_79_code (4 : Nat) (Option.some Jvm.ClassFile.FieldType.boolean)) ∈ ab_T := ab_w7 131 rfl rfl
theorem wd_7_165 : (Jvm.Cond.selects "[Ljava/lang/Object;" ({ cls := "java/lang/Object", name := "getClass", desc := "()Ljava/lang/Class;" } : Jvm.MethodName) ({ cls := "java/lang/Object", name := "getClass", desc := "()Ljava/lang/Class;" } : Jvm.MethodName)) ∈ ab_T := ab_w7 165 rfl rfl
theorem wd_7_173 : (Jvm.Cond.fieldLink "java/lang/String" (15 : Nat) "java/lang/String" "coder" "B") ∈ ab_T := ab_w7 173 rfl rfl
theorem wd_7_174 : (Jvm.Cond.fieldLink "java/lang/String" (9 : Nat) "java/lang/String" "value" "[B") ∈ ab_T := ab_w7 174 rfl rfl
theorem in_Jx4a65c : ∀ w ∈ u_ws RJx4a65c TJx4a65c 3, w ∈ ab_T := by
  have h : ∀ w ∈ ([.lays "java/util/ArrayList" "java/util/AbstractList" "modCount" "I", .lays "java/util/ArrayList" "java/util/ArrayList" "elementData" "[Ljava/lang/Object;", .lays "java/util/ArrayList" "java/util/ArrayList" "size" "I"] : List Cond), w ∈ ab_T := List.forall_mem_cons.mpr ⟨wd_1_66, List.forall_mem_cons.mpr ⟨wd_1_62, List.forall_mem_cons.mpr ⟨wd_1_64, fun _ h => absurd h List.not_mem_nil⟩⟩⟩
  exact h
theorem in_X0 : ∀ w ∈ u_ws RX0 TX0 4, w ∈ ab_T := by
  have h : ∀ w ∈ ([.laysFinal "RiddlePress$Clue" "RiddlePress$Clue" "kind" "C", .laysFinal "RiddlePress$Clue" "RiddlePress$Clue" "a" "I", .laysFinal "RiddlePress$Clue" "RiddlePress$Clue" "b" "I", .laysFinal "RiddlePress$Clue" "RiddlePress$Clue" "c" "I"] : List Cond), w ∈ ab_T := List.forall_mem_cons.mpr ⟨wd_3_14, List.forall_mem_cons.mpr ⟨wd_3_16, List.forall_mem_cons.mpr ⟨wd_3_18, List.forall_mem_cons.mpr ⟨wd_3_20, fun _ h => absurd h List.not_mem_nil⟩⟩⟩⟩
  exact h
theorem in_X1 : ∀ w ∈ u_ws RX1 TX1 3, w ∈ ab_T := by
  have h : ∀ w ∈ ([.lays "RiddlePress$Customer" "RiddlePress$Customer" "credits" "I", .lays "RiddlePress$Customer" "RiddlePress$Customer" "subscribed" "I", .laysFinal "RiddlePress$Customer" "RiddlePress$Customer" "isOwner" "[Z"] : List Cond), w ∈ ab_T := List.forall_mem_cons.mpr ⟨wd_5_87, List.forall_mem_cons.mpr ⟨wd_5_89, List.forall_mem_cons.mpr ⟨wd_5_91, fun _ h => absurd h List.not_mem_nil⟩⟩⟩
  exact h
theorem in_X2 : ∀ w ∈ u_ws RX2 TX2 2, w ∈ ab_T := by
  have h : ∀ w ∈ ([.lays "RiddlePress$Issue" "RiddlePress$Issue" "state" "C", .lays "RiddlePress$Issue" "RiddlePress$Issue" "price" "I"] : List Cond), w ∈ ab_T := List.forall_mem_cons.mpr ⟨wd_5_8, List.forall_mem_cons.mpr ⟨wd_5_10, fun _ h => absurd h List.not_mem_nil⟩⟩
  exact h
theorem in_X3 : ∀ w ∈ u_ws RX3 TX3 1, w ∈ ab_T := by
  have h : ∀ w ∈ ([.laysFinal "RiddlePress$Order" "RiddlePress$Order" "places" "[I"] : List Cond), w ∈ ab_T := List.forall_mem_cons.mpr ⟨wd_1_143, fun _ h => absurd h List.not_mem_nil⟩
  exact h
theorem in_X4 : ∀ w ∈ u_ws RX4 TX4 6, w ∈ ab_T := by
  have h : ∀ w ∈ ([.laysFinal "RiddlePress$OwnRule" "RiddlePress$OwnRule" "kind" "C", .lays "RiddlePress$OwnRule" "RiddlePress$OwnRule" "isStanding" "Z", .lays "RiddlePress$OwnRule" "RiddlePress$OwnRule" "counterDigits" "I", .laysFinal "RiddlePress$OwnRule" "RiddlePress$OwnRule" "person" "C", .laysFinal "RiddlePress$OwnRule" "RiddlePress$OwnRule" "isFirst" "Z", .laysFinal "RiddlePress$OwnRule" "RiddlePress$OwnRule" "k" "I"] : List Cond), w ∈ ab_T := List.forall_mem_cons.mpr ⟨wd_4_144, List.forall_mem_cons.mpr ⟨wd_4_146, List.forall_mem_cons.mpr ⟨wd_4_148, List.forall_mem_cons.mpr ⟨wd_4_150, List.forall_mem_cons.mpr ⟨wd_4_152, List.forall_mem_cons.mpr ⟨wd_4_154, fun _ h => absurd h List.not_mem_nil⟩⟩⟩⟩⟩⟩
  exact h
theorem in_X5 : ∀ w ∈ u_ws RX5 TX5 1, w ∈ ab_T := by
  have h : ∀ w ∈ ([.laysFinal "RiddlePress$Places" "RiddlePress$Places" "sets" "[I"] : List Cond), w ∈ ab_T := List.forall_mem_cons.mpr ⟨wd_2_63, fun _ h => absurd h List.not_mem_nil⟩
  exact h
theorem in_X6 : ∀ w ∈ u_ws RX6 TX6 7, w ∈ ab_T := by
  have h : ∀ w ∈ ([.laysFinal "RiddlePress$Proof" "RiddlePress$Proof" "ruleOf" "[I", .laysFinal "RiddlePress$Proof" "RiddlePress$Proof" "causeOf" "[I", .laysFinal "RiddlePress$Proof" "RiddlePress$Proof" "takenBy" "[I", .lays "RiddlePress$Proof" "RiddlePress$Proof" "stepCount" "I", .lays "RiddlePress$Proof" "RiddlePress$Proof" "outcome" "C", .laysFinal "RiddlePress$Proof" "RiddlePress$Proof" "places" "LRiddlePress$Places;", .lays "RiddlePress$Proof" "RiddlePress$Proof" "rulesUsed" "I"] : List Cond), w ∈ ab_T := List.forall_mem_cons.mpr ⟨wd_2_78, List.forall_mem_cons.mpr ⟨wd_2_80, List.forall_mem_cons.mpr ⟨wd_2_82, List.forall_mem_cons.mpr ⟨wd_2_84, List.forall_mem_cons.mpr ⟨wd_2_86, List.forall_mem_cons.mpr ⟨wd_2_88, List.forall_mem_cons.mpr ⟨wd_2_90, fun _ h => absurd h List.not_mem_nil⟩⟩⟩⟩⟩⟩⟩
  exact h
theorem in_X7 : ∀ w ∈ u_ws RX7 TX7 7, w ∈ ab_T := by
  have h : ∀ w ∈ ([.laysFinal "RiddlePress$Riddle" "RiddlePress$Riddle" "persons" "I", .laysFinal "RiddlePress$Riddle" "RiddlePress$Riddle" "clues" "Ljava/util/List;", .laysFinal "RiddlePress$Riddle" "RiddlePress$Riddle" "proof" "LRiddlePress$Proof;", .laysFinal "RiddlePress$Riddle" "RiddlePress$Riddle" "firstAnswer" "[I", .lays "RiddlePress$Riddle" "RiddlePress$Riddle" "answerCount" "I", .lays "RiddlePress$Riddle" "RiddlePress$Riddle" "state" "C", .lays "RiddlePress$Riddle" "RiddlePress$Riddle" "issue" "LRiddlePress$Issue;"] : List Cond), w ∈ ab_T := List.forall_mem_cons.mpr ⟨wd_2_107, List.forall_mem_cons.mpr ⟨wd_2_109, List.forall_mem_cons.mpr ⟨wd_2_111, List.forall_mem_cons.mpr ⟨wd_2_113, List.forall_mem_cons.mpr ⟨wd_2_115, List.forall_mem_cons.mpr ⟨wd_2_117, List.forall_mem_cons.mpr ⟨wd_2_119, fun _ h => absurd h List.not_mem_nil⟩⟩⟩⟩⟩⟩⟩
  exact h
theorem in_X8 : ∀ w ∈ u_ws RX8 TX8 5, w ∈ ab_T := by
  have h : ∀ w ∈ ([.laysFinal "RiddlePress" "RiddlePress" "riddles" "Ljava/util/List;", .laysFinal "RiddlePress" "RiddlePress" "ownRules" "Ljava/util/List;", .laysFinal "RiddlePress" "RiddlePress" "issues" "Ljava/util/List;", .laysFinal "RiddlePress" "RiddlePress" "customers" "Ljava/util/List;", .lays "RiddlePress" "RiddlePress" "pressCredits" "J"] : List Cond), w ∈ ab_T := List.forall_mem_cons.mpr ⟨wd_1_74, List.forall_mem_cons.mpr ⟨wd_1_76, List.forall_mem_cons.mpr ⟨wd_1_78, List.forall_mem_cons.mpr ⟨wd_1_80, List.forall_mem_cons.mpr ⟨wd_1_82, fun _ h => absurd h List.not_mem_nil⟩⟩⟩⟩⟩
  exact h
theorem in_X9 : ∀ w ∈ u_ws RX9 TX9 36, w ∈ ab_T := by
  have h : ∀ w ∈ ([.laysFinal "RiddlePressModel" "RiddlePressModel" "persons" "[I", .laysFinal "RiddlePressModel" "RiddlePressModel" "clues" "[I", .laysFinal "RiddlePressModel" "RiddlePressModel" "state" "[I", .laysFinal "RiddlePressModel" "RiddlePressModel" "proof" "[I", .laysFinal "RiddlePressModel" "RiddlePressModel" "steps" "[I", .laysFinal "RiddlePressModel" "RiddlePressModel" "issueOf" "[I", .laysFinal "RiddlePressModel" "RiddlePressModel" "kind" "[I", .laysFinal "RiddlePressModel" "RiddlePressModel" "ofA" "[I", .laysFinal "RiddlePressModel" "RiddlePressModel" "ofB" "[I", .laysFinal "RiddlePressModel" "RiddlePressModel" "ofC" "[I", .laysFinal "RiddlePressModel" "RiddlePressModel" "stepRule" "[I", .laysFinal "RiddlePressModel" "RiddlePressModel" "stepCause" "[I", .laysFinal "RiddlePressModel" "RiddlePressModel" "stepTaken" "[I", .laysFinal "RiddlePressModel" "RiddlePressModel" "ownKind" "[I", .laysFinal "RiddlePressModel" "RiddlePressModel" "ownPerson" "[I", .laysFinal "RiddlePressModel" "RiddlePressModel" "ownFirst" "[I", .laysFinal "RiddlePressModel" "RiddlePressModel" "ownMany" "[I", .laysFinal "RiddlePressModel" "RiddlePressModel" "fallen" "[I", .laysFinal "RiddlePressModel" "RiddlePressModel" "issueState" "[I", .laysFinal "RiddlePressModel" "RiddlePressModel" "riddlesIn" "[I", .laysFinal "RiddlePressModel" "RiddlePressModel" "price" "[I", .laysFinal "RiddlePressModel" "RiddlePressModel" "riddleAt" "[I", .laysFinal "RiddlePressModel" "RiddlePressModel" "credits" "[I", .laysFinal "RiddlePressModel" "RiddlePressModel" "subscribed" "[I", .laysFinal "RiddlePressModel" "RiddlePressModel" "owns" "[I", .laysFinal "RiddlePressModel" "RiddlePressModel" "may" "[I", .laysFinal "RiddlePressModel" "RiddlePressModel" "stand" "[I", .laysFinal "RiddlePressModel" "RiddlePressModel" "found" "[I", .lays "RiddlePressModel" "RiddlePressModel" "press" "J", .lays "RiddlePressModel" "RiddlePressModel" "thrown" "I", .lays "RiddlePressModel" "RiddlePressModel" "riddles" "I", .lays "RiddlePressModel" "RiddlePressModel" "rules" "I", .lays "RiddlePressModel" "RiddlePressModel" "issues" "I", .lays "RiddlePressModel" "RiddlePressModel" "customers" "I", .lays "RiddlePressModel" "RiddlePressModel" "now" "I", .lays "RiddlePressModel" "RiddlePressModel" "count" "I"] : List Cond), w ∈ ab_T := List.forall_mem_cons.mpr ⟨wd_5_227, List.forall_mem_cons.mpr ⟨wd_5_229, List.forall_mem_cons.mpr ⟨wd_5_231, List.forall_mem_cons.mpr ⟨wd_5_233, List.forall_mem_cons.mpr ⟨wd_5_235, List.forall_mem_cons.mpr ⟨wd_5_237, List.forall_mem_cons.mpr ⟨wd_5_239, List.forall_mem_cons.mpr ⟨wd_6_1, List.forall_mem_cons.mpr ⟨wd_6_3, List.forall_mem_cons.mpr ⟨wd_6_5, List.forall_mem_cons.mpr ⟨wd_6_7, List.forall_mem_cons.mpr ⟨wd_6_9, List.forall_mem_cons.mpr ⟨wd_6_11, List.forall_mem_cons.mpr ⟨wd_6_13, List.forall_mem_cons.mpr ⟨wd_6_15, List.forall_mem_cons.mpr ⟨wd_6_17, List.forall_mem_cons.mpr ⟨wd_6_19, List.forall_mem_cons.mpr ⟨wd_6_21, List.forall_mem_cons.mpr ⟨wd_6_23, List.forall_mem_cons.mpr ⟨wd_6_25, List.forall_mem_cons.mpr ⟨wd_6_27, List.forall_mem_cons.mpr ⟨wd_6_29, List.forall_mem_cons.mpr ⟨wd_6_31, List.forall_mem_cons.mpr ⟨wd_6_33, List.forall_mem_cons.mpr ⟨wd_6_35, List.forall_mem_cons.mpr ⟨wd_6_37, List.forall_mem_cons.mpr ⟨wd_6_39, List.forall_mem_cons.mpr ⟨wd_6_41, List.forall_mem_cons.mpr ⟨wd_6_43, List.forall_mem_cons.mpr ⟨wd_6_45, List.forall_mem_cons.mpr ⟨wd_6_47, List.forall_mem_cons.mpr ⟨wd_6_49, List.forall_mem_cons.mpr ⟨wd_6_51, List.forall_mem_cons.mpr ⟨wd_6_53, List.forall_mem_cons.mpr ⟨wd_6_55, List.forall_mem_cons.mpr ⟨wd_6_57, fun _ h => absurd h List.not_mem_nil⟩⟩⟩⟩⟩⟩⟩⟩⟩⟩⟩⟩⟩⟩⟩⟩⟩⟩⟩⟩⟩⟩⟩⟩⟩⟩⟩⟩⟩⟩⟩⟩⟩⟩⟩⟩
  exact h
/-! the words of the throws -/
theorem nb_13_0 : decode prog_41_method_4_code 0 = .ok (.aload_n 0, 1) := by decide +kernel
theorem nb_13_1 : decode prog_41_method_4_code 1 = .ok (.aload_n 1, 1) := by decide +kernel
theorem nb_13_2 : decode prog_41_method_4_code 2 = .ok (.invokespecial 13, 3) := by decide +kernel
theorem nb_13_5 : decode prog_41_method_4_code 5 = .ok (.return_, 1) := by decide +kernel
def xb_ArithmeticException : List Cond := (Bundle.throwableAtoms ++ Bundle.throwableSAtoms ++ Bundle.chainSAtoms "java/lang/ArithmeticException" ["java/lang/RuntimeException", "java/lang/Exception"]) ++ [.instantiable "java/lang/ArithmeticException" 6, .castable "java/lang/ArithmeticException" "java/lang/ArithmeticException", .selects "java/lang/ArithmeticException" Bundle.tFill0 Bundle.tFill0, .selects "java/lang/ArithmeticException" Bundle.tFill Bundle.tFill, .lays "java/lang/ArithmeticException" Bundle.tN "cause" "Ljava/lang/Throwable;", .lays "java/lang/ArithmeticException" Bundle.tN "stackTrace" Bundle.steD, .lays "java/lang/ArithmeticException" Bundle.tN "suppressedExceptions" Bundle.listD, .lays "java/lang/ArithmeticException" Bundle.tN "detailMessage" "Ljava/lang/String;", .isRef (.static Bundle.tN "UNASSIGNED_STACK" Bundle.steD), .isRef (.static Bundle.tN "SUPPRESSED_SENTINEL" Bundle.listD), .fieldLink Bundle.tN 198 Bundle.tN "backtrace" "Ljava/lang/Object;", .lays Bundle.tN Bundle.tN "backtrace" "Ljava/lang/Object;", .lays "java/lang/ArithmeticException" Bundle.tN "backtrace" "Ljava/lang/Object;"]
theorem xs_ArithmeticException {own : String} {ic : Nat} {w : Cond} (h : w ∈ (vx_atS own ic "java/lang/ArithmeticException" ["java/lang/RuntimeException", "java/lang/Exception"])) : w = .methodLink own ic ⟨"java/lang/ArithmeticException", "<init>", "(Ljava/lang/String;)V"⟩ ∨ w ∈ xb_ArithmeticException.filter vx_no := by
  have h0 := List.mem_filter.mp h
  rcases List.mem_append.mp h0.1 with h1 | h1
  · exact Or.inr (List.mem_filter.mpr ⟨List.mem_append_left _ h1, h0.2⟩)
  · rcases List.mem_cons.mp h1 with h2 | h2
    · exact Or.inl h2
    · exact Or.inr (List.mem_filter.mpr ⟨List.mem_append_right _ h2, h0.2⟩)
theorem xd_ArithmeticException : ∀ w ∈ (xb_ArithmeticException.filter vx_no).filter goodWord, w ∈ lw_tbl := by decide +kernel
theorem xe_ArithmeticException : ∀ w ∈ (xb_ArithmeticException.filter vx_no).filter (fun w => !goodWord w), w ∈ (ab_casts.map (fun x => Cond.castable x.1 x.2)) ++ ab_decls.map Cond.declares := by decide +kernel
theorem xf_ArithmeticException : ∀ w ∈ xb_ArithmeticException.filter vx_no, vx_ot w = true := by decide +kernel
theorem xg_ArithmeticException {own : String} {ic : Nat} (w0 : Cond.methodLink own ic ⟨"java/lang/ArithmeticException", "<init>", "(Ljava/lang/String;)V"⟩ ∈ ab_T) : ∀ w ∈ (vx_atS own ic "java/lang/ArithmeticException" ["java/lang/RuntimeException", "java/lang/Exception"]).filter goodWord, w ∈ ab_T := by
  intro w hw
  obtain ⟨h1, h2⟩ := List.mem_filter.mp hw
  rcases xs_ArithmeticException h1 with h3 | h3
  · rw [h3]; exact w0
  · exact List.mem_filter.mpr ⟨xd_ArithmeticException w (List.mem_filter.mpr ⟨h3, h2⟩), h2⟩
theorem xn_ArithmeticException (own : String) (ic : Nat) : ∀ w ∈ (vx_atS own ic "java/lang/ArithmeticException" ["java/lang/RuntimeException", "java/lang/Exception"]).filter (fun w => !goodWord w), w ∈ (ab_casts.map (fun x => Cond.castable x.1 x.2)) ++ ab_decls.map Cond.declares := by
  intro w hw
  obtain ⟨h1, h2⟩ := List.mem_filter.mp hw
  rcases xs_ArithmeticException h1 with h3 | h3
  · rw [h3] at h2; cases h2
  · exact xe_ArithmeticException w (List.mem_filter.mpr ⟨h3, h2⟩)
theorem xo_ArithmeticException (own : String) (ik ic : Nat) : ∀ w ∈ Cond.classLink own ik "java/lang/ArithmeticException" :: Cond.initialized "java/lang/ArithmeticException" :: (vx_atS own ic "java/lang/ArithmeticException" ["java/lang/RuntimeException", "java/lang/Exception"]), vx_ot w = true := by
  intro w hw
  rcases List.mem_cons.mp hw with h | hw
  · rw [h]; rfl
  · rcases List.mem_cons.mp hw with h | hw
    · rw [h]; rfl
    · rcases xs_ArithmeticException hw with h3 | h3
      · rw [h3]; rfl
      · exact xf_ArithmeticException w h3
def xb_IllegalArgumentException : List Cond := (Bundle.throwableAtoms ++ Bundle.throwableSAtoms ++ Bundle.chainSAtoms "java/lang/IllegalArgumentException" ["java/lang/RuntimeException", "java/lang/Exception"]) ++ [.instantiable "java/lang/IllegalArgumentException" 6, .castable "java/lang/IllegalArgumentException" "java/lang/IllegalArgumentException", .selects "java/lang/IllegalArgumentException" Bundle.tFill0 Bundle.tFill0, .selects "java/lang/IllegalArgumentException" Bundle.tFill Bundle.tFill, .lays "java/lang/IllegalArgumentException" Bundle.tN "cause" "Ljava/lang/Throwable;", .lays "java/lang/IllegalArgumentException" Bundle.tN "stackTrace" Bundle.steD, .lays "java/lang/IllegalArgumentException" Bundle.tN "suppressedExceptions" Bundle.listD, .lays "java/lang/IllegalArgumentException" Bundle.tN "detailMessage" "Ljava/lang/String;", .isRef (.static Bundle.tN "UNASSIGNED_STACK" Bundle.steD), .isRef (.static Bundle.tN "SUPPRESSED_SENTINEL" Bundle.listD), .fieldLink Bundle.tN 198 Bundle.tN "backtrace" "Ljava/lang/Object;", .lays Bundle.tN Bundle.tN "backtrace" "Ljava/lang/Object;", .lays "java/lang/IllegalArgumentException" Bundle.tN "backtrace" "Ljava/lang/Object;"]
theorem xs_IllegalArgumentException {own : String} {ic : Nat} {w : Cond} (h : w ∈ (vx_atS own ic "java/lang/IllegalArgumentException" ["java/lang/RuntimeException", "java/lang/Exception"])) : w = .methodLink own ic ⟨"java/lang/IllegalArgumentException", "<init>", "(Ljava/lang/String;)V"⟩ ∨ w ∈ xb_IllegalArgumentException.filter vx_no := by
  have h0 := List.mem_filter.mp h
  rcases List.mem_append.mp h0.1 with h1 | h1
  · exact Or.inr (List.mem_filter.mpr ⟨List.mem_append_left _ h1, h0.2⟩)
  · rcases List.mem_cons.mp h1 with h2 | h2
    · exact Or.inl h2
    · exact Or.inr (List.mem_filter.mpr ⟨List.mem_append_right _ h2, h0.2⟩)
theorem xd_IllegalArgumentException : ∀ w ∈ (xb_IllegalArgumentException.filter vx_no).filter goodWord, w ∈ lw_tbl := by decide +kernel
theorem xe_IllegalArgumentException : ∀ w ∈ (xb_IllegalArgumentException.filter vx_no).filter (fun w => !goodWord w), w ∈ (ab_casts.map (fun x => Cond.castable x.1 x.2)) ++ ab_decls.map Cond.declares := by decide +kernel
theorem xf_IllegalArgumentException : ∀ w ∈ xb_IllegalArgumentException.filter vx_no, vx_ot w = true := by decide +kernel
theorem xg_IllegalArgumentException {own : String} {ic : Nat} (w0 : Cond.methodLink own ic ⟨"java/lang/IllegalArgumentException", "<init>", "(Ljava/lang/String;)V"⟩ ∈ ab_T) : ∀ w ∈ (vx_atS own ic "java/lang/IllegalArgumentException" ["java/lang/RuntimeException", "java/lang/Exception"]).filter goodWord, w ∈ ab_T := by
  intro w hw
  obtain ⟨h1, h2⟩ := List.mem_filter.mp hw
  rcases xs_IllegalArgumentException h1 with h3 | h3
  · rw [h3]; exact w0
  · exact List.mem_filter.mpr ⟨xd_IllegalArgumentException w (List.mem_filter.mpr ⟨h3, h2⟩), h2⟩
theorem xn_IllegalArgumentException (own : String) (ic : Nat) : ∀ w ∈ (vx_atS own ic "java/lang/IllegalArgumentException" ["java/lang/RuntimeException", "java/lang/Exception"]).filter (fun w => !goodWord w), w ∈ (ab_casts.map (fun x => Cond.castable x.1 x.2)) ++ ab_decls.map Cond.declares := by
  intro w hw
  obtain ⟨h1, h2⟩ := List.mem_filter.mp hw
  rcases xs_IllegalArgumentException h1 with h3 | h3
  · rw [h3] at h2; cases h2
  · exact xe_IllegalArgumentException w (List.mem_filter.mpr ⟨h3, h2⟩)
theorem xo_IllegalArgumentException (own : String) (ik ic : Nat) : ∀ w ∈ Cond.classLink own ik "java/lang/IllegalArgumentException" :: Cond.initialized "java/lang/IllegalArgumentException" :: (vx_atS own ic "java/lang/IllegalArgumentException" ["java/lang/RuntimeException", "java/lang/Exception"]), vx_ot w = true := by
  intro w hw
  rcases List.mem_cons.mp hw with h | hw
  · rw [h]; rfl
  · rcases List.mem_cons.mp hw with h | hw
    · rw [h]; rfl
    · rcases xs_IllegalArgumentException hw with h3 | h3
      · rw [h3]; rfl
      · exact xf_IllegalArgumentException w h3
def xb_IllegalStateException : List Cond := (Bundle.throwableAtoms ++ Bundle.throwableSAtoms ++ Bundle.chainSAtoms "java/lang/IllegalStateException" ["java/lang/RuntimeException", "java/lang/Exception"]) ++ [.instantiable "java/lang/IllegalStateException" 6, .castable "java/lang/IllegalStateException" "java/lang/IllegalStateException", .selects "java/lang/IllegalStateException" Bundle.tFill0 Bundle.tFill0, .selects "java/lang/IllegalStateException" Bundle.tFill Bundle.tFill, .lays "java/lang/IllegalStateException" Bundle.tN "cause" "Ljava/lang/Throwable;", .lays "java/lang/IllegalStateException" Bundle.tN "stackTrace" Bundle.steD, .lays "java/lang/IllegalStateException" Bundle.tN "suppressedExceptions" Bundle.listD, .lays "java/lang/IllegalStateException" Bundle.tN "detailMessage" "Ljava/lang/String;", .isRef (.static Bundle.tN "UNASSIGNED_STACK" Bundle.steD), .isRef (.static Bundle.tN "SUPPRESSED_SENTINEL" Bundle.listD), .fieldLink Bundle.tN 198 Bundle.tN "backtrace" "Ljava/lang/Object;", .lays Bundle.tN Bundle.tN "backtrace" "Ljava/lang/Object;", .lays "java/lang/IllegalStateException" Bundle.tN "backtrace" "Ljava/lang/Object;"]
theorem xs_IllegalStateException {own : String} {ic : Nat} {w : Cond} (h : w ∈ (vx_atS own ic "java/lang/IllegalStateException" ["java/lang/RuntimeException", "java/lang/Exception"])) : w = .methodLink own ic ⟨"java/lang/IllegalStateException", "<init>", "(Ljava/lang/String;)V"⟩ ∨ w ∈ xb_IllegalStateException.filter vx_no := by
  have h0 := List.mem_filter.mp h
  rcases List.mem_append.mp h0.1 with h1 | h1
  · exact Or.inr (List.mem_filter.mpr ⟨List.mem_append_left _ h1, h0.2⟩)
  · rcases List.mem_cons.mp h1 with h2 | h2
    · exact Or.inl h2
    · exact Or.inr (List.mem_filter.mpr ⟨List.mem_append_right _ h2, h0.2⟩)
theorem xd_IllegalStateException : ∀ w ∈ (xb_IllegalStateException.filter vx_no).filter goodWord, w ∈ lw_tbl := by decide +kernel
theorem xe_IllegalStateException : ∀ w ∈ (xb_IllegalStateException.filter vx_no).filter (fun w => !goodWord w), w ∈ (ab_casts.map (fun x => Cond.castable x.1 x.2)) ++ ab_decls.map Cond.declares := by decide +kernel
theorem xf_IllegalStateException : ∀ w ∈ xb_IllegalStateException.filter vx_no, vx_ot w = true := by decide +kernel
theorem xg_IllegalStateException {own : String} {ic : Nat} (w0 : Cond.methodLink own ic ⟨"java/lang/IllegalStateException", "<init>", "(Ljava/lang/String;)V"⟩ ∈ ab_T) : ∀ w ∈ (vx_atS own ic "java/lang/IllegalStateException" ["java/lang/RuntimeException", "java/lang/Exception"]).filter goodWord, w ∈ ab_T := by
  intro w hw
  obtain ⟨h1, h2⟩ := List.mem_filter.mp hw
  rcases xs_IllegalStateException h1 with h3 | h3
  · rw [h3]; exact w0
  · exact List.mem_filter.mpr ⟨xd_IllegalStateException w (List.mem_filter.mpr ⟨h3, h2⟩), h2⟩
theorem xn_IllegalStateException (own : String) (ic : Nat) : ∀ w ∈ (vx_atS own ic "java/lang/IllegalStateException" ["java/lang/RuntimeException", "java/lang/Exception"]).filter (fun w => !goodWord w), w ∈ (ab_casts.map (fun x => Cond.castable x.1 x.2)) ++ ab_decls.map Cond.declares := by
  intro w hw
  obtain ⟨h1, h2⟩ := List.mem_filter.mp hw
  rcases xs_IllegalStateException h1 with h3 | h3
  · rw [h3] at h2; cases h2
  · exact xe_IllegalStateException w (List.mem_filter.mpr ⟨h3, h2⟩)
theorem xo_IllegalStateException (own : String) (ik ic : Nat) : ∀ w ∈ Cond.classLink own ik "java/lang/IllegalStateException" :: Cond.initialized "java/lang/IllegalStateException" :: (vx_atS own ic "java/lang/IllegalStateException" ["java/lang/RuntimeException", "java/lang/Exception"]), vx_ot w = true := by
  intro w hw
  rcases List.mem_cons.mp hw with h | hw
  · rw [h]; rfl
  · rcases List.mem_cons.mp hw with h | hw
    · rw [h]; rfl
    · rcases xs_IllegalStateException hw with h3 | h3
      · rw [h3]; rfl
      · exact xf_IllegalStateException w h3
def xb_IndexOutOfBoundsException : List Cond := (Bundle.throwableAtoms ++ Bundle.throwableSAtoms ++ Bundle.chainSAtoms "java/lang/IndexOutOfBoundsException" ["java/lang/RuntimeException", "java/lang/Exception"]) ++ [.instantiable "java/lang/IndexOutOfBoundsException" 6, .castable "java/lang/IndexOutOfBoundsException" "java/lang/IndexOutOfBoundsException", .selects "java/lang/IndexOutOfBoundsException" Bundle.tFill0 Bundle.tFill0, .selects "java/lang/IndexOutOfBoundsException" Bundle.tFill Bundle.tFill, .lays "java/lang/IndexOutOfBoundsException" Bundle.tN "cause" "Ljava/lang/Throwable;", .lays "java/lang/IndexOutOfBoundsException" Bundle.tN "stackTrace" Bundle.steD, .lays "java/lang/IndexOutOfBoundsException" Bundle.tN "suppressedExceptions" Bundle.listD, .lays "java/lang/IndexOutOfBoundsException" Bundle.tN "detailMessage" "Ljava/lang/String;", .isRef (.static Bundle.tN "UNASSIGNED_STACK" Bundle.steD), .isRef (.static Bundle.tN "SUPPRESSED_SENTINEL" Bundle.listD), .fieldLink Bundle.tN 198 Bundle.tN "backtrace" "Ljava/lang/Object;", .lays Bundle.tN Bundle.tN "backtrace" "Ljava/lang/Object;", .lays "java/lang/IndexOutOfBoundsException" Bundle.tN "backtrace" "Ljava/lang/Object;"]
theorem xs_IndexOutOfBoundsException {own : String} {ic : Nat} {w : Cond} (h : w ∈ (vx_atS own ic "java/lang/IndexOutOfBoundsException" ["java/lang/RuntimeException", "java/lang/Exception"])) : w = .methodLink own ic ⟨"java/lang/IndexOutOfBoundsException", "<init>", "(Ljava/lang/String;)V"⟩ ∨ w ∈ xb_IndexOutOfBoundsException.filter vx_no := by
  have h0 := List.mem_filter.mp h
  rcases List.mem_append.mp h0.1 with h1 | h1
  · exact Or.inr (List.mem_filter.mpr ⟨List.mem_append_left _ h1, h0.2⟩)
  · rcases List.mem_cons.mp h1 with h2 | h2
    · exact Or.inl h2
    · exact Or.inr (List.mem_filter.mpr ⟨List.mem_append_right _ h2, h0.2⟩)
theorem xd_IndexOutOfBoundsException : ∀ w ∈ (xb_IndexOutOfBoundsException.filter vx_no).filter goodWord, w ∈ lw_tbl := by decide +kernel
theorem xe_IndexOutOfBoundsException : ∀ w ∈ (xb_IndexOutOfBoundsException.filter vx_no).filter (fun w => !goodWord w), w ∈ (ab_casts.map (fun x => Cond.castable x.1 x.2)) ++ ab_decls.map Cond.declares := by decide +kernel
theorem xf_IndexOutOfBoundsException : ∀ w ∈ xb_IndexOutOfBoundsException.filter vx_no, vx_ot w = true := by decide +kernel
theorem xg_IndexOutOfBoundsException {own : String} {ic : Nat} (w0 : Cond.methodLink own ic ⟨"java/lang/IndexOutOfBoundsException", "<init>", "(Ljava/lang/String;)V"⟩ ∈ ab_T) : ∀ w ∈ (vx_atS own ic "java/lang/IndexOutOfBoundsException" ["java/lang/RuntimeException", "java/lang/Exception"]).filter goodWord, w ∈ ab_T := by
  intro w hw
  obtain ⟨h1, h2⟩ := List.mem_filter.mp hw
  rcases xs_IndexOutOfBoundsException h1 with h3 | h3
  · rw [h3]; exact w0
  · exact List.mem_filter.mpr ⟨xd_IndexOutOfBoundsException w (List.mem_filter.mpr ⟨h3, h2⟩), h2⟩
theorem xn_IndexOutOfBoundsException (own : String) (ic : Nat) : ∀ w ∈ (vx_atS own ic "java/lang/IndexOutOfBoundsException" ["java/lang/RuntimeException", "java/lang/Exception"]).filter (fun w => !goodWord w), w ∈ (ab_casts.map (fun x => Cond.castable x.1 x.2)) ++ ab_decls.map Cond.declares := by
  intro w hw
  obtain ⟨h1, h2⟩ := List.mem_filter.mp hw
  rcases xs_IndexOutOfBoundsException h1 with h3 | h3
  · rw [h3] at h2; cases h2
  · exact xe_IndexOutOfBoundsException w (List.mem_filter.mpr ⟨h3, h2⟩)
theorem xo_IndexOutOfBoundsException (own : String) (ik ic : Nat) : ∀ w ∈ Cond.classLink own ik "java/lang/IndexOutOfBoundsException" :: Cond.initialized "java/lang/IndexOutOfBoundsException" :: (vx_atS own ic "java/lang/IndexOutOfBoundsException" ["java/lang/RuntimeException", "java/lang/Exception"]), vx_ot w = true := by
  intro w hw
  rcases List.mem_cons.mp hw with h | hw
  · rw [h]; rfl
  · rcases List.mem_cons.mp hw with h | hw
    · rw [h]; rfl
    · rcases xs_IndexOutOfBoundsException hw with h3 | h3
      · rw [h3]; rfl
      · exact xf_IndexOutOfBoundsException w h3
def xb_UnsupportedOperationException : List Cond := (Bundle.throwableAtoms ++ Bundle.throwableSAtoms ++ Bundle.chainSAtoms "java/lang/UnsupportedOperationException" ["java/lang/RuntimeException", "java/lang/Exception"]) ++ [.instantiable "java/lang/UnsupportedOperationException" 6, .castable "java/lang/UnsupportedOperationException" "java/lang/UnsupportedOperationException", .selects "java/lang/UnsupportedOperationException" Bundle.tFill0 Bundle.tFill0, .selects "java/lang/UnsupportedOperationException" Bundle.tFill Bundle.tFill, .lays "java/lang/UnsupportedOperationException" Bundle.tN "cause" "Ljava/lang/Throwable;", .lays "java/lang/UnsupportedOperationException" Bundle.tN "stackTrace" Bundle.steD, .lays "java/lang/UnsupportedOperationException" Bundle.tN "suppressedExceptions" Bundle.listD, .lays "java/lang/UnsupportedOperationException" Bundle.tN "detailMessage" "Ljava/lang/String;", .isRef (.static Bundle.tN "UNASSIGNED_STACK" Bundle.steD), .isRef (.static Bundle.tN "SUPPRESSED_SENTINEL" Bundle.listD), .fieldLink Bundle.tN 198 Bundle.tN "backtrace" "Ljava/lang/Object;", .lays Bundle.tN Bundle.tN "backtrace" "Ljava/lang/Object;", .lays "java/lang/UnsupportedOperationException" Bundle.tN "backtrace" "Ljava/lang/Object;"]
theorem xs_UnsupportedOperationException {own : String} {ic : Nat} {w : Cond} (h : w ∈ (vx_atS own ic "java/lang/UnsupportedOperationException" ["java/lang/RuntimeException", "java/lang/Exception"])) : w = .methodLink own ic ⟨"java/lang/UnsupportedOperationException", "<init>", "(Ljava/lang/String;)V"⟩ ∨ w ∈ xb_UnsupportedOperationException.filter vx_no := by
  have h0 := List.mem_filter.mp h
  rcases List.mem_append.mp h0.1 with h1 | h1
  · exact Or.inr (List.mem_filter.mpr ⟨List.mem_append_left _ h1, h0.2⟩)
  · rcases List.mem_cons.mp h1 with h2 | h2
    · exact Or.inl h2
    · exact Or.inr (List.mem_filter.mpr ⟨List.mem_append_right _ h2, h0.2⟩)
theorem xd_UnsupportedOperationException : ∀ w ∈ (xb_UnsupportedOperationException.filter vx_no).filter goodWord, w ∈ lw_tbl := by decide +kernel
theorem xe_UnsupportedOperationException : ∀ w ∈ (xb_UnsupportedOperationException.filter vx_no).filter (fun w => !goodWord w), w ∈ (ab_casts.map (fun x => Cond.castable x.1 x.2)) ++ ab_decls.map Cond.declares := by decide +kernel
theorem xf_UnsupportedOperationException : ∀ w ∈ xb_UnsupportedOperationException.filter vx_no, vx_ot w = true := by decide +kernel
theorem xg_UnsupportedOperationException {own : String} {ic : Nat} (w0 : Cond.methodLink own ic ⟨"java/lang/UnsupportedOperationException", "<init>", "(Ljava/lang/String;)V"⟩ ∈ ab_T) : ∀ w ∈ (vx_atS own ic "java/lang/UnsupportedOperationException" ["java/lang/RuntimeException", "java/lang/Exception"]).filter goodWord, w ∈ ab_T := by
  intro w hw
  obtain ⟨h1, h2⟩ := List.mem_filter.mp hw
  rcases xs_UnsupportedOperationException h1 with h3 | h3
  · rw [h3]; exact w0
  · exact List.mem_filter.mpr ⟨xd_UnsupportedOperationException w (List.mem_filter.mpr ⟨h3, h2⟩), h2⟩
theorem xn_UnsupportedOperationException (own : String) (ic : Nat) : ∀ w ∈ (vx_atS own ic "java/lang/UnsupportedOperationException" ["java/lang/RuntimeException", "java/lang/Exception"]).filter (fun w => !goodWord w), w ∈ (ab_casts.map (fun x => Cond.castable x.1 x.2)) ++ ab_decls.map Cond.declares := by
  intro w hw
  obtain ⟨h1, h2⟩ := List.mem_filter.mp hw
  rcases xs_UnsupportedOperationException h1 with h3 | h3
  · rw [h3] at h2; cases h2
  · exact xe_UnsupportedOperationException w (List.mem_filter.mpr ⟨h3, h2⟩)
theorem xo_UnsupportedOperationException (own : String) (ik ic : Nat) : ∀ w ∈ Cond.classLink own ik "java/lang/UnsupportedOperationException" :: Cond.initialized "java/lang/UnsupportedOperationException" :: (vx_atS own ic "java/lang/UnsupportedOperationException" ["java/lang/RuntimeException", "java/lang/Exception"]), vx_ot w = true := by
  intro w hw
  rcases List.mem_cons.mp hw with h | hw
  · rw [h]; rfl
  · rcases List.mem_cons.mp hw with h | hw
    · rw [h]; rfl
    · rcases xs_UnsupportedOperationException hw with h3 | h3
      · rw [h3]; rfl
      · exact xf_UnsupportedOperationException w h3
def xb_NoSuchElementException : List Cond := (Bundle.throwableAtoms ++ Bundle.throwableSAtoms ++ Bundle.passSAtoms "java/util/NoSuchElementException" "java/lang/RuntimeException" 13 prog_41_method_4_code ++ Bundle.chainSAtoms "java/lang/RuntimeException" ["java/lang/Exception"]) ++ [.instantiable "java/util/NoSuchElementException" 6, .castable "java/util/NoSuchElementException" "java/util/NoSuchElementException", .selects "java/util/NoSuchElementException" Bundle.tFill0 Bundle.tFill0, .selects "java/util/NoSuchElementException" Bundle.tFill Bundle.tFill, .lays "java/util/NoSuchElementException" Bundle.tN "cause" "Ljava/lang/Throwable;", .lays "java/util/NoSuchElementException" Bundle.tN "stackTrace" Bundle.steD, .lays "java/util/NoSuchElementException" Bundle.tN "suppressedExceptions" Bundle.listD, .lays "java/util/NoSuchElementException" Bundle.tN "detailMessage" "Ljava/lang/String;", .isRef (.static Bundle.tN "UNASSIGNED_STACK" Bundle.steD), .isRef (.static Bundle.tN "SUPPRESSED_SENTINEL" Bundle.listD), .fieldLink Bundle.tN 198 Bundle.tN "backtrace" "Ljava/lang/Object;", .lays Bundle.tN Bundle.tN "backtrace" "Ljava/lang/Object;", .lays "java/util/NoSuchElementException" Bundle.tN "backtrace" "Ljava/lang/Object;"]
theorem xs_NoSuchElementException {own : String} {ic : Nat} {w : Cond} (h : w ∈ ((nb_own own ic "java/util/NoSuchElementException" "java/lang/RuntimeException" 13 prog_41_method_4_code ["java/lang/Exception"]).filter vx_no)) : w = .methodLink own ic ⟨"java/util/NoSuchElementException", "<init>", "(Ljava/lang/String;)V"⟩ ∨ w ∈ xb_NoSuchElementException.filter vx_no := by
  have h0 := List.mem_filter.mp h
  rcases List.mem_append.mp h0.1 with h1 | h1
  · exact Or.inr (List.mem_filter.mpr ⟨List.mem_append_left _ h1, h0.2⟩)
  · rcases List.mem_cons.mp h1 with h2 | h2
    · exact Or.inl h2
    · exact Or.inr (List.mem_filter.mpr ⟨List.mem_append_right _ h2, h0.2⟩)
theorem xd_NoSuchElementException : ∀ w ∈ (xb_NoSuchElementException.filter vx_no).filter goodWord, w ∈ lw_tbl := by decide +kernel
theorem xe_NoSuchElementException : ∀ w ∈ (xb_NoSuchElementException.filter vx_no).filter (fun w => !goodWord w), w ∈ (ab_casts.map (fun x => Cond.castable x.1 x.2)) ++ ab_decls.map Cond.declares := by decide +kernel
theorem xf_NoSuchElementException : ∀ w ∈ xb_NoSuchElementException.filter vx_no, vx_ot w = true := by decide +kernel
theorem xg_NoSuchElementException {own : String} {ic : Nat} (w0 : Cond.methodLink own ic ⟨"java/util/NoSuchElementException", "<init>", "(Ljava/lang/String;)V"⟩ ∈ ab_T) : ∀ w ∈ ((nb_own own ic "java/util/NoSuchElementException" "java/lang/RuntimeException" 13 prog_41_method_4_code ["java/lang/Exception"]).filter vx_no).filter goodWord, w ∈ ab_T := by
  intro w hw
  obtain ⟨h1, h2⟩ := List.mem_filter.mp hw
  rcases xs_NoSuchElementException h1 with h3 | h3
  · rw [h3]; exact w0
  · exact List.mem_filter.mpr ⟨xd_NoSuchElementException w (List.mem_filter.mpr ⟨h3, h2⟩), h2⟩
theorem xn_NoSuchElementException (own : String) (ic : Nat) : ∀ w ∈ ((nb_own own ic "java/util/NoSuchElementException" "java/lang/RuntimeException" 13 prog_41_method_4_code ["java/lang/Exception"]).filter vx_no).filter (fun w => !goodWord w), w ∈ (ab_casts.map (fun x => Cond.castable x.1 x.2)) ++ ab_decls.map Cond.declares := by
  intro w hw
  obtain ⟨h1, h2⟩ := List.mem_filter.mp hw
  rcases xs_NoSuchElementException h1 with h3 | h3
  · rw [h3] at h2; cases h2
  · exact xe_NoSuchElementException w (List.mem_filter.mpr ⟨h3, h2⟩)
theorem xo_NoSuchElementException (own : String) (ik ic : Nat) : ∀ w ∈ Cond.classLink own ik "java/util/NoSuchElementException" :: Cond.initialized "java/util/NoSuchElementException" :: ((nb_own own ic "java/util/NoSuchElementException" "java/lang/RuntimeException" 13 prog_41_method_4_code ["java/lang/Exception"]).filter vx_no), vx_ot w = true := by
  intro w hw
  rcases List.mem_cons.mp hw with h | hw
  · rw [h]; rfl
  · rcases List.mem_cons.mp hw with h | hw
    · rw [h]; rfl
    · rcases xs_NoSuchElementException hw with h3 | h3
      · rw [h3]; rfl
      · exact xf_NoSuchElementException w h3
