/-! ===== BEGIN printed: names, fields, word lists, decode rows ===== -/
def RX0 : String := "RiddlePress$Clue"
def TX0 : u_T := fun k => match k with
  | 0 => ("RiddlePress$Clue", "kind", "C", true)
  | 1 => ("RiddlePress$Clue", "a", "I", true)
  | 2 => ("RiddlePress$Clue", "b", "I", true)
  | _ => ("RiddlePress$Clue", "c", "I", true)
def tyX0 : Nat → FieldType := fun k => match k with
  | 0 => .char
  | 1 => .int
  | 2 => .int
  | _ => .int
abbrev wsX00 : List Cond := u_ws RX0 TX0 4
theorem nmX0 : ∀ a, a < 4 → ∀ b, b < 4 → a ≠ b → (TX0 a).2.1 ≠ (TX0 b).2.1 := by decide +kernel
theorem tyX0_ok : ∀ k, k < 4 → parseFieldDescriptor (TX0 k).2.2.1 = some (tyX0 k) := by decide +kernel
abbrev cX0_init : ByteArray := prog_2_method_1_code
def yX0_init : MethodName := ⟨RX0, "<init>", "(CIII)V"⟩
abbrev cX0_ruleNumber : ByteArray := prog_2_method_2_code
def yX0_ruleNumber : MethodName := ⟨RX0, "ruleNumber", "()I"⟩
abbrev cX0_isFor : ByteArray := prog_2_method_3_code
def yX0_isFor : MethodName := ⟨RX0, "isFor", "(I)Z"⟩
abbrev cX0_isFitBy : ByteArray := prog_2_method_4_code
def yX0_isFitBy : MethodName := ⟨RX0, "isFitBy", "(LRiddlePress$Order;)Z"⟩
def RX1 : String := "RiddlePress$Customer"
def TX1 : u_T := fun k => match k with
  | 0 => ("RiddlePress$Customer", "credits", "I", false)
  | 1 => ("RiddlePress$Customer", "subscribed", "I", false)
  | _ => ("RiddlePress$Customer", "isOwner", "[Z", true)
def tyX1 : Nat → FieldType := fun k => match k with
  | 0 => .int
  | 1 => .int
  | _ => .array .boolean
abbrev wsX10 : List Cond := u_ws RX1 TX1 3
theorem nmX1 : ∀ a, a < 3 → ∀ b, b < 3 → a ≠ b → (TX1 a).2.1 ≠ (TX1 b).2.1 := by decide +kernel
theorem tyX1_ok : ∀ k, k < 3 → parseFieldDescriptor (TX1 k).2.2.1 = some (tyX1 k) := by decide +kernel
abbrev cX1_init : ByteArray := prog_3_method_1_code
def yX1_init : MethodName := ⟨RX1, "<init>", "()V"⟩
abbrev cX1_isOwnerOf : ByteArray := prog_3_method_2_code
def yX1_isOwnerOf : MethodName := ⟨RX1, "isOwnerOf", "(I)Z"⟩
abbrev cX1_addIssue : ByteArray := prog_3_method_3_code
def yX1_addIssue : MethodName := ⟨RX1, "addIssue", "(I)V"⟩
def RX2 : String := "RiddlePress$Issue"
def TX2 : u_T := fun k => match k with
  | 0 => ("RiddlePress$Issue", "state", "C", false)
  | _ => ("RiddlePress$Issue", "price", "I", false)
def tyX2 : Nat → FieldType := fun k => match k with
  | 0 => .char
  | _ => .int
abbrev wsX20 : List Cond := u_ws RX2 TX2 2
theorem nmX2 : ∀ a, a < 2 → ∀ b, b < 2 → a ≠ b → (TX2 a).2.1 ≠ (TX2 b).2.1 := by decide +kernel
theorem tyX2_ok : ∀ k, k < 2 → parseFieldDescriptor (TX2 k).2.2.1 = some (tyX2 k) := by decide +kernel
abbrev cX2_init : ByteArray := prog_4_method_1_code
def yX2_init : MethodName := ⟨RX2, "<init>", "()V"⟩
def RX3 : String := "RiddlePress$Order"
def TX3 : u_T := fun k => match k with
  | _ => ("RiddlePress$Order", "places", "[I", true)
def tyX3 : Nat → FieldType := fun k => match k with
  | _ => .array .int
abbrev wsX30 : List Cond := u_ws RX3 TX3 1
theorem nmX3 : ∀ a, a < 1 → ∀ b, b < 1 → a ≠ b → (TX3 a).2.1 ≠ (TX3 b).2.1 := by decide +kernel
theorem tyX3_ok : ∀ k, k < 1 → parseFieldDescriptor (TX3 k).2.2.1 = some (tyX3 k) := by decide +kernel
abbrev cX3_init : ByteArray := prog_5_method_1_code
def yX3_init : MethodName := ⟨RX3, "<init>", "(I)V"⟩
abbrev cX3_placeOf : ByteArray := prog_5_method_2_code
def yX3_placeOf : MethodName := ⟨RX3, "placeOf", "(I)I"⟩
abbrev cX3_goOn : ByteArray := prog_5_method_3_code
def yX3_goOn : MethodName := ⟨RX3, "goOn", "()Z"⟩
abbrev cX3_exchange : ByteArray := prog_5_method_4_code
def yX3_exchange : MethodName := ⟨RX3, "exchange", "(II)V"⟩
abbrev cX3_digits : ByteArray := prog_5_method_5_code
def yX3_digits : MethodName := ⟨RX3, "digits", "()I"⟩
def RX4 : String := "RiddlePress$OwnRule"
def TX4 : u_T := fun k => match k with
  | 0 => ("RiddlePress$OwnRule", "kind", "C", true)
  | 1 => ("RiddlePress$OwnRule", "isStanding", "Z", false)
  | 2 => ("RiddlePress$OwnRule", "counterDigits", "I", false)
  | 3 => ("RiddlePress$OwnRule", "person", "C", true)
  | 4 => ("RiddlePress$OwnRule", "isFirst", "Z", true)
  | _ => ("RiddlePress$OwnRule", "k", "I", true)
def tyX4 : Nat → FieldType := fun k => match k with
  | 0 => .char
  | 1 => .boolean
  | 2 => .int
  | 3 => .char
  | 4 => .boolean
  | _ => .int
abbrev wsX40 : List Cond := u_ws RX4 TX4 6
theorem nmX4 : ∀ a, a < 6 → ∀ b, b < 6 → a ≠ b → (TX4 a).2.1 ≠ (TX4 b).2.1 := by decide +kernel
theorem tyX4_ok : ∀ k, k < 6 → parseFieldDescriptor (TX4 k).2.2.1 = some (tyX4 k) := by decide +kernel
abbrev cX4_init : ByteArray := prog_6_method_1_code
def yX4_init : MethodName := ⟨RX4, "<init>", "(CCZI)V"⟩
abbrev cX4_personIn : ByteArray := prog_6_method_2_code
def yX4_personIn : MethodName := ⟨RX4, "personIn", "(LRiddlePress$Clue;)I"⟩
abbrev cX4_placesOf : ByteArray := prog_6_method_3_code
def yX4_placesOf : MethodName := ⟨RX4, "placesOf", "(I)I"⟩
abbrev cX4_findCounterexample : ByteArray := prog_6_method_4_code
def yX4_findCounterexample : MethodName := ⟨RX4, "findCounterexample", "()V"⟩
abbrev cX4_findCounterexampleOf : ByteArray := prog_6_method_5_code
def yX4_findCounterexampleOf : MethodName := ⟨RX4, "findCounterexampleOf", "(LRiddlePress$Order;LRiddlePress$Clue;I)V"⟩
def RX5 : String := "RiddlePress$Places"
def TX5 : u_T := fun k => match k with
  | _ => ("RiddlePress$Places", "sets", "[I", true)
def tyX5 : Nat → FieldType := fun k => match k with
  | _ => .array .int
abbrev wsX50 : List Cond := u_ws RX5 TX5 1
theorem nmX5 : ∀ a, a < 1 → ∀ b, b < 1 → a ≠ b → (TX5 a).2.1 ≠ (TX5 b).2.1 := by decide +kernel
theorem tyX5_ok : ∀ k, k < 1 → parseFieldDescriptor (TX5 k).2.2.1 = some (tyX5 k) := by decide +kernel
abbrev cX5_init : ByteArray := prog_7_method_1_code
def yX5_init : MethodName := ⟨RX5, "<init>", "(I)V"⟩
abbrev cX5_count : ByteArray := prog_7_method_2_code
def yX5_count : MethodName := ⟨RX5, "count", "()I"⟩
abbrev cX5_giveAll : ByteArray := prog_7_method_3_code
def yX5_giveAll : MethodName := ⟨RX5, "giveAll", "()V"⟩
abbrev cX5_isSomeoneWithout : ByteArray := prog_7_method_4_code
def yX5_isSomeoneWithout : MethodName := ⟨RX5, "isSomeoneWithout", "()Z"⟩
abbrev cX5_hasEachOne : ByteArray := prog_7_method_5_code
def yX5_hasEachOne : MethodName := ⟨RX5, "hasEachOne", "()Z"⟩
abbrev cX5_takeByClue : ByteArray := prog_7_method_6_code
def yX5_takeByClue : MethodName := ⟨RX5, "takeByClue", "(LRiddlePress$Clue;)I"⟩
abbrev cX5_takeByOwnRule : ByteArray := prog_7_method_7_code
def yX5_takeByOwnRule : MethodName := ⟨RX5, "takeByOwnRule", "(LRiddlePress$OwnRule;LRiddlePress$Clue;)I"⟩
abbrev cX5_takeByPerson : ByteArray := prog_7_method_8_code
def yX5_takeByPerson : MethodName := ⟨RX5, "takeByPerson", "(I)I"⟩
abbrev cX5_takeByPlace : ByteArray := prog_7_method_9_code
def yX5_takeByPlace : MethodName := ⟨RX5, "takeByPlace", "(I)I"⟩
abbrev cX5_takeByPair : ByteArray := prog_7_method_10_code
def yX5_takeByPair : MethodName := ⟨RX5, "takeByPair", "(II)I"⟩
abbrev cX5_takeFromOthers : ByteArray := prog_7_method_11_code
def yX5_takeFromOthers : MethodName := ⟨RX5, "takeFromOthers", "(III)I"⟩
abbrev cX5_takeByBefore : ByteArray := prog_7_method_12_code
def yX5_takeByBefore : MethodName := ⟨RX5, "takeByBefore", "(II)I"⟩
abbrev cX5_takeByDistance : ByteArray := prog_7_method_13_code
def yX5_takeByDistance : MethodName := ⟨RX5, "takeByDistance", "(III)I"⟩
abbrev cX5_takeByNextLeft : ByteArray := prog_7_method_14_code
def yX5_takeByNextLeft : MethodName := ⟨RX5, "takeByNextLeft", "(II)I"⟩
abbrev cX5_takeByBetween : ByteArray := prog_7_method_15_code
def yX5_takeByBetween : MethodName := ⟨RX5, "takeByBetween", "(III)I"⟩
abbrev cX5_leftOf : ByteArray := prog_7_method_16_code
def yX5_leftOf : MethodName := ⟨RX5, "leftOf", "(I)I"⟩
abbrev cX5_rightOf : ByteArray := prog_7_method_17_code
def yX5_rightOf : MethodName := ⟨RX5, "rightOf", "(I)I"⟩
abbrev cX5_setOf : ByteArray := prog_7_method_18_code
def yX5_setOf : MethodName := ⟨RX5, "setOf", "(I)I"⟩
abbrev cX5_keep : ByteArray := prog_7_method_19_code
def yX5_keep : MethodName := ⟨RX5, "keep", "(II)I"⟩
def RX6 : String := "RiddlePress$Proof"
def TX6 : u_T := fun k => match k with
  | 0 => ("RiddlePress$Proof", "ruleOf", "[I", true)
  | 1 => ("RiddlePress$Proof", "causeOf", "[I", true)
  | 2 => ("RiddlePress$Proof", "takenBy", "[I", true)
  | 3 => ("RiddlePress$Proof", "stepCount", "I", false)
  | 4 => ("RiddlePress$Proof", "outcome", "C", false)
  | 5 => ("RiddlePress$Proof", "places", "LRiddlePress$Places;", true)
  | _ => ("RiddlePress$Proof", "rulesUsed", "I", false)
def tyX6 : Nat → FieldType := fun k => match k with
  | 0 => .array .int
  | 1 => .array .int
  | 2 => .array .int
  | 3 => .int
  | 4 => .char
  | 5 => .object "RiddlePress$Places"
  | _ => .int
abbrev wsX60 : List Cond := u_ws RX6 TX6 7
theorem nmX6 : ∀ a, a < 7 → ∀ b, b < 7 → a ≠ b → (TX6 a).2.1 ≠ (TX6 b).2.1 := by decide +kernel
theorem tyX6_ok : ∀ k, k < 7 → parseFieldDescriptor (TX6 k).2.2.1 = some (tyX6 k) := by decide +kernel
abbrev cX6_init : ByteArray := prog_8_method_1_code
def yX6_init : MethodName := ⟨RX6, "<init>", "(I)V"⟩
abbrev cX6_hasStep : ByteArray := prog_8_method_2_code
def yX6_hasStep : MethodName := ⟨RX6, "hasStep", "(I)Z"⟩
abbrev cX6_hasStepBy : ByteArray := prog_8_method_3_code
def yX6_hasStepBy : MethodName := ⟨RX6, "hasStepBy", "(I)Z"⟩
abbrev cX6_lose : ByteArray := prog_8_method_4_code
def yX6_lose : MethodName := ⟨RX6, "lose", "()V"⟩
abbrev cX6_make : ByteArray := prog_8_method_5_code
def yX6_make : MethodName := ⟨RX6, "make", "(Ljava/util/List;Ljava/util/List;)V"⟩
abbrev cX6_makeStepByClues : ByteArray := prog_8_method_6_code
def yX6_makeStepByClues : MethodName := ⟨RX6, "makeStepByClues", "(Ljava/util/List;)Z"⟩
abbrev cX6_makeStepByPersons : ByteArray := prog_8_method_7_code
def yX6_makeStepByPersons : MethodName := ⟨RX6, "makeStepByPersons", "()Z"⟩
abbrev cX6_makeStepByPlaces : ByteArray := prog_8_method_8_code
def yX6_makeStepByPlaces : MethodName := ⟨RX6, "makeStepByPlaces", "()Z"⟩
abbrev cX6_makeStepByPairs : ByteArray := prog_8_method_9_code
def yX6_makeStepByPairs : MethodName := ⟨RX6, "makeStepByPairs", "()Z"⟩
abbrev cX6_makeStepByOwnRules : ByteArray := prog_8_method_10_code
def yX6_makeStepByOwnRules : MethodName := ⟨RX6, "makeStepByOwnRules", "(Ljava/util/List;Ljava/util/List;)Z"⟩
abbrev cX6_addStep : ByteArray := prog_8_method_11_code
def yX6_addStep : MethodName := ⟨RX6, "addStep", "(III)Z"⟩
def RX7 : String := "RiddlePress$Riddle"
def TX7 : u_T := fun k => match k with
  | 0 => ("RiddlePress$Riddle", "persons", "I", true)
  | 1 => ("RiddlePress$Riddle", "clues", "Ljava/util/List;", true)
  | 2 => ("RiddlePress$Riddle", "proof", "LRiddlePress$Proof;", true)
  | 3 => ("RiddlePress$Riddle", "firstAnswer", "[I", true)
  | 4 => ("RiddlePress$Riddle", "answerCount", "I", false)
  | 5 => ("RiddlePress$Riddle", "state", "C", false)
  | _ => ("RiddlePress$Riddle", "issue", "LRiddlePress$Issue;", false)
def tyX7 : Nat → FieldType := fun k => match k with
  | 0 => .int
  | 1 => .object "java/util/List"
  | 2 => .object "RiddlePress$Proof"
  | 3 => .array .int
  | 4 => .int
  | 5 => .char
  | _ => .object "RiddlePress$Issue"
abbrev wsX70 : List Cond := u_ws RX7 TX7 7
theorem nmX7 : ∀ a, a < 7 → ∀ b, b < 7 → a ≠ b → (TX7 a).2.1 ≠ (TX7 b).2.1 := by decide +kernel
theorem tyX7_ok : ∀ k, k < 7 → parseFieldDescriptor (TX7 k).2.2.1 = some (tyX7 k) := by decide +kernel
abbrev cX7_init : ByteArray := prog_9_method_1_code
def yX7_init : MethodName := ⟨RX7, "<init>", "(I)V"⟩
abbrev cX7_addClue : ByteArray := prog_9_method_2_code
def yX7_addClue : MethodName := ⟨RX7, "addClue", "(LRiddlePress$Clue;)V"⟩
abbrev cX7_findAnswers : ByteArray := prog_9_method_3_code
def yX7_findAnswers : MethodName := ⟨RX7, "findAnswers", "()V"⟩
abbrev cX7_isAnsweredBy : ByteArray := prog_9_method_4_code
def yX7_isAnsweredBy : MethodName := ⟨RX7, "isAnsweredBy", "(LRiddlePress$Order;)Z"⟩
abbrev cX7_addAnswer : ByteArray := prog_9_method_5_code
def yX7_addAnswer : MethodName := ⟨RX7, "addAnswer", "(LRiddlePress$Order;)V"⟩
def RX8 : String := "RiddlePress"
def TX8 : u_T := fun k => match k with
  | 0 => ("RiddlePress", "riddles", "Ljava/util/List;", true)
  | 1 => ("RiddlePress", "ownRules", "Ljava/util/List;", true)
  | 2 => ("RiddlePress", "issues", "Ljava/util/List;", true)
  | 3 => ("RiddlePress", "customers", "Ljava/util/List;", true)
  | _ => ("RiddlePress", "pressCredits", "J", false)
def tyX8 : Nat → FieldType := fun k => match k with
  | 0 => .object "java/util/List"
  | 1 => .object "java/util/List"
  | 2 => .object "java/util/List"
  | 3 => .object "java/util/List"
  | _ => .long
abbrev wsX80 : List Cond := u_ws RX8 TX8 5
theorem nmX8 : ∀ a, a < 5 → ∀ b, b < 5 → a ≠ b → (TX8 a).2.1 ≠ (TX8 b).2.1 := by decide +kernel
theorem tyX8_ok : ∀ k, k < 5 → parseFieldDescriptor (TX8 k).2.2.1 = some (tyX8 k) := by decide +kernel
abbrev cX8_init : ByteArray := prog_1_method_1_code
def yX8_init : MethodName := ⟨RX8, "<init>", "()V"⟩
abbrev cX8_riddle : ByteArray := prog_1_method_2_code
def yX8_riddle : MethodName := ⟨RX8, "riddle", "(I)I"⟩
abbrev cX8_clue : ByteArray := prog_1_method_3_code
def yX8_clue : MethodName := ⟨RX8, "clue", "(ICIII)I"⟩
abbrev cX8_answers : ByteArray := prog_1_method_4_code
def yX8_answers : MethodName := ⟨RX8, "answers", "(I)I"⟩
abbrev cX8_answer : ByteArray := prog_1_method_5_code
def yX8_answer : MethodName := ⟨RX8, "answer", "(II)I"⟩
abbrev cX8_prove : ByteArray := prog_1_method_6_code
def yX8_prove : MethodName := ⟨RX8, "prove", "(I)C"⟩
abbrev cX8_steps : ByteArray := prog_1_method_7_code
def yX8_steps : MethodName := ⟨RX8, "steps", "(I)I"⟩
abbrev cX8_ruleAt : ByteArray := prog_1_method_8_code
def yX8_ruleAt : MethodName := ⟨RX8, "ruleAt", "(II)I"⟩
abbrev cX8_causeAt : ByteArray := prog_1_method_9_code
def yX8_causeAt : MethodName := ⟨RX8, "causeAt", "(II)I"⟩
abbrev cX8_takenAt : ByteArray := prog_1_method_10_code
def yX8_takenAt : MethodName := ⟨RX8, "takenAt", "(II)I"⟩
abbrev cX8_leansOn : ByteArray := prog_1_method_11_code
def yX8_leansOn : MethodName := ⟨RX8, "leansOn", "(II)Z"⟩
abbrev cX8_state : ByteArray := prog_1_method_12_code
def yX8_state : MethodName := ⟨RX8, "state", "(I)C"⟩
abbrev cX8_rule : ByteArray := prog_1_method_13_code
def yX8_rule : MethodName := ⟨RX8, "rule", "(CCZI)I"⟩
abbrev cX8_stands : ByteArray := prog_1_method_14_code
def yX8_stands : MethodName := ⟨RX8, "stands", "(I)Z"⟩
abbrev cX8_counterexample : ByteArray := prog_1_method_15_code
def yX8_counterexample : MethodName := ⟨RX8, "counterexample", "(I)I"⟩
abbrev cX8_fall : ByteArray := prog_1_method_16_code
def yX8_fall : MethodName := ⟨RX8, "fall", "(I)I"⟩
abbrev cX8_issue : ByteArray := prog_1_method_17_code
def yX8_issue : MethodName := ⟨RX8, "issue", "()I"⟩
abbrev cX8_put : ByteArray := prog_1_method_18_code
def yX8_put : MethodName := ⟨RX8, "put", "(II)I"⟩
abbrev cX8_publish : ByteArray := prog_1_method_19_code
def yX8_publish : MethodName := ⟨RX8, "publish", "(II)I"⟩
abbrev cX8_issueState : ByteArray := prog_1_method_20_code
def yX8_issueState : MethodName := ⟨RX8, "issueState", "(I)C"⟩
abbrev cX8_indexed : ByteArray := prog_1_method_21_code
def yX8_indexed : MethodName := ⟨RX8, "indexed", "(I)I"⟩
abbrev cX8_customer : ByteArray := prog_1_method_22_code
def yX8_customer : MethodName := ⟨RX8, "customer", "()I"⟩
abbrev cX8_deposit : ByteArray := prog_1_method_23_code
def yX8_deposit : MethodName := ⟨RX8, "deposit", "(II)I"⟩
abbrev cX8_subscribe : ByteArray := prog_1_method_24_code
def yX8_subscribe : MethodName := ⟨RX8, "subscribe", "(II)I"⟩
abbrev cX8_buy : ByteArray := prog_1_method_25_code
def yX8_buy : MethodName := ⟨RX8, "buy", "(II)I"⟩
abbrev cX8_credits : ByteArray := prog_1_method_26_code
def yX8_credits : MethodName := ⟨RX8, "credits", "(I)I"⟩
abbrev cX8_has : ByteArray := prog_1_method_27_code
def yX8_has : MethodName := ⟨RX8, "has", "(II)Z"⟩
abbrev cX8_press : ByteArray := prog_1_method_28_code
def yX8_press : MethodName := ⟨RX8, "press", "()J"⟩
abbrev cX8_isClean : ByteArray := prog_1_method_29_code
def yX8_isClean : MethodName := ⟨RX8, "isClean", "()Z"⟩
abbrev cX8_provedShare : ByteArray := prog_1_method_30_code
def yX8_provedShare : MethodName := ⟨RX8, "provedShare", "()F"⟩
abbrev cX8_meanSteps : ByteArray := prog_1_method_31_code
def yX8_meanSteps : MethodName := ⟨RX8, "meanSteps", "()D"⟩
abbrev cX8_findRiddle : ByteArray := prog_1_method_32_code
def yX8_findRiddle : MethodName := ⟨RX8, "findRiddle", "(I)LRiddlePress$Riddle;"⟩
abbrev cX8_checkRule : ByteArray := prog_1_method_33_code
def yX8_checkRule : MethodName := ⟨RX8, "checkRule", "(I)V"⟩
abbrev cX8_findOwnRule : ByteArray := prog_1_method_34_code
def yX8_findOwnRule : MethodName := ⟨RX8, "findOwnRule", "(I)LRiddlePress$OwnRule;"⟩
abbrev cX8_findIssue : ByteArray := prog_1_method_35_code
def yX8_findIssue : MethodName := ⟨RX8, "findIssue", "(I)LRiddlePress$Issue;"⟩
abbrev cX8_findCustomer : ByteArray := prog_1_method_36_code
def yX8_findCustomer : MethodName := ⟨RX8, "findCustomer", "(I)LRiddlePress$Customer;"⟩
abbrev cX8_isPersonOf : ByteArray := prog_1_method_37_code
def yX8_isPersonOf : MethodName := ⟨RX8, "isPersonOf", "(CC)Z"⟩
abbrev cX8_countRiddlesOf : ByteArray := prog_1_method_38_code
def yX8_countRiddlesOf : MethodName := ⟨RX8, "countRiddlesOf", "(LRiddlePress$Issue;)I"⟩
abbrev cX8_isReady : ByteArray := prog_1_method_39_code
def yX8_isReady : MethodName := ⟨RX8, "isReady", "(LRiddlePress$Riddle;)Z"⟩
abbrev cX8_isOnSaleBy : ByteArray := prog_1_method_40_code
def yX8_isOnSaleBy : MethodName := ⟨RX8, "isOnSaleBy", "(LRiddlePress$Issue;I)Z"⟩
abbrev cX8_takeBackRiddles : ByteArray := prog_1_method_41_code
def yX8_takeBackRiddles : MethodName := ⟨RX8, "takeBackRiddles", "(LRiddlePress$Issue;I)V"⟩
abbrev cX8_loseProofsBy : ByteArray := prog_1_method_42_code
def yX8_loseProofsBy : MethodName := ⟨RX8, "loseProofsBy", "(I)V"⟩
abbrev cX8_isSound : ByteArray := prog_1_method_43_code
def yX8_isSound : MethodName := ⟨RX8, "isSound", "(LRiddlePress$Riddle;)Z"⟩
abbrev cX8_countWholeProofs : ByteArray := prog_1_method_44_code
def yX8_countWholeProofs : MethodName := ⟨RX8, "countWholeProofs", "()I"⟩
abbrev cX8_sellToSubscribers : ByteArray := prog_1_method_45_code
def yX8_sellToSubscribers : MethodName := ⟨RX8, "sellToSubscribers", "(II)I"⟩
abbrev cX8_sell : ByteArray := prog_1_method_46_code
def yX8_sell : MethodName := ⟨RX8, "sell", "(LRiddlePress$Customer;II)V"⟩
abbrev cX8_payBack : ByteArray := prog_1_method_47_code
def yX8_payBack : MethodName := ⟨RX8, "payBack", "(II)V"⟩
def RX9 : String := "RiddlePressModel"
def TX9 : u_T := fun k => match k with
  | _ => ("", "", "", false)
def tyX9 : Nat → FieldType := fun k => match k with
  | _ => .int
abbrev wsX90 : List Cond := u_ws RX9 TX9 0
theorem nmX9 : ∀ a, a < 0 → ∀ b, b < 0 → a ≠ b → (TX9 a).2.1 ≠ (TX9 b).2.1 := by decide +kernel
theorem tyX9_ok : ∀ k, k < 0 → parseFieldDescriptor (TX9 k).2.2.1 = some (tyX9 k) := by decide +kernel
def RJx145de : String := "java/io/Serializable"
def TJx145de : u_T := fun k => match k with
  | _ => ("", "", "", false)
def tyJx145de : Nat → FieldType := fun k => match k with
  | _ => .int
abbrev wsJx145de0 : List Cond := u_ws RJx145de TJx145de 0
theorem nmJx145de : ∀ a, a < 0 → ∀ b, b < 0 → a ≠ b → (TJx145de a).2.1 ≠ (TJx145de b).2.1 := by decide +kernel
theorem tyJx145de_ok : ∀ k, k < 0 → parseFieldDescriptor (TJx145de k).2.2.1 = some (tyJx145de k) := by decide +kernel
def RJx00060 : String := "java/lang/ArrayIndexOutOfBoundsException"
def TJx00060 : u_T := fun k => match k with
  | 0 => ("java/lang/Throwable", "backtrace", "Ljava/lang/Object;", false)
  | 1 => ("java/lang/Throwable", "detailMessage", "Ljava/lang/String;", false)
  | 2 => ("java/lang/Throwable", "cause", "Ljava/lang/Throwable;", false)
  | 3 => ("java/lang/Throwable", "stackTrace", "[Ljava/lang/StackTraceElement;", false)
  | 4 => ("java/lang/Throwable", "depth", "I", false)
  | _ => ("java/lang/Throwable", "suppressedExceptions", "Ljava/util/List;", false)
def tyJx00060 : Nat → FieldType := fun k => match k with
  | 0 => .object "java/lang/Object"
  | 1 => .object "java/lang/String"
  | 2 => .object "java/lang/Throwable"
  | 3 => .array (.object "java/lang/StackTraceElement")
  | 4 => .int
  | _ => .object "java/util/List"
abbrev wsJx000600 : List Cond := u_ws RJx00060 TJx00060 6
theorem nmJx00060 : ∀ a, a < 6 → ∀ b, b < 6 → a ≠ b → (TJx00060 a).2.1 ≠ (TJx00060 b).2.1 := by decide +kernel
theorem tyJx00060_ok : ∀ k, k < 6 → parseFieldDescriptor (TJx00060 k).2.2.1 = some (tyJx00060 k) := by decide +kernel
abbrev cJx00060_init_a7421 : ByteArray := prog_14_method_2_code
def yJx00060_init_a7421 : MethodName := ⟨RJx00060, "<init>", "(Ljava/lang/String;)V"⟩
def RJx9f9b0 : String := "java/lang/CharSequence"
def TJx9f9b0 : u_T := fun k => match k with
  | _ => ("", "", "", false)
def tyJx9f9b0 : Nat → FieldType := fun k => match k with
  | _ => .int
abbrev wsJx9f9b00 : List Cond := u_ws RJx9f9b0 TJx9f9b0 0
theorem nmJx9f9b0 : ∀ a, a < 0 → ∀ b, b < 0 → a ≠ b → (TJx9f9b0 a).2.1 ≠ (TJx9f9b0 b).2.1 := by decide +kernel
theorem tyJx9f9b0_ok : ∀ k, k < 0 → parseFieldDescriptor (TJx9f9b0 k).2.2.1 = some (tyJx9f9b0 k) := by decide +kernel
def RJ11 : String := "java/lang/Character"
def TJ11 : u_T := fun k => match k with
  | _ => ("", "", "", false)
def tyJ11 : Nat → FieldType := fun k => match k with
  | _ => .int
abbrev wsJ110 : List Cond := u_ws RJ11 TJ11 0
theorem nmJ11 : ∀ a, a < 0 → ∀ b, b < 0 → a ≠ b → (TJ11 a).2.1 ≠ (TJ11 b).2.1 := by decide +kernel
theorem tyJ11_ok : ∀ k, k < 0 → parseFieldDescriptor (TJ11 k).2.2.1 = some (tyJ11 k) := by decide +kernel
abbrev cJ11_isValidCodePoint_9a6ad : ByteArray := prog_16_method_11_code
def yJ11_isValidCodePoint_9a6ad : MethodName := ⟨RJ11, "isValidCodePoint", "(I)Z"⟩
abbrev cJ11_highSurrogate_5068e : ByteArray := prog_16_method_28_code
def yJ11_highSurrogate_5068e : MethodName := ⟨RJ11, "highSurrogate", "(I)C"⟩
abbrev cJ11_lowSurrogate_5068e : ByteArray := prog_16_method_29_code
def yJ11_lowSurrogate_5068e : MethodName := ⟨RJ11, "lowSurrogate", "(I)C"⟩
def RJx8e188 : String := "java/lang/Cloneable"
def TJx8e188 : u_T := fun k => match k with
  | _ => ("", "", "", false)
def tyJx8e188 : Nat → FieldType := fun k => match k with
  | _ => .int
abbrev wsJx8e1880 : List Cond := u_ws RJx8e188 TJx8e188 0
theorem nmJx8e188 : ∀ a, a < 0 → ∀ b, b < 0 → a ≠ b → (TJx8e188 a).2.1 ≠ (TJx8e188 b).2.1 := by decide +kernel
theorem tyJx8e188_ok : ∀ k, k < 0 → parseFieldDescriptor (TJx8e188 k).2.2.1 = some (tyJx8e188 k) := by decide +kernel
def RJxb160c : String := "java/lang/Comparable"
def TJxb160c : u_T := fun k => match k with
  | _ => ("", "", "", false)
def tyJxb160c : Nat → FieldType := fun k => match k with
  | _ => .int
abbrev wsJxb160c0 : List Cond := u_ws RJxb160c TJxb160c 0
theorem nmJxb160c : ∀ a, a < 0 → ∀ b, b < 0 → a ≠ b → (TJxb160c a).2.1 ≠ (TJxb160c b).2.1 := by decide +kernel
theorem tyJxb160c_ok : ∀ k, k < 0 → parseFieldDescriptor (TJxb160c k).2.2.1 = some (tyJxb160c k) := by decide +kernel
def RJ6 : String := "java/lang/Integer"
def TJ6 : u_T := fun k => match k with
  | _ => ("", "", "", false)
def tyJ6 : Nat → FieldType := fun k => match k with
  | _ => .int
abbrev wsJ60 : List Cond := u_ws RJ6 TJ6 0
theorem nmJ6 : ∀ a, a < 0 → ∀ b, b < 0 → a ≠ b → (TJ6 a).2.1 ≠ (TJ6 b).2.1 := by decide +kernel
theorem tyJ6_ok : ∀ k, k < 0 → parseFieldDescriptor (TJ6 k).2.2.1 = some (tyJ6 k) := by decide +kernel
abbrev cJ6_bitCount_0f7a4 : ByteArray := prog_23_method_49_code
def yJ6_bitCount_0f7a4 : MethodName := ⟨RJ6, "bitCount", "(I)I"⟩
def RJxab1ab : String := "java/lang/Iterable"
def TJxab1ab : u_T := fun k => match k with
  | _ => ("", "", "", false)
def tyJxab1ab : Nat → FieldType := fun k => match k with
  | _ => .int
abbrev wsJxab1ab0 : List Cond := u_ws RJxab1ab TJxab1ab 0
theorem nmJxab1ab : ∀ a, a < 0 → ∀ b, b < 0 → a ≠ b → (TJxab1ab a).2.1 ≠ (TJxab1ab b).2.1 := by decide +kernel
theorem tyJxab1ab_ok : ∀ k, k < 0 → parseFieldDescriptor (TJxab1ab k).2.2.1 = some (tyJxab1ab k) := by decide +kernel
def RJ9 : String := "java/lang/Math"
def TJ9 : u_T := fun k => match k with
  | _ => ("", "", "", false)
def tyJ9 : Nat → FieldType := fun k => match k with
  | _ => .int
abbrev wsJ90 : List Cond := u_ws RJ9 TJ9 0
theorem nmJ9 : ∀ a, a < 0 → ∀ b, b < 0 → a ≠ b → (TJ9 a).2.1 ≠ (TJ9 b).2.1 := by decide +kernel
theorem tyJ9_ok : ∀ k, k < 0 → parseFieldDescriptor (TJ9 k).2.2.1 = some (tyJ9 k) := by decide +kernel
abbrev cJ9_abs_0f7a4 : ByteArray := prog_25_method_59_code
def yJ9_abs_0f7a4 : MethodName := ⟨RJ9, "abs", "(I)I"⟩
abbrev cJ9_max_7cf53 : ByteArray := prog_25_method_65_code
def yJ9_max_7cf53 : MethodName := ⟨RJ9, "max", "(II)I"⟩
abbrev cJ9_min_7cf53 : ByteArray := prog_25_method_69_code
def yJ9_min_7cf53 : MethodName := ⟨RJ9, "min", "(II)I"⟩
def RJ0 : String := "java/lang/String"
def TJ0 : u_T := fun k => match k with
  | 0 => ("java/lang/String", "value", "[B", true)
  | _ => ("java/lang/String", "coder", "B", true)
def tyJ0 : Nat → FieldType := fun k => match k with
  | 0 => .array .byte
  | _ => .byte
abbrev wsJ00 : List Cond := u_ws RJ0 TJ0 2
theorem nmJ0 : ∀ a, a < 2 → ∀ b, b < 2 → a ≠ b → (TJ0 a).2.1 ≠ (TJ0 b).2.1 := by decide +kernel
theorem tyJ0_ok : ∀ k, k < 2 → parseFieldDescriptor (TJ0 k).2.2.1 = some (tyJ0 k) := by decide +kernel
abbrev cJ0_length_8abf5 : ByteArray := prog_27_method_54_code
def yJ0_length_8abf5 : MethodName := ⟨RJ0, "length", "()I"⟩
abbrev cJ0_charAt_5068e : ByteArray := prog_27_method_56_code
def yJ0_charAt_5068e : MethodName := ⟨RJ0, "charAt", "(I)C"⟩
abbrev cJ0_indexOf_0f7a4 : ByteArray := prog_27_method_79_code
def yJ0_indexOf_0f7a4 : MethodName := ⟨RJ0, "indexOf", "(I)I"⟩
abbrev cJ0_indexOf_7cf53 : ByteArray := prog_27_method_80_code
def yJ0_indexOf_7cf53 : MethodName := ⟨RJ0, "indexOf", "(II)I"⟩
abbrev cJ0_coder_7d493 : ByteArray := prog_27_method_152_code
def yJ0_coder_7d493 : MethodName := ⟨RJ0, "coder", "()B"⟩
abbrev cJ0_isLatin1_aae02 : ByteArray := prog_27_method_154_code
def yJ0_isLatin1_aae02 : MethodName := ⟨RJ0, "isLatin1", "()Z"⟩
abbrev cJ0_checkIndex_df160 : ByteArray := prog_27_method_155_code
def yJ0_checkIndex_df160 : MethodName := ⟨RJ0, "checkIndex", "(II)V"⟩
abbrev cJ0_checkBoundsBeginEnd_23922 : ByteArray := prog_27_method_158_code
def yJ0_checkBoundsBeginEnd_23922 : MethodName := ⟨RJ0, "checkBoundsBeginEnd", "(III)V"⟩
def RJ1 : String := "java/lang/StringLatin1"
def TJ1 : u_T := fun k => match k with
  | _ => ("", "", "", false)
def tyJ1 : Nat → FieldType := fun k => match k with
  | _ => .int
abbrev wsJ10 : List Cond := u_ws RJ1 TJ1 0
theorem nmJ1 : ∀ a, a < 0 → ∀ b, b < 0 → a ≠ b → (TJ1 a).2.1 ≠ (TJ1 b).2.1 := by decide +kernel
theorem tyJ1_ok : ∀ k, k < 0 → parseFieldDescriptor (TJ1 k).2.2.1 = some (tyJ1 k) := by decide +kernel
abbrev cJ1_charAt_3b067 : ByteArray := prog_28_method_2_code
def yJ1_charAt_3b067 : MethodName := ⟨RJ1, "charAt", "([BI)C"⟩
abbrev cJ1_canEncode_9a6ad : ByteArray := prog_28_method_4_code
def yJ1_canEncode_9a6ad : MethodName := ⟨RJ1, "canEncode", "(I)Z"⟩
abbrev cJ1_indexOf_4cfef : ByteArray := prog_28_method_22_code
def yJ1_indexOf_4cfef : MethodName := ⟨RJ1, "indexOf", "([BIII)I"⟩
abbrev cJ1_indexOfChar_4cfef : ByteArray := prog_28_method_23_code
def yJ1_indexOfChar_4cfef : MethodName := ⟨RJ1, "indexOfChar", "([BIII)I"⟩
def RJ2 : String := "java/lang/StringUTF16"
def TJ2 : u_T := fun k => match k with
  | _ => ("", "", "", false)
def tyJ2 : Nat → FieldType := fun k => match k with
  | _ => .int
abbrev wsJ20 : List Cond := u_ws RJ2 TJ2 0
theorem nmJ2 : ∀ a, a < 0 → ∀ b, b < 0 → a ≠ b → (TJ2 a).2.1 ≠ (TJ2 b).2.1 := by decide +kernel
theorem tyJ2_ok : ∀ k, k < 0 → parseFieldDescriptor (TJ2 k).2.2.1 = some (tyJ2 k) := by decide +kernel
abbrev cJ2_getChar_3b067 : ByteArray := prog_29_method_5_code
def yJ2_getChar_3b067 : MethodName := ⟨RJ2, "getChar", "([BI)C"⟩
abbrev cJ2_length_9d52b : ByteArray := prog_29_method_6_code
def yJ2_length_9d52b : MethodName := ⟨RJ2, "length", "([B)I"⟩
abbrev cJ2_indexOf_4cfef : ByteArray := prog_29_method_40_code
def yJ2_indexOf_4cfef : MethodName := ⟨RJ2, "indexOf", "([BIII)I"⟩
abbrev cJ2_indexOfChar_4cfef : ByteArray := prog_29_method_47_code
def yJ2_indexOfChar_4cfef : MethodName := ⟨RJ2, "indexOfChar", "([BIII)I"⟩
abbrev cJ2_indexOfCharUnsafe_4cfef : ByteArray := prog_29_method_48_code
def yJ2_indexOfCharUnsafe_4cfef : MethodName := ⟨RJ2, "indexOfCharUnsafe", "([BIII)I"⟩
abbrev cJ2_indexOfSupplementary_4cfef : ByteArray := prog_29_method_49_code
def yJ2_indexOfSupplementary_4cfef : MethodName := ⟨RJ2, "indexOfSupplementary", "([BIII)I"⟩
abbrev cJ2_charAt_3b067 : ByteArray := prog_29_method_83_code
def yJ2_charAt_3b067 : MethodName := ⟨RJ2, "charAt", "([BI)C"⟩
abbrev cJ2_checkIndex_2214a : ByteArray := prog_29_method_91_code
def yJ2_checkIndex_2214a : MethodName := ⟨RJ2, "checkIndex", "(I[B)V"⟩
abbrev cJ2_checkBoundsBeginEnd_d044e : ByteArray := prog_29_method_93_code
def yJ2_checkBoundsBeginEnd_d044e : MethodName := ⟨RJ2, "checkBoundsBeginEnd", "(II[B)V"⟩
def RJ10 : String := "java/lang/System"
def TJ10 : u_T := fun k => match k with
  | _ => ("", "", "", false)
def tyJ10 : Nat → FieldType := fun k => match k with
  | _ => .int
abbrev wsJ100 : List Cond := u_ws RJ10 TJ10 0
theorem nmJ10 : ∀ a, a < 0 → ∀ b, b < 0 → a ≠ b → (TJ10 a).2.1 ≠ (TJ10 b).2.1 := by decide +kernel
theorem tyJ10_ok : ∀ k, k < 0 → parseFieldDescriptor (TJ10 k).2.2.1 = some (tyJ10 k) := by decide +kernel
def RJxfd54e : String := "java/lang/constant/Constable"
def TJxfd54e : u_T := fun k => match k with
  | _ => ("", "", "", false)
def tyJxfd54e : Nat → FieldType := fun k => match k with
  | _ => .int
abbrev wsJxfd54e0 : List Cond := u_ws RJxfd54e TJxfd54e 0
theorem nmJxfd54e : ∀ a, a < 0 → ∀ b, b < 0 → a ≠ b → (TJxfd54e a).2.1 ≠ (TJxfd54e b).2.1 := by decide +kernel
theorem tyJxfd54e_ok : ∀ k, k < 0 → parseFieldDescriptor (TJxfd54e k).2.2.1 = some (tyJxfd54e k) := by decide +kernel
def RJx3cf43 : String := "java/lang/constant/ConstantDesc"
def TJx3cf43 : u_T := fun k => match k with
  | _ => ("", "", "", false)
def tyJx3cf43 : Nat → FieldType := fun k => match k with
  | _ => .int
abbrev wsJx3cf430 : List Cond := u_ws RJx3cf43 TJx3cf43 0
theorem nmJx3cf43 : ∀ a, a < 0 → ∀ b, b < 0 → a ≠ b → (TJx3cf43 a).2.1 ≠ (TJx3cf43 b).2.1 := by decide +kernel
theorem tyJx3cf43_ok : ∀ k, k < 0 → parseFieldDescriptor (TJx3cf43 k).2.2.1 = some (tyJx3cf43 k) := by decide +kernel
def RJxa1e45 : String := "java/util/AbstractCollection"
def TJxa1e45 : u_T := fun k => match k with
  | _ => ("", "", "", false)
def tyJxa1e45 : Nat → FieldType := fun k => match k with
  | _ => .int
abbrev wsJxa1e450 : List Cond := u_ws RJxa1e45 TJxa1e45 0
theorem nmJxa1e45 : ∀ a, a < 0 → ∀ b, b < 0 → a ≠ b → (TJxa1e45 a).2.1 ≠ (TJxa1e45 b).2.1 := by decide +kernel
theorem tyJxa1e45_ok : ∀ k, k < 0 → parseFieldDescriptor (TJxa1e45 k).2.2.1 = some (tyJxa1e45 k) := by decide +kernel
abbrev cJxa1e45_init_da8c8 : ByteArray := prog_35_method_1_code
def yJxa1e45_init_da8c8 : MethodName := ⟨RJxa1e45, "<init>", "()V"⟩
def RJxc12de : String := "java/util/AbstractList"
def TJxc12de : u_T := fun k => match k with
  | _ => ("", "", "", false)
def tyJxc12de : Nat → FieldType := fun k => match k with
  | _ => .int
abbrev wsJxc12de0 : List Cond := u_ws RJxc12de TJxc12de 0
theorem nmJxc12de : ∀ a, a < 0 → ∀ b, b < 0 → a ≠ b → (TJxc12de a).2.1 ≠ (TJxc12de b).2.1 := by decide +kernel
theorem tyJxc12de_ok : ∀ k, k < 0 → parseFieldDescriptor (TJxc12de k).2.2.1 = some (tyJxc12de k) := by decide +kernel
abbrev cJxc12de_init_da8c8 : ByteArray := prog_36_method_1_code
def yJxc12de_init_da8c8 : MethodName := ⟨RJxc12de, "<init>", "()V"⟩
def RJx4a65c : String := "java/util/ArrayList"
def TJx4a65c : u_T := fun k => match k with
  | 0 => ("java/util/AbstractList", "modCount", "I", false)
  | 1 => ("java/util/ArrayList", "elementData", "[Ljava/lang/Object;", false)
  | _ => ("java/util/ArrayList", "size", "I", false)
def tyJx4a65c : Nat → FieldType := fun k => match k with
  | 0 => .int
  | 1 => .array (.object "java/lang/Object")
  | _ => .int
abbrev wsJx4a65c0 : List Cond := u_ws RJx4a65c TJx4a65c 3
theorem nmJx4a65c : ∀ a, a < 3 → ∀ b, b < 3 → a ≠ b → (TJx4a65c a).2.1 ≠ (TJx4a65c b).2.1 := by decide +kernel
theorem tyJx4a65c_ok : ∀ k, k < 3 → parseFieldDescriptor (TJx4a65c k).2.2.1 = some (tyJx4a65c k) := by decide +kernel
abbrev cJx4a65c_init_da8c8 : ByteArray := prog_37_method_2_code
def yJx4a65c_init_da8c8 : MethodName := ⟨RJx4a65c, "<init>", "()V"⟩
abbrev cJx4a65c_grow_92f84 : ByteArray := prog_37_method_6_code
def yJx4a65c_grow_92f84 : MethodName := ⟨RJx4a65c, "grow", "(I)[Ljava/lang/Object;"⟩
abbrev cJx4a65c_grow_d5877 : ByteArray := prog_37_method_7_code
def yJx4a65c_grow_d5877 : MethodName := ⟨RJx4a65c, "grow", "()[Ljava/lang/Object;"⟩
abbrev cJx4a65c_size_8abf5 : ByteArray := prog_37_method_8_code
def yJx4a65c_size_8abf5 : MethodName := ⟨RJx4a65c, "size", "()I"⟩
abbrev cJx4a65c_isEmpty_aae02 : ByteArray := prog_37_method_9_code
def yJx4a65c_isEmpty_aae02 : MethodName := ⟨RJx4a65c, "isEmpty", "()Z"⟩
abbrev cJx4a65c_elementData_915e3 : ByteArray := prog_37_method_18_code
def yJx4a65c_elementData_915e3 : MethodName := ⟨RJx4a65c, "elementData", "(I)Ljava/lang/Object;"⟩
abbrev cJx4a65c_get_915e3 : ByteArray := prog_37_method_20_code
def yJx4a65c_get_915e3 : MethodName := ⟨RJx4a65c, "get", "(I)Ljava/lang/Object;"⟩
abbrev cJx4a65c_add_72be8 : ByteArray := prog_37_method_24_code
def yJx4a65c_add_72be8 : MethodName := ⟨RJx4a65c, "add", "(Ljava/lang/Object;[Ljava/lang/Object;I)V"⟩
abbrev cJx4a65c_add_9ea2d : ByteArray := prog_37_method_25_code
def yJx4a65c_add_9ea2d : MethodName := ⟨RJx4a65c, "add", "(Ljava/lang/Object;)Z"⟩
def RJ7 : String := "java/util/Arrays"
def TJ7 : u_T := fun k => match k with
  | _ => ("", "", "", false)
def tyJ7 : Nat → FieldType := fun k => match k with
  | _ => .int
abbrev wsJ70 : List Cond := u_ws RJ7 TJ7 0
theorem nmJ7 : ∀ a, a < 0 → ∀ b, b < 0 → a ≠ b → (TJ7 a).2.1 ≠ (TJ7 b).2.1 := by decide +kernel
theorem tyJ7_ok : ∀ k, k < 0 → parseFieldDescriptor (TJ7 k).2.2.1 = some (tyJ7 k) := by decide +kernel
abbrev cJ7_copyOf_1904c : ByteArray := prog_38_method_119_code
def yJ7_copyOf_1904c : MethodName := ⟨RJ7, "copyOf", "([Ljava/lang/Object;I)[Ljava/lang/Object;"⟩
abbrev cJ7_copyOf_6403c : ByteArray := prog_38_method_120_code
def yJ7_copyOf_6403c : MethodName := ⟨RJ7, "copyOf", "([Ljava/lang/Object;ILjava/lang/Class;)[Ljava/lang/Object;"⟩
def RJx5ef63 : String := "java/util/Collection"
def TJx5ef63 : u_T := fun k => match k with
  | _ => ("", "", "", false)
def tyJx5ef63 : Nat → FieldType := fun k => match k with
  | _ => .int
abbrev wsJx5ef630 : List Cond := u_ws RJx5ef63 TJx5ef63 0
theorem nmJx5ef63 : ∀ a, a < 0 → ∀ b, b < 0 → a ≠ b → (TJx5ef63 a).2.1 ≠ (TJx5ef63 b).2.1 := by decide +kernel
theorem tyJx5ef63_ok : ∀ k, k < 0 → parseFieldDescriptor (TJx5ef63 k).2.2.1 = some (tyJx5ef63 k) := by decide +kernel
def RJxbd725 : String := "java/util/List"
def TJxbd725 : u_T := fun k => match k with
  | _ => ("", "", "", false)
def tyJxbd725 : Nat → FieldType := fun k => match k with
  | _ => .int
abbrev wsJxbd7250 : List Cond := u_ws RJxbd725 TJxbd725 0
theorem nmJxbd725 : ∀ a, a < 0 → ∀ b, b < 0 → a ≠ b → (TJxbd725 a).2.1 ≠ (TJxbd725 b).2.1 := by decide +kernel
theorem tyJxbd725_ok : ∀ k, k < 0 → parseFieldDescriptor (TJxbd725 k).2.2.1 = some (tyJxbd725 k) := by decide +kernel
def RJ15 : String := "java/util/Objects"
def TJ15 : u_T := fun k => match k with
  | _ => ("", "", "", false)
def tyJ15 : Nat → FieldType := fun k => match k with
  | _ => .int
abbrev wsJ150 : List Cond := u_ws RJ15 TJ15 0
theorem nmJ15 : ∀ a, a < 0 → ∀ b, b < 0 → a ≠ b → (TJ15 a).2.1 ≠ (TJ15 b).2.1 := by decide +kernel
theorem tyJ15_ok : ∀ k, k < 0 → parseFieldDescriptor (TJ15 k).2.2.1 = some (tyJ15 k) := by decide +kernel
abbrev cJ15_checkIndex_7cf53 : ByteArray := prog_42_method_17_code
def yJ15_checkIndex_7cf53 : MethodName := ⟨RJ15, "checkIndex", "(II)I"⟩
def RJxf0a74 : String := "java/util/RandomAccess"
def TJxf0a74 : u_T := fun k => match k with
  | _ => ("", "", "", false)
def tyJxf0a74 : Nat → FieldType := fun k => match k with
  | _ => .int
abbrev wsJxf0a740 : List Cond := u_ws RJxf0a74 TJxf0a74 0
theorem nmJxf0a74 : ∀ a, a < 0 → ∀ b, b < 0 → a ≠ b → (TJxf0a74 a).2.1 ≠ (TJxf0a74 b).2.1 := by decide +kernel
theorem tyJxf0a74_ok : ∀ k, k < 0 → parseFieldDescriptor (TJxf0a74 k).2.2.1 = some (tyJxf0a74 k) := by decide +kernel
def RJxa66e6 : String := "java/util/SequencedCollection"
def TJxa66e6 : u_T := fun k => match k with
  | _ => ("", "", "", false)
def tyJxa66e6 : Nat → FieldType := fun k => match k with
  | _ => .int
abbrev wsJxa66e60 : List Cond := u_ws RJxa66e6 TJxa66e6 0
theorem nmJxa66e6 : ∀ a, a < 0 → ∀ b, b < 0 → a ≠ b → (TJxa66e6 a).2.1 ≠ (TJxa66e6 b).2.1 := by decide +kernel
theorem tyJxa66e6_ok : ∀ k, k < 0 → parseFieldDescriptor (TJxa66e6 k).2.2.1 = some (tyJxa66e6 k) := by decide +kernel
def RJ8 : String := "jdk/internal/util/ArraysSupport"
def TJ8 : u_T := fun k => match k with
  | _ => ("", "", "", false)
def tyJ8 : Nat → FieldType := fun k => match k with
  | _ => .int
abbrev wsJ80 : List Cond := u_ws RJ8 TJ8 0
theorem nmJ8 : ∀ a, a < 0 → ∀ b, b < 0 → a ≠ b → (TJ8 a).2.1 ≠ (TJ8 b).2.1 := by decide +kernel
theorem tyJ8_ok : ∀ k, k < 0 → parseFieldDescriptor (TJ8 k).2.2.1 = some (tyJ8 k) := by decide +kernel
abbrev cJ8_newLength_cabcc : ByteArray := prog_45_method_27_code
def yJ8_newLength_cabcc : MethodName := ⟨RJ8, "newLength", "(III)I"⟩
abbrev cJ8_hugeLength_7cf53 : ByteArray := prog_45_method_28_code
def yJ8_hugeLength_7cf53 : MethodName := ⟨RJ8, "hugeLength", "(II)I"⟩
def RJ3 : String := "jdk/internal/util/Preconditions"
def TJ3 : u_T := fun k => match k with
  | _ => ("", "", "", false)
def tyJ3 : Nat → FieldType := fun k => match k with
  | _ => .int
abbrev wsJ30 : List Cond := u_ws RJ3 TJ3 0
theorem nmJ3 : ∀ a, a < 0 → ∀ b, b < 0 → a ≠ b → (TJ3 a).2.1 ≠ (TJ3 b).2.1 := by decide +kernel
theorem tyJ3_ok : ∀ k, k < 0 → parseFieldDescriptor (TJ3 k).2.2.1 = some (tyJ3 k) := by decide +kernel
abbrev cJ3_checkIndex_8e157 : ByteArray := prog_46_method_11_code
def yJ3_checkIndex_8e157 : MethodName := ⟨RJ3, "checkIndex", "(IILjava/util/function/BiFunction;)I"⟩
abbrev cJ3_checkFromToIndex_8c36e : ByteArray := prog_46_method_12_code
def yJ3_checkFromToIndex_8c36e : MethodName := ⟨RJ3, "checkFromToIndex", "(IIILjava/util/function/BiFunction;)I"⟩
def RL : String := "RiddlePressLaw"
abbrev cL_cell : ByteArray := method_2_code
def yL_cell : MethodName := ⟨RL, "cell", "([II)I"⟩
abbrev cL_pick : ByteArray := method_3_code
def yL_pick : MethodName := ⟨RL, "pick", "([III)I"⟩
abbrev cL_riddle : ByteArray := method_4_code
def yL_riddle : MethodName := ⟨RL, "riddle", "(LRiddlePress;I)I"⟩
abbrev cL_clue : ByteArray := method_5_code
def yL_clue : MethodName := ⟨RL, "clue", "(LRiddlePress;ICIII)I"⟩
abbrev cL_answers : ByteArray := method_6_code
def yL_answers : MethodName := ⟨RL, "answers", "(LRiddlePress;I)I"⟩
abbrev cL_answer : ByteArray := method_7_code
def yL_answer : MethodName := ⟨RL, "answer", "(LRiddlePress;II)I"⟩
abbrev cL_prove : ByteArray := method_8_code
def yL_prove : MethodName := ⟨RL, "prove", "(LRiddlePress;I)I"⟩
abbrev cL_steps : ByteArray := method_9_code
def yL_steps : MethodName := ⟨RL, "steps", "(LRiddlePress;I)I"⟩
abbrev cL_ruleAt : ByteArray := method_10_code
def yL_ruleAt : MethodName := ⟨RL, "ruleAt", "(LRiddlePress;II)I"⟩
abbrev cL_causeAt : ByteArray := method_11_code
def yL_causeAt : MethodName := ⟨RL, "causeAt", "(LRiddlePress;II)I"⟩
abbrev cL_takenAt : ByteArray := method_12_code
def yL_takenAt : MethodName := ⟨RL, "takenAt", "(LRiddlePress;II)I"⟩
abbrev cL_leansOn : ByteArray := method_13_code
def yL_leansOn : MethodName := ⟨RL, "leansOn", "(LRiddlePress;II)I"⟩
abbrev cL_state : ByteArray := method_14_code
def yL_state : MethodName := ⟨RL, "state", "(LRiddlePress;I)I"⟩
abbrev cL_rule : ByteArray := method_15_code
def yL_rule : MethodName := ⟨RL, "rule", "(LRiddlePress;CCZI)I"⟩
abbrev cL_stands : ByteArray := method_16_code
def yL_stands : MethodName := ⟨RL, "stands", "(LRiddlePress;I)I"⟩
abbrev cL_counterexample : ByteArray := method_17_code
def yL_counterexample : MethodName := ⟨RL, "counterexample", "(LRiddlePress;I)I"⟩
abbrev cL_fall : ByteArray := method_18_code
def yL_fall : MethodName := ⟨RL, "fall", "(LRiddlePress;I)I"⟩
abbrev cL_issue : ByteArray := method_19_code
def yL_issue : MethodName := ⟨RL, "issue", "(LRiddlePress;)I"⟩
abbrev cL_put : ByteArray := method_20_code
def yL_put : MethodName := ⟨RL, "put", "(LRiddlePress;II)I"⟩
abbrev cL_publish : ByteArray := method_21_code
def yL_publish : MethodName := ⟨RL, "publish", "(LRiddlePress;II)I"⟩
abbrev cL_issueState : ByteArray := method_22_code
def yL_issueState : MethodName := ⟨RL, "issueState", "(LRiddlePress;I)I"⟩
abbrev cL_indexed : ByteArray := method_23_code
def yL_indexed : MethodName := ⟨RL, "indexed", "(LRiddlePress;I)I"⟩
abbrev cL_customer : ByteArray := method_24_code
def yL_customer : MethodName := ⟨RL, "customer", "(LRiddlePress;)I"⟩
abbrev cL_deposit : ByteArray := method_25_code
def yL_deposit : MethodName := ⟨RL, "deposit", "(LRiddlePress;II)I"⟩
abbrev cL_subscribe : ByteArray := method_26_code
def yL_subscribe : MethodName := ⟨RL, "subscribe", "(LRiddlePress;II)I"⟩
abbrev cL_buy : ByteArray := method_27_code
def yL_buy : MethodName := ⟨RL, "buy", "(LRiddlePress;II)I"⟩
abbrev cL_credits : ByteArray := method_28_code
def yL_credits : MethodName := ⟨RL, "credits", "(LRiddlePress;I)I"⟩
abbrev cL_has : ByteArray := method_29_code
def yL_has : MethodName := ⟨RL, "has", "(LRiddlePress;II)I"⟩
abbrev cL_provedShare : ByteArray := method_30_code
def yL_provedShare : MethodName := ⟨RL, "provedShare", "(LRiddlePress;)F"⟩
abbrev cL_meanSteps : ByteArray := method_31_code
def yL_meanSteps : MethodName := ⟨RL, "meanSteps", "(LRiddlePress;)D"⟩
abbrev cL_law : ByteArray := code
def yL_law : MethodName := ⟨RL, "law", "([I)Z"⟩
abbrev cL_acts : ByteArray := method_33_code
def yL_acts : MethodName := ⟨RL, "acts", "(LRiddlePress;[III)Z"⟩
abbrev cL_areRiddles : ByteArray := method_34_code
def yL_areRiddles : MethodName := ⟨RL, "areRiddles", "(LRiddlePress;)Z"⟩
abbrev cL_areIssues : ByteArray := method_35_code
def yL_areIssues : MethodName := ⟨RL, "areIssues", "(LRiddlePress;)Z"⟩
abbrev cL_isThrown : ByteArray := method_36_code
def yL_isThrown : MethodName := ⟨RL, "isThrown", "(LRiddlePress;)Z"⟩
abbrev vwCl : List vw_C := [(RJ0, TJ0, 2), (RJx00060, TJx00060, 6), (RJx4a65c, TJx4a65c, 3), (RX0, TX0, 4), (RX1, TX1, 3), (RX2, TX2, 2), (RX3, TX3, 1), (RX4, TX4, 6), (RX5, TX5, 1), (RX6, TX6, 7), (RX7, TX7, 7), (RX8, TX8, 5)]
