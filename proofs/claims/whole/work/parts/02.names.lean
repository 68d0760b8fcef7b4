abbrev RH : String := "MeasureChoice$House"
def FH : u_T := fun k => match k with
  | 0 => ("MeasureChoice$House", "count", "I", false)
  | 1 => ("MeasureChoice$House", "version", "I", false)
  | 2 => ("MeasureChoice$House", "costs", "[I", true)
  | 3 => ("MeasureChoice$House", "gains", "[I", true)
  | 4 => ("MeasureChoice$House", "excluded", "[I", true)
  | 5 => ("MeasureChoice$House", "needed", "[I", true)
  | _ => ("MeasureChoice$House", "bonuses", "[[I", true)
def tH : Nat → FieldType := fun k => match k with
  | 0 => .int
  | 1 => .int
  | 2 => .array .int
  | 3 => .array .int
  | 4 => .array .int
  | 5 => .array .int
  | _ => .array (.array .int)
abbrev wH0 : List Cond := u_ws RH FH 7
theorem nH : ∀ a, a < 7 → ∀ b, b < 7 → a ≠ b → (FH a).2.1 ≠ (FH b).2.1 := by decide +kernel
theorem tH_ok : ∀ k, k < 7 → parseFieldDescriptor (FH k).2.2.1 = some (tH k) := by decide +kernel
abbrev RA : String := "MeasureChoice$Ladder"
def FA : u_T := fun k => match k with
  | 0 => ("MeasureChoice$Ladder", "rungs", "I", false)
  | 1 => ("MeasureChoice$Ladder", "version", "I", false)
  | 2 => ("MeasureChoice$Ladder", "steps", "[I", true)
  | _ => ("MeasureChoice$Ladder", "gains", "[I", true)
def tA : Nat → FieldType := fun k => match k with
  | 0 => .int
  | 1 => .int
  | 2 => .array .int
  | _ => .array .int
abbrev wA0 : List Cond := u_ws RA FA 4
theorem nA : ∀ a, a < 4 → ∀ b, b < 4 → a ≠ b → (FA a).2.1 ≠ (FA b).2.1 := by decide +kernel
theorem tA_ok : ∀ k, k < 4 → parseFieldDescriptor (FA k).2.2.1 = some (tA k) := by decide +kernel
abbrev RP : String := "MeasureChoice$Planner"
def FP : u_T := fun k => match k with
  | 0 => ("MeasureChoice$Planner", "budgets", "[I", true)
  | 1 => ("MeasureChoice$Planner", "totals", "[[I", true)
  | 2 => ("MeasureChoice$Planner", "spent", "[[I", true)
  | 3 => ("MeasureChoice$Planner", "purses", "[I", true)
  | 4 => ("MeasureChoice$Planner", "prices", "[I", true)
  | 5 => ("MeasureChoice$Planner", "gains", "[I", true)
  | _ => ("MeasureChoice$Planner", "sets", "I", false)
def tP : Nat → FieldType := fun k => match k with
  | 0 => .array .int
  | 1 => .array (.array .int)
  | 2 => .array (.array .int)
  | 3 => .array .int
  | 4 => .array .int
  | 5 => .array .int
  | _ => .int
abbrev wP0 : List Cond := u_ws RP FP 7
theorem nP : ∀ a, a < 7 → ∀ b, b < 7 → a ≠ b → (FP a).2.1 ≠ (FP b).2.1 := by decide +kernel
theorem tP_ok : ∀ k, k < 7 → parseFieldDescriptor (FP k).2.2.1 = some (tP k) := by decide +kernel
abbrev RM : String := "MeasureChoice"
def FM : u_T := fun k => match k with
  | 0 => ("MeasureChoice", "house", "LMeasureChoice$House;", true)
  | 1 => ("MeasureChoice", "ladder", "LMeasureChoice$Ladder;", true)
  | _ => ("MeasureChoice", "planner", "LMeasureChoice$Planner;", true)
def tM : Nat → FieldType := fun k => match k with
  | 0 => .object "MeasureChoice$House"
  | 1 => .object "MeasureChoice$Ladder"
  | _ => .object "MeasureChoice$Planner"
abbrev wM0 : List Cond := u_ws RM FM 3
theorem nM : ∀ a, a < 3 → ∀ b, b < 3 → a ≠ b → (FM a).2.1 ≠ (FM b).2.1 := by decide +kernel
theorem tM_ok : ∀ k, k < 3 → parseFieldDescriptor (FM k).2.2.1 = some (tM k) := by decide +kernel
abbrev RR : String := "MeasureChoiceModel"
def FR : u_T := fun k => match k with
  | 0 => ("MeasureChoiceModel", "thrown", "I", false)
  | 1 => ("MeasureChoiceModel", "many", "I", false)
  | 2 => ("MeasureChoiceModel", "costs", "[I", true)
  | 3 => ("MeasureChoiceModel", "gains", "[I", true)
  | 4 => ("MeasureChoiceModel", "barred", "[Z", true)
  | 5 => ("MeasureChoiceModel", "wants", "[Z", true)
  | 6 => ("MeasureChoiceModel", "bonuses", "[I", true)
  | 7 => ("MeasureChoiceModel", "budgets", "[I", true)
  | 8 => ("MeasureChoiceModel", "laterGain", "[I", true)
  | 9 => ("MeasureChoiceModel", "laterCost", "[I", true)
  | _ => ("MeasureChoiceModel", "choice", "[I", true)
def tR : Nat → FieldType := fun k => match k with
  | 0 => .int
  | 1 => .int
  | 2 => .array .int
  | 3 => .array .int
  | 4 => .array .boolean
  | 5 => .array .boolean
  | 6 => .array .int
  | 7 => .array .int
  | 8 => .array .int
  | 9 => .array .int
  | _ => .array .int
abbrev wR0 : List Cond := u_ws RR FR 11
theorem nR : ∀ a, a < 11 → ∀ b, b < 11 → a ≠ b → (FR a).2.1 ≠ (FR b).2.1 := by decide +kernel
theorem tR_ok : ∀ k, k < 11 → parseFieldDescriptor (FR k).2.2.1 = some (tR k) := by decide +kernel
abbrev RL : String := "MeasureChoiceLaw"
abbrev mcCl : List vw_C := [(RH, FH, 7), (RA, FA, 4), (RP, FP, 7), (RM, FM, 3), (RR, FR, 11)]
def mcB_0 : List Cond := [Cond.selects "MeasureChoice$Ladder" ⟨"MeasureChoice$Ladder", "addSteps", "(II)V"⟩ ⟨"MeasureChoice$Ladder", "addSteps", "(II)V"⟩, Cond.selects "MeasureChoice$Ladder" ⟨"MeasureChoice$Ladder", "addGains", "(ILMeasureChoice$House;)V"⟩ ⟨"MeasureChoice$Ladder", "addGains", "(ILMeasureChoice$House;)V"⟩, Cond.selects "MeasureChoice$Ladder" ⟨"MeasureChoice$Ladder", "keepUnbeaten", "(LMeasureChoice$House;)V"⟩ ⟨"MeasureChoice$Ladder", "keepUnbeaten", "(LMeasureChoice$House;)V"⟩, Cond.selects "java/lang/Throwable" ⟨"java/lang/Throwable", "fillInStackTrace", "(I)Ljava/lang/Throwable;"⟩ ⟨"java/lang/Throwable", "fillInStackTrace", "(I)Ljava/lang/Throwable;"⟩, Cond.selects "MeasureChoice" ⟨"MeasureChoice", "requireMeasure", "(I)V"⟩ ⟨"MeasureChoice", "requireMeasure", "(I)V"⟩, Cond.selects "MeasureChoice" ⟨"MeasureChoice", "requirePair", "(II)V"⟩ ⟨"MeasureChoice", "requirePair", "(II)V"⟩, Cond.selects "MeasureChoice" ⟨"MeasureChoice", "requireSet", "(I)V"⟩ ⟨"MeasureChoice", "requireSet", "(I)V"⟩, Cond.selects "MeasureChoice$House" ⟨"MeasureChoice$House", "bonusWithEarlier", "(II)I"⟩ ⟨"MeasureChoice$House", "bonusWithEarlier", "(II)I"⟩, Cond.selects "MeasureChoice$House" ⟨"MeasureChoice$House", "withItsNeeds", "(I)I"⟩ ⟨"MeasureChoice$House", "withItsNeeds", "(I)I"⟩, Cond.selects "MeasureChoice$Planner" ⟨"MeasureChoice$Planner", "fillPurses", "()V"⟩ ⟨"MeasureChoice$Planner", "fillPurses", "()V"⟩, Cond.selects "MeasureChoice$Planner" ⟨"MeasureChoice$Planner", "judgeSets", "(LMeasureChoice$House;)V"⟩ ⟨"MeasureChoice$Planner", "judgeSets", "(LMeasureChoice$House;)V"⟩, Cond.selects "MeasureChoice$Planner" ⟨"MeasureChoice$Planner", "workYear", "(IZ)V"⟩ ⟨"MeasureChoice$Planner", "workYear", "(IZ)V"⟩, Cond.selects "MeasureChoice$Planner" ⟨"MeasureChoice$Planner", "bestFrom", "(II)I"⟩ ⟨"MeasureChoice$Planner", "bestFrom", "(II)I"⟩, Cond.selects "MeasureChoice$Planner" ⟨"MeasureChoice$Planner", "isBetter", "(III)Z"⟩ ⟨"MeasureChoice$Planner", "isBetter", "(III)Z"⟩, Cond.selects "MeasureChoiceModel" ⟨"MeasureChoiceModel", "good", "(Z)Z"⟩ ⟨"MeasureChoiceModel", "good", "(Z)Z"⟩, Cond.selects "MeasureChoiceModel" ⟨"MeasureChoiceModel", "is", "(I)Z"⟩ ⟨"MeasureChoiceModel", "is", "(I)Z"⟩, Cond.selects "MeasureChoiceModel" ⟨"MeasureChoiceModel", "isSet", "(I)Z"⟩ ⟨"MeasureChoiceModel", "isSet", "(I)Z"⟩, Cond.selects "MeasureChoiceModel" ⟨"MeasureChoiceModel", "holds", "(I)Z"⟩ ⟨"MeasureChoiceModel", "holds", "(I)Z"⟩, Cond.selects "MeasureChoiceModel" ⟨"MeasureChoiceModel", "costOf", "(I)I"⟩ ⟨"MeasureChoiceModel", "costOf", "(I)I"⟩, Cond.selects "MeasureChoiceModel" ⟨"MeasureChoiceModel", "gainOf", "(I)I"⟩ ⟨"MeasureChoiceModel", "gainOf", "(I)I"⟩, Cond.selects "MeasureChoiceModel" ⟨"MeasureChoiceModel", "bestOf", "(J)I"⟩ ⟨"MeasureChoiceModel", "bestOf", "(J)I"⟩, Cond.selects "MeasureChoiceModel" ⟨"MeasureChoiceModel", "dearer", "(II)I"⟩ ⟨"MeasureChoiceModel", "dearer", "(II)I"⟩, Cond.selects "MeasureChoiceModel" ⟨"MeasureChoiceModel", "work", "(I)V"⟩ ⟨"MeasureChoiceModel", "work", "(I)V"⟩, Cond.selects "MeasureChoiceModel" ⟨"MeasureChoiceModel", "workOf", "(IIII)V"⟩ ⟨"MeasureChoiceModel", "workOf", "(IIII)V"⟩, Cond.initialized "MeasureChoiceLaw", Cond.initialized "MeasureChoice", Cond.initialized "MeasureChoice$House", Cond.initialized "MeasureChoice$Ladder", Cond.initialized "MeasureChoice$Planner", Cond.initialized "MeasureChoiceModel", Cond.initialized "java/lang/Throwable", Cond.initialized "java/lang/Exception", Cond.initialized "java/lang/RuntimeException", Cond.initialized "java/lang/IllegalArgumentException", Cond.initialized "java/lang/IllegalStateException", Cond.initialized "java/lang/Math", Cond.classLink "MeasureChoiceLaw" 8 "MeasureChoice", Cond.instantiable "MeasureChoice" 3, Cond.methodLink "MeasureChoiceLaw" 61 ⟨"MeasureChoice", "<init>", "()V"⟩, Cond.instanceMethod ⟨"MeasureChoice", "<init>", "()V"⟩]
def mcB_1 : List Cond := [Cond.code ⟨"MeasureChoice", "<init>", "()V"⟩ prog_1_method_1_code 1 none, Cond.methodLink "MeasureChoice" 3 ⟨"java/lang/Object", "<init>", "()V"⟩, Cond.instanceMethod ⟨"java/lang/Object", "<init>", "()V"⟩, Cond.code ⟨"java/lang/Object", "<init>", "()V"⟩ object_method_1_code 1 none, Cond.classLink "MeasureChoice" 9 "MeasureChoice$House", Cond.instantiable "MeasureChoice$House" 7, Cond.instanceMethod ⟨"MeasureChoice$House", "<init>", "()V"⟩, Cond.code ⟨"MeasureChoice$House", "<init>", "()V"⟩ prog_2_method_1_code 1 none, Cond.methodLink "MeasureChoice$House" 3 ⟨"java/lang/Object", "<init>", "()V"⟩, Cond.classLink "MeasureChoice$House" 24 "[[I", Cond.fieldLink "MeasureChoice$House" 29 "MeasureChoice$House" "count" "I", Cond.fieldLink "MeasureChoice" 34 "MeasureChoice$House" "count" "I", Cond.fieldLink "MeasureChoice$Planner" 47 "MeasureChoice$House" "count" "I", Cond.fieldLink "MeasureChoice$Ladder" 38 "MeasureChoice$House" "count" "I", Cond.fieldLink "MeasureChoice$House" 37 "MeasureChoice$House" "version" "I", Cond.fieldLink "MeasureChoice$Ladder" 35 "MeasureChoice$House" "version" "I", Cond.fieldLink "MeasureChoice$House" 9 "MeasureChoice$House" "costs" "[I", Cond.fieldLink "MeasureChoice$Ladder" 41 "MeasureChoice$House" "costs" "[I", Cond.fieldLink "MeasureChoice$House" 15 "MeasureChoice$House" "gains" "[I", Cond.fieldLink "MeasureChoice$Ladder" 56 "MeasureChoice$House" "gains" "[I", Cond.fieldLink "MeasureChoice$House" 18 "MeasureChoice$House" "excluded" "[I", Cond.fieldLink "MeasureChoice" 60 "MeasureChoice$House" "excluded" "[I", Cond.fieldLink "MeasureChoice$House" 21 "MeasureChoice$House" "needed" "[I", Cond.fieldLink "MeasureChoice" 72 "MeasureChoice$House" "needed" "[I", Cond.fieldLink "MeasureChoice$House" 26 "MeasureChoice$House" "bonuses" "[[I", Cond.fieldLink "MeasureChoice" 81 "MeasureChoice$House" "bonuses" "[[I", Cond.fieldLink "MeasureChoice$Ladder" 57 "MeasureChoice$House" "bonuses" "[[I", Cond.lays "MeasureChoice$House" "MeasureChoice$House" "count" "I", Cond.soleField "MeasureChoice$House" "count", Cond.lays "MeasureChoice$House" "MeasureChoice$House" "version" "I", Cond.soleField "MeasureChoice$House" "version", Cond.laysFinal "MeasureChoice$House" "MeasureChoice$House" "costs" "[I", Cond.soleField "MeasureChoice$House" "costs", Cond.laysFinal "MeasureChoice$House" "MeasureChoice$House" "gains" "[I", Cond.soleField "MeasureChoice$House" "gains", Cond.laysFinal "MeasureChoice$House" "MeasureChoice$House" "excluded" "[I", Cond.soleField "MeasureChoice$House" "excluded", Cond.laysFinal "MeasureChoice$House" "MeasureChoice$House" "needed" "[I", Cond.soleField "MeasureChoice$House" "needed", Cond.laysFinal "MeasureChoice$House" "MeasureChoice$House" "bonuses" "[[I"]
def mcB_2 : List Cond := [Cond.soleField "MeasureChoice$House" "bonuses", Cond.superclass "MeasureChoice$House" "java/lang/Object", Cond.arrayClass FieldType.int, Cond.classLink "MeasureChoice" 16 "MeasureChoice$Ladder", Cond.instantiable "MeasureChoice$Ladder" 4, Cond.instanceMethod ⟨"MeasureChoice$Ladder", "<init>", "()V"⟩, Cond.code ⟨"MeasureChoice$Ladder", "<init>", "()V"⟩ prog_3_method_1_code 1 none, Cond.methodLink "MeasureChoice$Ladder" 3 ⟨"java/lang/Object", "<init>", "()V"⟩, Cond.fieldLink "MeasureChoice$Ladder" 26 "MeasureChoice$Ladder" "rungs" "I", Cond.fieldLink "MeasureChoice" 133 "MeasureChoice$Ladder" "rungs" "I", Cond.fieldLink "MeasureChoice$Ladder" 9 "MeasureChoice$Ladder" "version" "I", Cond.fieldLink "MeasureChoice$Ladder" 15 "MeasureChoice$Ladder" "steps" "[I", Cond.fieldLink "MeasureChoice$Ladder" 19 "MeasureChoice$Ladder" "gains" "[I", Cond.lays "MeasureChoice$Ladder" "MeasureChoice$Ladder" "rungs" "I", Cond.soleField "MeasureChoice$Ladder" "rungs", Cond.lays "MeasureChoice$Ladder" "MeasureChoice$Ladder" "version" "I", Cond.soleField "MeasureChoice$Ladder" "version", Cond.laysFinal "MeasureChoice$Ladder" "MeasureChoice$Ladder" "steps" "[I", Cond.soleField "MeasureChoice$Ladder" "steps", Cond.laysFinal "MeasureChoice$Ladder" "MeasureChoice$Ladder" "gains" "[I", Cond.soleField "MeasureChoice$Ladder" "gains", Cond.superclass "MeasureChoice$Ladder" "java/lang/Object", Cond.classLink "MeasureChoice" 23 "MeasureChoice$Planner", Cond.instantiable "MeasureChoice$Planner" 7, Cond.instanceMethod ⟨"MeasureChoice$Planner", "<init>", "()V"⟩, Cond.code ⟨"MeasureChoice$Planner", "<init>", "()V"⟩ prog_4_method_1_code 1 none, Cond.methodLink "MeasureChoice$Planner" 3 ⟨"java/lang/Object", "<init>", "()V"⟩, Cond.classLink "MeasureChoice$Planner" 15 "[[I", Cond.fieldLink "MeasureChoice$Planner" 9 "MeasureChoice$Planner" "budgets" "[I", Cond.fieldLink "MeasureChoice" 137 "MeasureChoice$Planner" "budgets" "[I", Cond.fieldLink "MeasureChoice$Planner" 17 "MeasureChoice$Planner" "totals" "[[I", Cond.fieldLink "MeasureChoice" 147 "MeasureChoice$Planner" "totals" "[[I", Cond.fieldLink "MeasureChoice$Planner" 20 "MeasureChoice$Planner" "spent" "[[I", Cond.fieldLink "MeasureChoice$Planner" 23 "MeasureChoice$Planner" "purses" "[I", Cond.fieldLink "MeasureChoice$Planner" 26 "MeasureChoice$Planner" "prices" "[I", Cond.fieldLink "MeasureChoice$Planner" 29 "MeasureChoice$Planner" "gains" "[I", Cond.fieldLink "MeasureChoice$Planner" 58 "MeasureChoice$Planner" "sets" "I", Cond.laysFinal "MeasureChoice$Planner" "MeasureChoice$Planner" "budgets" "[I", Cond.soleField "MeasureChoice$Planner" "budgets", Cond.laysFinal "MeasureChoice$Planner" "MeasureChoice$Planner" "totals" "[[I"]
def mcB_3 : List Cond := [Cond.soleField "MeasureChoice$Planner" "totals", Cond.laysFinal "MeasureChoice$Planner" "MeasureChoice$Planner" "spent" "[[I", Cond.soleField "MeasureChoice$Planner" "spent", Cond.laysFinal "MeasureChoice$Planner" "MeasureChoice$Planner" "purses" "[I", Cond.soleField "MeasureChoice$Planner" "purses", Cond.laysFinal "MeasureChoice$Planner" "MeasureChoice$Planner" "prices" "[I", Cond.soleField "MeasureChoice$Planner" "prices", Cond.laysFinal "MeasureChoice$Planner" "MeasureChoice$Planner" "gains" "[I", Cond.soleField "MeasureChoice$Planner" "gains", Cond.lays "MeasureChoice$Planner" "MeasureChoice$Planner" "sets" "I", Cond.soleField "MeasureChoice$Planner" "sets", Cond.superclass "MeasureChoice$Planner" "java/lang/Object", Cond.fieldLink "MeasureChoice" 12 "MeasureChoice" "house" "LMeasureChoice$House;", Cond.fieldLink "MeasureChoice" 19 "MeasureChoice" "ladder" "LMeasureChoice$Ladder;", Cond.fieldLink "MeasureChoice" 26 "MeasureChoice" "planner" "LMeasureChoice$Planner;", Cond.laysFinal "MeasureChoice" "MeasureChoice" "house" "LMeasureChoice$House;", Cond.soleField "MeasureChoice" "house", Cond.laysFinal "MeasureChoice" "MeasureChoice" "ladder" "LMeasureChoice$Ladder;", Cond.soleField "MeasureChoice" "ladder", Cond.laysFinal "MeasureChoice" "MeasureChoice" "planner" "LMeasureChoice$Planner;", Cond.soleField "MeasureChoice" "planner", Cond.superclass "MeasureChoice" "java/lang/Object", Cond.methodLink "MeasureChoiceLaw" 103 ⟨"MeasureChoice", "budget", "(I)I"⟩, Cond.instanceMethod ⟨"MeasureChoice", "budget", "(I)I"⟩, Cond.selects "MeasureChoice" ⟨"MeasureChoice", "budget", "(I)I"⟩ ⟨"MeasureChoice", "budget", "(I)I"⟩, Cond.code ⟨"MeasureChoice", "budget", "(I)I"⟩ prog_1_method_11_code 3 (some FieldType.int), Cond.methodLink "MeasureChoice" 108 ⟨"MeasureChoice$Ladder", "bringUpToDate", "(LMeasureChoice$House;)V"⟩, Cond.instanceMethod ⟨"MeasureChoice$Ladder", "bringUpToDate", "(LMeasureChoice$House;)V"⟩, Cond.selects "MeasureChoice$Ladder" ⟨"MeasureChoice$Ladder", "bringUpToDate", "(LMeasureChoice$House;)V"⟩ ⟨"MeasureChoice$Ladder", "bringUpToDate", "(LMeasureChoice$House;)V"⟩, Cond.code ⟨"MeasureChoice$Ladder", "bringUpToDate", "(LMeasureChoice$House;)V"⟩ prog_3_method_7_code 3 none, Cond.methodLink "MeasureChoice$Ladder" 44 ⟨"MeasureChoice$Ladder", "addSteps", "(II)V"⟩, Cond.instanceMethod ⟨"MeasureChoice$Ladder", "addSteps", "(II)V"⟩, Cond.code ⟨"MeasureChoice$Ladder", "addSteps", "(II)V"⟩ prog_3_method_8_code 7 none, Cond.methodLink "MeasureChoice$Ladder" 48 ⟨"MeasureChoice$Ladder", "addGains", "(ILMeasureChoice$House;)V"⟩, Cond.instanceMethod ⟨"MeasureChoice$Ladder", "addGains", "(ILMeasureChoice$House;)V"⟩, Cond.code ⟨"MeasureChoice$Ladder", "addGains", "(ILMeasureChoice$House;)V"⟩ prog_3_method_9_code 9 none, Cond.methodLink "MeasureChoice$Ladder" 52 ⟨"MeasureChoice$Ladder", "keepUnbeaten", "(LMeasureChoice$House;)V"⟩, Cond.instanceMethod ⟨"MeasureChoice$Ladder", "keepUnbeaten", "(LMeasureChoice$House;)V"⟩, Cond.code ⟨"MeasureChoice$Ladder", "keepUnbeaten", "(LMeasureChoice$House;)V"⟩ prog_3_method_10_code 4 none, Cond.methodLink "MeasureChoice$Ladder" 22 ⟨"MeasureChoice$Ladder", "setAt", "(I)I"⟩]
def mcB_4 : List Cond := [Cond.instanceMethod ⟨"MeasureChoice$Ladder", "setAt", "(I)I"⟩, Cond.selects "MeasureChoice$Ladder" ⟨"MeasureChoice$Ladder", "setAt", "(I)I"⟩ ⟨"MeasureChoice$Ladder", "setAt", "(I)I"⟩, Cond.code ⟨"MeasureChoice$Ladder", "setAt", "(I)I"⟩ prog_3_method_2_code 2 (some FieldType.int), Cond.methodLink "MeasureChoice$Ladder" 32 ⟨"MeasureChoice$Ladder", "gainAt", "(I)I"⟩, Cond.instanceMethod ⟨"MeasureChoice$Ladder", "gainAt", "(I)I"⟩, Cond.selects "MeasureChoice$Ladder" ⟨"MeasureChoice$Ladder", "gainAt", "(I)I"⟩ ⟨"MeasureChoice$Ladder", "gainAt", "(I)I"⟩, Cond.code ⟨"MeasureChoice$Ladder", "gainAt", "(I)I"⟩ prog_3_method_4_code 2 (some FieldType.int), Cond.methodLink "MeasureChoice$Ladder" 61 ⟨"MeasureChoice$House", "allows", "(I)Z"⟩, Cond.instanceMethod ⟨"MeasureChoice$House", "allows", "(I)Z"⟩, Cond.selects "MeasureChoice$House" ⟨"MeasureChoice$House", "allows", "(I)Z"⟩ ⟨"MeasureChoice$House", "allows", "(I)Z"⟩, Cond.code ⟨"MeasureChoice$House", "allows", "(I)Z"⟩ prog_2_method_7_code 3 (some FieldType.boolean), Cond.methodLink "MeasureChoice$House" 44 ⟨"MeasureChoice$House", "has", "(II)Z"⟩, Cond.static ⟨"MeasureChoice$House", "has", "(II)Z"⟩, Cond.code ⟨"MeasureChoice$House", "has", "(II)Z"⟩ prog_2_method_13_code 2 (some FieldType.boolean), Cond.methodLink "MeasureChoice$Ladder" 29 ⟨"MeasureChoice$Ladder", "costAt", "(I)I"⟩, Cond.instanceMethod ⟨"MeasureChoice$Ladder", "costAt", "(I)I"⟩, Cond.selects "MeasureChoice$Ladder" ⟨"MeasureChoice$Ladder", "costAt", "(I)I"⟩ ⟨"MeasureChoice$Ladder", "costAt", "(I)I"⟩, Cond.code ⟨"MeasureChoice$Ladder", "costAt", "(I)I"⟩ prog_3_method_3_code 2 (some FieldType.int), Cond.methodLink "MeasureChoice" 118 ⟨"MeasureChoice$Ladder", "lowestGaining", "(I)I"⟩, Cond.instanceMethod ⟨"MeasureChoice$Ladder", "lowestGaining", "(I)I"⟩, Cond.selects "MeasureChoice$Ladder" ⟨"MeasureChoice$Ladder", "lowestGaining", "(I)I"⟩ ⟨"MeasureChoice$Ladder", "lowestGaining", "(I)I"⟩, Cond.code ⟨"MeasureChoice$Ladder", "lowestGaining", "(I)I"⟩ prog_3_method_6_code 3 (some FieldType.int), Cond.methodLink "MeasureChoice" 121 ⟨"MeasureChoice$Ladder", "costAt", "(I)I"⟩, Cond.methodLink "MeasureChoiceLaw" 65 ⟨"MeasureChoiceLaw", "measure", "(LMeasureChoice;II[J)I"⟩, Cond.static ⟨"MeasureChoiceLaw", "measure", "(LMeasureChoice;II[J)I"⟩, Cond.codeWith ⟨"MeasureChoiceLaw", "measure", "(LMeasureChoice;II[J)I"⟩ method_3_code 5 (some FieldType.int) [(0, 10, 13, 13), (0, 10, 17, 15)], Cond.classLink "MeasureChoiceLaw" 13 "java/lang/IllegalArgumentException", Cond.classLink "MeasureChoiceLaw" 15 "java/lang/IllegalStateException", Cond.methodLink "MeasureChoiceLaw" 7 ⟨"MeasureChoice", "measure", "(II)I"⟩, Cond.instanceMethod ⟨"MeasureChoice", "measure", "(II)I"⟩, Cond.selects "MeasureChoice" ⟨"MeasureChoice", "measure", "(II)I"⟩ ⟨"MeasureChoice", "measure", "(II)I"⟩, Cond.code ⟨"MeasureChoice", "measure", "(II)I"⟩ prog_1_method_2_code 3 (some FieldType.int), Cond.methodLink "MeasureChoice" 30 ⟨"MeasureChoice", "requireCostAndGain", "(II)V"⟩, Cond.static ⟨"MeasureChoice", "requireCostAndGain", "(II)V"⟩, Cond.code ⟨"MeasureChoice", "requireCostAndGain", "(II)V"⟩ prog_1_method_19_code 2 none, Cond.methodLink "MeasureChoice" 78 ⟨"MeasureChoice", "requireBetween", "(III)V"⟩, Cond.static ⟨"MeasureChoice", "requireBetween", "(III)V"⟩, Cond.code ⟨"MeasureChoice", "requireBetween", "(III)V"⟩ prog_1_method_17_code 3 none, Cond.classLink "MeasureChoice" 125 "java/lang/IllegalArgumentException", Cond.instantiable "java/lang/IllegalArgumentException" 6]
def mcB_5 : List Cond := [Cond.selects "java/lang/IllegalArgumentException" ⟨"java/lang/Throwable", "fillInStackTrace", "(I)Ljava/lang/Throwable;"⟩ ⟨"java/lang/Throwable", "fillInStackTrace", "(I)Ljava/lang/Throwable;"⟩, Cond.selects "java/lang/IllegalArgumentException" ⟨"java/lang/Throwable", "fillInStackTrace", "()Ljava/lang/Throwable;"⟩ ⟨"java/lang/Throwable", "fillInStackTrace", "()Ljava/lang/Throwable;"⟩, Cond.lays "java/lang/IllegalArgumentException" "java/lang/Throwable" "cause" "Ljava/lang/Throwable;", Cond.lays "java/lang/Throwable" "java/lang/Throwable" "cause" "Ljava/lang/Throwable;", Cond.lays "java/lang/IllegalArgumentException" "java/lang/Throwable" "stackTrace" "[Ljava/lang/StackTraceElement;", Cond.lays "java/lang/Throwable" "java/lang/Throwable" "stackTrace" "[Ljava/lang/StackTraceElement;", Cond.lays "java/lang/IllegalArgumentException" "java/lang/Throwable" "suppressedExceptions" "Ljava/util/List;", Cond.lays "java/lang/Throwable" "java/lang/Throwable" "suppressedExceptions" "Ljava/util/List;", Cond.lays "java/lang/IllegalArgumentException" "java/lang/Throwable" "detailMessage" "Ljava/lang/String;", Cond.lays "java/lang/Throwable" "java/lang/Throwable" "detailMessage" "Ljava/lang/String;", Cond.lays "java/lang/IllegalArgumentException" "java/lang/Throwable" "backtrace" "Ljava/lang/Object;", Cond.lays "java/lang/Throwable" "java/lang/Throwable" "backtrace" "Ljava/lang/Object;", Cond.fieldLink "java/lang/Throwable" 198 "java/lang/Throwable" "backtrace" "Ljava/lang/Object;", Cond.superclass "java/lang/Throwable" "java/lang/Object", Cond.instanceMethod ⟨"java/lang/Throwable", "<init>", "()V"⟩, Cond.code ⟨"java/lang/Throwable", "<init>", "()V"⟩ prog_13_method_1_code 1 none, Cond.methodLink "java/lang/Throwable" 1 ⟨"java/lang/Object", "<init>", "()V"⟩, Cond.fieldLink "java/lang/Throwable" 13 "java/lang/Throwable" "UNASSIGNED_STACK" "[Ljava/lang/StackTraceElement;", Cond.fieldLink "java/lang/Throwable" 20 "java/lang/Throwable" "SUPPRESSED_SENTINEL" "Ljava/util/List;", Cond.methodLink "java/lang/Throwable" 27 ⟨"java/lang/Throwable", "fillInStackTrace", "()Ljava/lang/Throwable;"⟩, Cond.instanceMethod ⟨"java/lang/Throwable", "fillInStackTrace", "()Ljava/lang/Throwable;"⟩, Cond.sameMethod "java/lang/Throwable" "java/lang/Throwable" "fillInStackTrace" "()Ljava/lang/Throwable;", Cond.selects "java/lang/IllegalStateException" ⟨"java/lang/Throwable", "fillInStackTrace", "()Ljava/lang/Throwable;"⟩ ⟨"java/lang/Throwable", "fillInStackTrace", "()Ljava/lang/Throwable;"⟩, Cond.codeSync ⟨"java/lang/Throwable", "fillInStackTrace", "()Ljava/lang/Throwable;"⟩ prog_13_method_18_code 1 (some (FieldType.object "java/lang/Throwable")), Cond.methodLink "java/lang/Throwable" 202 ⟨"java/lang/Throwable", "fillInStackTrace", "(I)Ljava/lang/Throwable;"⟩, Cond.instanceMethod ⟨"java/lang/Throwable", "fillInStackTrace", "(I)Ljava/lang/Throwable;"⟩, Cond.instantiable "java/lang/Throwable" 6, Cond.native ⟨"java/lang/Throwable", "fillInStackTrace", "(I)Ljava/lang/Throwable;"⟩, Cond.methodLink "MeasureChoice" 129 ⟨"java/lang/IllegalArgumentException", "<init>", "(Ljava/lang/String;)V"⟩, Cond.instanceMethod ⟨"java/lang/IllegalArgumentException", "<init>", "(Ljava/lang/String;)V"⟩, Cond.code ⟨"java/lang/IllegalArgumentException", "<init>", "(Ljava/lang/String;)V"⟩ prog_8_method_2_code 2 none, Cond.methodLink "java/lang/IllegalArgumentException" 7 ⟨"java/lang/RuntimeException", "<init>", "(Ljava/lang/String;)V"⟩, Cond.instanceMethod ⟨"java/lang/RuntimeException", "<init>", "(Ljava/lang/String;)V"⟩, Cond.code ⟨"java/lang/RuntimeException", "<init>", "(Ljava/lang/String;)V"⟩ prog_11_method_2_code 2 none, Cond.methodLink "java/lang/RuntimeException" 7 ⟨"java/lang/Exception", "<init>", "(Ljava/lang/String;)V"⟩, Cond.instanceMethod ⟨"java/lang/Exception", "<init>", "(Ljava/lang/String;)V"⟩, Cond.code ⟨"java/lang/Exception", "<init>", "(Ljava/lang/String;)V"⟩ prog_7_method_2_code 2 none, Cond.methodLink "java/lang/Exception" 7 ⟨"java/lang/Throwable", "<init>", "(Ljava/lang/String;)V"⟩, Cond.instanceMethod ⟨"java/lang/Throwable", "<init>", "(Ljava/lang/String;)V"⟩, Cond.code ⟨"java/lang/Throwable", "<init>", "(Ljava/lang/String;)V"⟩ prog_13_method_2_code 2 none]
def mcB_6 : List Cond := [Cond.fieldLink "java/lang/Throwable" 198 "java/lang/Throwable" "backtrace" "Ljava/lang/Object;", Cond.fieldLink "java/lang/Throwable" 31 "java/lang/Throwable" "detailMessage" "Ljava/lang/String;", Cond.fieldLink "java/lang/Throwable" 7 "java/lang/Throwable" "cause" "Ljava/lang/Throwable;", Cond.fieldLink "java/lang/Throwable" 17 "java/lang/Throwable" "stackTrace" "[Ljava/lang/StackTraceElement;", Cond.fieldLink "java/lang/Throwable" 24 "java/lang/Throwable" "suppressedExceptions" "Ljava/util/List;", Cond.soleField "java/lang/Throwable" "backtrace", Cond.soleField "java/lang/Throwable" "detailMessage", Cond.soleField "java/lang/Throwable" "cause", Cond.soleField "java/lang/Throwable" "stackTrace", Cond.lays "java/lang/IllegalArgumentException" "java/lang/Throwable" "depth" "I", Cond.soleField "java/lang/Throwable" "depth", Cond.soleField "java/lang/Throwable" "suppressedExceptions", Cond.superclass "java/lang/IllegalArgumentException" "java/lang/RuntimeException", Cond.arrayClass FieldType.byte, Cond.classLink "MeasureChoice" 38 "java/lang/IllegalStateException", Cond.instantiable "java/lang/IllegalStateException" 6, Cond.selects "java/lang/IllegalStateException" ⟨"java/lang/Throwable", "fillInStackTrace", "(I)Ljava/lang/Throwable;"⟩ ⟨"java/lang/Throwable", "fillInStackTrace", "(I)Ljava/lang/Throwable;"⟩, Cond.lays "java/lang/IllegalStateException" "java/lang/Throwable" "cause" "Ljava/lang/Throwable;", Cond.lays "java/lang/IllegalStateException" "java/lang/Throwable" "stackTrace" "[Ljava/lang/StackTraceElement;", Cond.lays "java/lang/IllegalStateException" "java/lang/Throwable" "suppressedExceptions" "Ljava/util/List;", Cond.lays "java/lang/IllegalStateException" "java/lang/Throwable" "detailMessage" "Ljava/lang/String;", Cond.lays "java/lang/IllegalStateException" "java/lang/Throwable" "backtrace" "Ljava/lang/Object;", Cond.methodLink "MeasureChoice" 42 ⟨"java/lang/IllegalStateException", "<init>", "(Ljava/lang/String;)V"⟩, Cond.instanceMethod ⟨"java/lang/IllegalStateException", "<init>", "(Ljava/lang/String;)V"⟩, Cond.code ⟨"java/lang/IllegalStateException", "<init>", "(Ljava/lang/String;)V"⟩ prog_9_method_2_code 2 none, Cond.methodLink "java/lang/IllegalStateException" 7 ⟨"java/lang/RuntimeException", "<init>", "(Ljava/lang/String;)V"⟩, Cond.lays "java/lang/IllegalStateException" "java/lang/Throwable" "depth" "I", Cond.superclass "java/lang/IllegalStateException" "java/lang/RuntimeException", Cond.methodLink "MeasureChoice" 45 ⟨"MeasureChoice$House", "add", "(II)I"⟩, Cond.instanceMethod ⟨"MeasureChoice$House", "add", "(II)I"⟩, Cond.selects "MeasureChoice$House" ⟨"MeasureChoice$House", "add", "(II)I"⟩ ⟨"MeasureChoice$House", "add", "(II)I"⟩, Cond.code ⟨"MeasureChoice$House", "add", "(II)I"⟩ prog_2_method_2_code 4 (some FieldType.int), Cond.methodLink "MeasureChoice$House" 33 ⟨"MeasureChoice$House", "put", "(III)V"⟩, Cond.instanceMethod ⟨"MeasureChoice$House", "put", "(III)V"⟩, Cond.selects "MeasureChoice$House" ⟨"MeasureChoice$House", "put", "(III)V"⟩ ⟨"MeasureChoice$House", "put", "(III)V"⟩, Cond.code ⟨"MeasureChoice$House", "put", "(III)V"⟩ prog_2_method_3_code 4 none, Cond.methodLink "MeasureChoiceLaw" 75 ⟨"MeasureChoiceLaw", "change", "(LMeasureChoice;III)I"⟩, Cond.static ⟨"MeasureChoiceLaw", "change", "(LMeasureChoice;III)I"⟩, Cond.codeWith ⟨"MeasureChoiceLaw", "change", "(LMeasureChoice;III)I"⟩ method_4_code 5 (some FieldType.int) [(0, 7, 10, 13)], Cond.methodLink "MeasureChoiceLaw" 17 ⟨"MeasureChoice", "change", "(III)V"⟩]
def mcB_7 : List Cond := [Cond.instanceMethod ⟨"MeasureChoice", "change", "(III)V"⟩, Cond.selects "MeasureChoice" ⟨"MeasureChoice", "change", "(III)V"⟩ ⟨"MeasureChoice", "change", "(III)V"⟩, Cond.code ⟨"MeasureChoice", "change", "(III)V"⟩ prog_1_method_3_code 4 none, Cond.methodLink "MeasureChoice" 49 ⟨"MeasureChoice", "requireMeasure", "(I)V"⟩, Cond.instanceMethod ⟨"MeasureChoice", "requireMeasure", "(I)V"⟩, Cond.code ⟨"MeasureChoice", "requireMeasure", "(I)V"⟩ prog_1_method_20_code 2 none, Cond.methodLink "MeasureChoice" 53 ⟨"MeasureChoice$House", "put", "(III)V"⟩, Cond.methodLink "MeasureChoiceLaw" 79 ⟨"MeasureChoiceLaw", "exclude", "(LMeasureChoice;IIZ[J)I"⟩, Cond.static ⟨"MeasureChoiceLaw", "exclude", "(LMeasureChoice;IIZ[J)I"⟩, Cond.codeWith ⟨"MeasureChoiceLaw", "exclude", "(LMeasureChoice;IIZ[J)I"⟩ method_5_code 6 (some FieldType.int) [(0, 19, 22, 13)], Cond.methodLink "MeasureChoiceLaw" 21 ⟨"MeasureChoice", "exclude", "(IIZ)Z"⟩, Cond.instanceMethod ⟨"MeasureChoice", "exclude", "(IIZ)Z"⟩, Cond.selects "MeasureChoice" ⟨"MeasureChoice", "exclude", "(IIZ)Z"⟩ ⟨"MeasureChoice", "exclude", "(IIZ)Z"⟩, Cond.code ⟨"MeasureChoice", "exclude", "(IIZ)Z"⟩ prog_1_method_4_code 5 (some FieldType.boolean), Cond.methodLink "MeasureChoice" 57 ⟨"MeasureChoice", "requirePair", "(II)V"⟩, Cond.instanceMethod ⟨"MeasureChoice", "requirePair", "(II)V"⟩, Cond.code ⟨"MeasureChoice", "requirePair", "(II)V"⟩ prog_1_method_21_code 3 none, Cond.methodLink "MeasureChoice" 64 ⟨"MeasureChoice$House", "has", "(II)Z"⟩, Cond.methodLink "MeasureChoice" 68 ⟨"MeasureChoice$House", "putExcluded", "(IIZ)V"⟩, Cond.instanceMethod ⟨"MeasureChoice$House", "putExcluded", "(IIZ)V"⟩, Cond.selects "MeasureChoice$House" ⟨"MeasureChoice$House", "putExcluded", "(IIZ)V"⟩ ⟨"MeasureChoice$House", "putExcluded", "(IIZ)V"⟩, Cond.code ⟨"MeasureChoice$House", "putExcluded", "(IIZ)V"⟩ prog_2_method_4_code 4 none, Cond.methodLink "MeasureChoice$House" 40 ⟨"MeasureChoice$House", "with", "(IIZ)I"⟩, Cond.static ⟨"MeasureChoice$House", "with", "(IIZ)I"⟩, Cond.code ⟨"MeasureChoice$House", "with", "(IIZ)I"⟩ prog_2_method_14_code 4 (some FieldType.int), Cond.methodLink "MeasureChoiceLaw" 83 ⟨"MeasureChoiceLaw", "needs", "(LMeasureChoice;IIZ[J)I"⟩, Cond.static ⟨"MeasureChoiceLaw", "needs", "(LMeasureChoice;IIZ[J)I"⟩, Cond.codeWith ⟨"MeasureChoiceLaw", "needs", "(LMeasureChoice;IIZ[J)I"⟩ method_6_code 6 (some FieldType.int) [(0, 19, 22, 13)], Cond.methodLink "MeasureChoiceLaw" 25 ⟨"MeasureChoice", "needs", "(IIZ)Z"⟩, Cond.instanceMethod ⟨"MeasureChoice", "needs", "(IIZ)Z"⟩, Cond.selects "MeasureChoice" ⟨"MeasureChoice", "needs", "(IIZ)Z"⟩ ⟨"MeasureChoice", "needs", "(IIZ)Z"⟩, Cond.code ⟨"MeasureChoice", "needs", "(IIZ)Z"⟩ prog_1_method_5_code 5 (some FieldType.boolean), Cond.methodLink "MeasureChoice" 75 ⟨"MeasureChoice$House", "putNeeded", "(IIZ)V"⟩, Cond.instanceMethod ⟨"MeasureChoice$House", "putNeeded", "(IIZ)V"⟩, Cond.selects "MeasureChoice$House" ⟨"MeasureChoice$House", "putNeeded", "(IIZ)V"⟩ ⟨"MeasureChoice$House", "putNeeded", "(IIZ)V"⟩, Cond.code ⟨"MeasureChoice$House", "putNeeded", "(IIZ)V"⟩ prog_2_method_5_code 4 none, Cond.methodLink "MeasureChoiceLaw" 86 ⟨"MeasureChoiceLaw", "bonus", "(LMeasureChoice;III[J)I"⟩, Cond.static ⟨"MeasureChoiceLaw", "bonus", "(LMeasureChoice;III[J)I"⟩, Cond.codeWith ⟨"MeasureChoiceLaw", "bonus", "(LMeasureChoice;III[J)I"⟩ method_7_code 6 (some FieldType.int) [(0, 12, 15, 13)], Cond.methodLink "MeasureChoiceLaw" 28 ⟨"MeasureChoice", "bonus", "(III)I"⟩]
def mcB_8 : List Cond := [Cond.instanceMethod ⟨"MeasureChoice", "bonus", "(III)I"⟩, Cond.selects "MeasureChoice" ⟨"MeasureChoice", "bonus", "(III)I"⟩ ⟨"MeasureChoice", "bonus", "(III)I"⟩, Cond.code ⟨"MeasureChoice", "bonus", "(III)I"⟩ prog_1_method_6_code 5 (some FieldType.int), Cond.methodLink "MeasureChoice" 85 ⟨"MeasureChoice$House", "putBonus", "(III)V"⟩, Cond.instanceMethod ⟨"MeasureChoice$House", "putBonus", "(III)V"⟩, Cond.selects "MeasureChoice$House" ⟨"MeasureChoice$House", "putBonus", "(III)V"⟩ ⟨"MeasureChoice$House", "putBonus", "(III)V"⟩, Cond.code ⟨"MeasureChoice$House", "putBonus", "(III)V"⟩ prog_2_method_6_code 4 none, Cond.methodLink "MeasureChoiceLaw" 90 ⟨"MeasureChoiceLaw", "lawful", "(LMeasureChoice;I[J)I"⟩, Cond.static ⟨"MeasureChoiceLaw", "lawful", "(LMeasureChoice;I[J)I"⟩, Cond.codeWith ⟨"MeasureChoiceLaw", "lawful", "(LMeasureChoice;I[J)I"⟩ method_8_code 4 (some FieldType.int) [(0, 16, 19, 13)], Cond.methodLink "MeasureChoiceLaw" 32 ⟨"MeasureChoice", "lawful", "(I)Z"⟩, Cond.instanceMethod ⟨"MeasureChoice", "lawful", "(I)Z"⟩, Cond.selects "MeasureChoice" ⟨"MeasureChoice", "lawful", "(I)Z"⟩ ⟨"MeasureChoice", "lawful", "(I)Z"⟩, Cond.code ⟨"MeasureChoice", "lawful", "(I)Z"⟩ prog_1_method_7_code 2 (some FieldType.boolean), Cond.methodLink "MeasureChoice" 88 ⟨"MeasureChoice", "requireSet", "(I)V"⟩, Cond.instanceMethod ⟨"MeasureChoice", "requireSet", "(I)V"⟩, Cond.code ⟨"MeasureChoice", "requireSet", "(I)V"⟩ prog_1_method_22_code 2 none, Cond.methodLink "MeasureChoice" 91 ⟨"MeasureChoice$House", "allows", "(I)Z"⟩, Cond.methodLink "MeasureChoiceLaw" 94 ⟨"MeasureChoiceLaw", "told", "(LMeasureChoice;II[J)I"⟩, Cond.static ⟨"MeasureChoiceLaw", "told", "(LMeasureChoice;II[J)I"⟩, Cond.codeWith ⟨"MeasureChoiceLaw", "told", "(LMeasureChoice;II[J)I"⟩ method_9_code 5 (some FieldType.int) [(0, 10, 13, 13)], Cond.methodLink "MeasureChoiceLaw" 36 ⟨"MeasureChoice", "told", "(II)I"⟩, Cond.instanceMethod ⟨"MeasureChoice", "told", "(II)I"⟩, Cond.selects "MeasureChoice" ⟨"MeasureChoice", "told", "(II)I"⟩ ⟨"MeasureChoice", "told", "(II)I"⟩, Cond.code ⟨"MeasureChoice", "told", "(II)I"⟩ prog_1_method_8_code 3 (some FieldType.int), Cond.methodLink "MeasureChoice" 95 ⟨"MeasureChoice$House", "costOf", "(I)I"⟩, Cond.instanceMethod ⟨"MeasureChoice$House", "costOf", "(I)I"⟩, Cond.selects "MeasureChoice$House" ⟨"MeasureChoice$House", "costOf", "(I)I"⟩ ⟨"MeasureChoice$House", "costOf", "(I)I"⟩, Cond.code ⟨"MeasureChoice$House", "costOf", "(I)I"⟩ prog_2_method_8_code 4 (some FieldType.int), Cond.methodLink "MeasureChoice" 99 ⟨"MeasureChoice$House", "gainOf", "(I)I"⟩, Cond.instanceMethod ⟨"MeasureChoice$House", "gainOf", "(I)I"⟩, Cond.selects "MeasureChoice$House" ⟨"MeasureChoice$House", "gainOf", "(I)I"⟩ ⟨"MeasureChoice$House", "gainOf", "(I)I"⟩, Cond.code ⟨"MeasureChoice$House", "gainOf", "(I)I"⟩ prog_2_method_9_code 4 (some FieldType.int), Cond.methodLink "MeasureChoice$House" 48 ⟨"MeasureChoice$House", "bonusWithEarlier", "(II)I"⟩, Cond.instanceMethod ⟨"MeasureChoice$House", "bonusWithEarlier", "(II)I"⟩, Cond.code ⟨"MeasureChoice$House", "bonusWithEarlier", "(II)I"⟩ prog_2_method_10_code 5 (some FieldType.int), Cond.methodLink "MeasureChoiceLaw" 97 ⟨"MeasureChoiceLaw", "closure", "(LMeasureChoice;I[J)I"⟩, Cond.static ⟨"MeasureChoiceLaw", "closure", "(LMeasureChoice;I[J)I"⟩, Cond.codeWith ⟨"MeasureChoiceLaw", "closure", "(LMeasureChoice;I[J)I"⟩ method_10_code 4 (some FieldType.int) [(0, 9, 12, 13)], Cond.methodLink "MeasureChoiceLaw" 39 ⟨"MeasureChoice", "closure", "(I)I"⟩]
def mcB_9 : List Cond := [Cond.instanceMethod ⟨"MeasureChoice", "closure", "(I)I"⟩, Cond.selects "MeasureChoice" ⟨"MeasureChoice", "closure", "(I)I"⟩ ⟨"MeasureChoice", "closure", "(I)I"⟩, Cond.code ⟨"MeasureChoice", "closure", "(I)I"⟩ prog_1_method_9_code 2 (some FieldType.int), Cond.methodLink "MeasureChoice" 102 ⟨"MeasureChoice$House", "broughtBy", "(I)I"⟩, Cond.instanceMethod ⟨"MeasureChoice$House", "broughtBy", "(I)I"⟩, Cond.selects "MeasureChoice$House" ⟨"MeasureChoice$House", "broughtBy", "(I)I"⟩ ⟨"MeasureChoice$House", "broughtBy", "(I)I"⟩, Cond.code ⟨"MeasureChoice$House", "broughtBy", "(I)I"⟩ prog_2_method_11_code 4 (some FieldType.int), Cond.methodLink "MeasureChoice$House" 52 ⟨"MeasureChoice$House", "withItsNeeds", "(I)I"⟩, Cond.instanceMethod ⟨"MeasureChoice$House", "withItsNeeds", "(I)I"⟩, Cond.code ⟨"MeasureChoice$House", "withItsNeeds", "(I)I"⟩ prog_2_method_12_code 4 (some FieldType.int), Cond.methodLink "MeasureChoiceLaw" 100 ⟨"MeasureChoiceLaw", "best", "(LMeasureChoice;I[J)I"⟩, Cond.static ⟨"MeasureChoiceLaw", "best", "(LMeasureChoice;I[J)I"⟩, Cond.codeWith ⟨"MeasureChoiceLaw", "best", "(LMeasureChoice;I[J)I"⟩ method_11_code 4 (some FieldType.int) [(0, 9, 12, 13)], Cond.methodLink "MeasureChoiceLaw" 43 ⟨"MeasureChoice", "best", "(I)I"⟩, Cond.instanceMethod ⟨"MeasureChoice", "best", "(I)I"⟩, Cond.selects "MeasureChoice" ⟨"MeasureChoice", "best", "(I)I"⟩ ⟨"MeasureChoice", "best", "(I)I"⟩, Cond.code ⟨"MeasureChoice", "best", "(I)I"⟩ prog_1_method_10_code 2 (some FieldType.int), Cond.methodLink "MeasureChoice" 105 ⟨"MeasureChoice", "requireNotBelowZero", "(I)V"⟩, Cond.static ⟨"MeasureChoice", "requireNotBelowZero", "(I)V"⟩, Cond.code ⟨"MeasureChoice", "requireNotBelowZero", "(I)V"⟩ prog_1_method_18_code 1 none, Cond.methodLink "MeasureChoice" 112 ⟨"MeasureChoice$Ladder", "highestWithin", "(I)I"⟩, Cond.instanceMethod ⟨"MeasureChoice$Ladder", "highestWithin", "(I)I"⟩, Cond.selects "MeasureChoice$Ladder" ⟨"MeasureChoice$Ladder", "highestWithin", "(I)I"⟩ ⟨"MeasureChoice$Ladder", "highestWithin", "(I)I"⟩, Cond.code ⟨"MeasureChoice$Ladder", "highestWithin", "(I)I"⟩ prog_3_method_5_code 4 (some FieldType.int), Cond.methodLink "MeasureChoice" 115 ⟨"MeasureChoice$Ladder", "setAt", "(I)I"⟩, Cond.methodLink "MeasureChoiceLaw" 107 ⟨"MeasureChoiceLaw", "worth", "(LMeasureChoice;II[J)I"⟩, Cond.static ⟨"MeasureChoiceLaw", "worth", "(LMeasureChoice;II[J)I"⟩, Cond.codeWith ⟨"MeasureChoiceLaw", "worth", "(LMeasureChoice;II[J)I"⟩ method_12_code 5 (some FieldType.int) [(0, 10, 13, 13)], Cond.methodLink "MeasureChoiceLaw" 46 ⟨"MeasureChoice", "worth", "(II)I"⟩, Cond.instanceMethod ⟨"MeasureChoice", "worth", "(II)I"⟩, Cond.selects "MeasureChoice" ⟨"MeasureChoice", "worth", "(II)I"⟩ ⟨"MeasureChoice", "worth", "(II)I"⟩, Cond.code ⟨"MeasureChoice", "worth", "(II)I"⟩ prog_1_method_12_code 4 (some FieldType.int), Cond.constant "MeasureChoice" 124 (1000000 : Int32), Cond.methodLink "MeasureChoice" 130 ⟨"MeasureChoice$Ladder", "gainAt", "(I)I"⟩, Cond.methodLink "MeasureChoiceLaw" 110 ⟨"MeasureChoiceLaw", "frontier", "(LMeasureChoice;I[J)I"⟩, Cond.static ⟨"MeasureChoiceLaw", "frontier", "(LMeasureChoice;I[J)I"⟩, Cond.codeWith ⟨"MeasureChoiceLaw", "frontier", "(LMeasureChoice;I[J)I"⟩ method_13_code 4 (some FieldType.int) [(0, 9, 12, 13)], Cond.methodLink "MeasureChoiceLaw" 49 ⟨"MeasureChoice", "frontier", "(I)I"⟩, Cond.instanceMethod ⟨"MeasureChoice", "frontier", "(I)I"⟩, Cond.selects "MeasureChoice" ⟨"MeasureChoice", "frontier", "(I)I"⟩ ⟨"MeasureChoice", "frontier", "(I)I"⟩]
def mcB_10 : List Cond := [Cond.code ⟨"MeasureChoice", "frontier", "(I)I"⟩ prog_1_method_13_code 2 (some FieldType.int), Cond.methodLink "MeasureChoiceLaw" 113 ⟨"MeasureChoiceLaw", "year", "(LMeasureChoice;II[J)I"⟩, Cond.static ⟨"MeasureChoiceLaw", "year", "(LMeasureChoice;II[J)I"⟩, Cond.codeWith ⟨"MeasureChoiceLaw", "year", "(LMeasureChoice;II[J)I"⟩ method_14_code 5 (some FieldType.int) [(0, 10, 13, 13)], Cond.methodLink "MeasureChoiceLaw" 52 ⟨"MeasureChoice", "year", "(II)I"⟩, Cond.instanceMethod ⟨"MeasureChoice", "year", "(II)I"⟩, Cond.selects "MeasureChoice" ⟨"MeasureChoice", "year", "(II)I"⟩ ⟨"MeasureChoice", "year", "(II)I"⟩, Cond.code ⟨"MeasureChoice", "year", "(II)I"⟩ prog_1_method_14_code 4 (some FieldType.int), Cond.constant "MeasureChoice" 136 (100000 : Int32), Cond.methodLink "MeasureChoiceLaw" 116 ⟨"MeasureChoiceLaw", "plan", "(LMeasureChoice;II[J)I"⟩, Cond.static ⟨"MeasureChoiceLaw", "plan", "(LMeasureChoice;II[J)I"⟩, Cond.codeWith ⟨"MeasureChoiceLaw", "plan", "(LMeasureChoice;II[J)I"⟩ method_15_code 5 (some FieldType.int) [(0, 10, 13, 13)], Cond.methodLink "MeasureChoiceLaw" 55 ⟨"MeasureChoice", "plan", "(II)I"⟩, Cond.instanceMethod ⟨"MeasureChoice", "plan", "(II)I"⟩, Cond.selects "MeasureChoice" ⟨"MeasureChoice", "plan", "(II)I"⟩ ⟨"MeasureChoice", "plan", "(II)I"⟩, Cond.code ⟨"MeasureChoice", "plan", "(II)I"⟩ prog_1_method_15_code 3 (some FieldType.int), Cond.methodLink "MeasureChoice" 140 ⟨"MeasureChoice$Planner", "work", "(LMeasureChoice$House;I)V"⟩, Cond.instanceMethod ⟨"MeasureChoice$Planner", "work", "(LMeasureChoice$House;I)V"⟩, Cond.selects "MeasureChoice$Planner" ⟨"MeasureChoice$Planner", "work", "(LMeasureChoice$House;I)V"⟩ ⟨"MeasureChoice$Planner", "work", "(LMeasureChoice$House;I)V"⟩, Cond.code ⟨"MeasureChoice$Planner", "work", "(LMeasureChoice$House;I)V"⟩ prog_4_method_2_code 4 none, Cond.methodLink "MeasureChoice$Planner" 32 ⟨"MeasureChoice$Planner", "fillPurses", "()V"⟩, Cond.instanceMethod ⟨"MeasureChoice$Planner", "fillPurses", "()V"⟩, Cond.code ⟨"MeasureChoice$Planner", "fillPurses", "()V"⟩ prog_4_method_4_code 3 none, Cond.methodLink "MeasureChoice$Planner" 35 ⟨"MeasureChoice$Planner", "judgeSets", "(LMeasureChoice$House;)V"⟩, Cond.instanceMethod ⟨"MeasureChoice$Planner", "judgeSets", "(LMeasureChoice$House;)V"⟩, Cond.code ⟨"MeasureChoice$Planner", "judgeSets", "(LMeasureChoice$House;)V"⟩ prog_4_method_5_code 3 none, Cond.methodLink "MeasureChoice$Planner" 53 ⟨"java/lang/Math", "min", "(II)I"⟩, Cond.static ⟨"java/lang/Math", "min", "(II)I"⟩, Cond.code ⟨"java/lang/Math", "min", "(II)I"⟩ prog_10_method_69_code 2 (some FieldType.int), Cond.methodLink "MeasureChoice$Planner" 61 ⟨"MeasureChoice$House", "allows", "(I)Z"⟩, Cond.methodLink "MeasureChoice$Planner" 65 ⟨"MeasureChoice$House", "costOf", "(I)I"⟩, Cond.constant "MeasureChoice$Planner" 69 (400001 : Int32), Cond.methodLink "MeasureChoice$Planner" 70 ⟨"MeasureChoice$House", "gainOf", "(I)I"⟩, Cond.methodLink "MeasureChoice$Planner" 39 ⟨"MeasureChoice$Planner", "workYear", "(IZ)V"⟩, Cond.instanceMethod ⟨"MeasureChoice$Planner", "workYear", "(IZ)V"⟩, Cond.code ⟨"MeasureChoice$Planner", "workYear", "(IZ)V"⟩ prog_4_method_6_code 5 none, Cond.methodLink "MeasureChoice$Planner" 43 ⟨"MeasureChoice$Planner", "bestFrom", "(II)I"⟩, Cond.instanceMethod ⟨"MeasureChoice$Planner", "bestFrom", "(II)I"⟩, Cond.code ⟨"MeasureChoice$Planner", "bestFrom", "(II)I"⟩ prog_4_method_7_code 5 (some FieldType.int), Cond.methodLink "MeasureChoice$Planner" 73 ⟨"MeasureChoice$Planner", "isBetter", "(III)Z"⟩]
def mcB_11 : List Cond := [Cond.instanceMethod ⟨"MeasureChoice$Planner", "isBetter", "(III)Z"⟩, Cond.code ⟨"MeasureChoice$Planner", "isBetter", "(III)Z"⟩ prog_4_method_8_code 4 (some FieldType.boolean), Cond.methodLink "MeasureChoice" 144 ⟨"MeasureChoice$Planner", "boughtUpTo", "(I)I"⟩, Cond.instanceMethod ⟨"MeasureChoice$Planner", "boughtUpTo", "(I)I"⟩, Cond.selects "MeasureChoice$Planner" ⟨"MeasureChoice$Planner", "boughtUpTo", "(I)I"⟩ ⟨"MeasureChoice$Planner", "boughtUpTo", "(I)I"⟩, Cond.code ⟨"MeasureChoice$Planner", "boughtUpTo", "(I)I"⟩ prog_4_method_3_code 4 (some FieldType.int), Cond.methodLink "MeasureChoiceLaw" 119 ⟨"MeasureChoiceLaw", "planned", "(LMeasureChoice;I[J)I"⟩, Cond.static ⟨"MeasureChoiceLaw", "planned", "(LMeasureChoice;I[J)I"⟩, Cond.codeWith ⟨"MeasureChoiceLaw", "planned", "(LMeasureChoice;I[J)I"⟩ method_16_code 4 (some FieldType.int) [(0, 9, 12, 13)], Cond.methodLink "MeasureChoiceLaw" 58 ⟨"MeasureChoice", "planned", "(I)I"⟩, Cond.instanceMethod ⟨"MeasureChoice", "planned", "(I)I"⟩, Cond.selects "MeasureChoice" ⟨"MeasureChoice", "planned", "(I)I"⟩ ⟨"MeasureChoice", "planned", "(I)I"⟩, Cond.code ⟨"MeasureChoice", "planned", "(I)I"⟩ prog_1_method_16_code 2 (some FieldType.int), Cond.classLink "MeasureChoiceLaw" 62 "MeasureChoiceModel", Cond.instantiable "MeasureChoiceModel" 11, Cond.methodLink "MeasureChoiceLaw" 64 ⟨"MeasureChoiceModel", "<init>", "()V"⟩, Cond.instanceMethod ⟨"MeasureChoiceModel", "<init>", "()V"⟩, Cond.code ⟨"MeasureChoiceModel", "<init>", "()V"⟩ prog_6_method_1_code 1 none, Cond.methodLink "MeasureChoiceModel" 1 ⟨"java/lang/Object", "<init>", "()V"⟩, Cond.fieldLink "MeasureChoiceModel" 38 "MeasureChoiceModel" "thrown" "I", Cond.fieldLink "MeasureChoiceModel" 42 "MeasureChoiceModel" "many" "I", Cond.fieldLink "MeasureChoiceModel" 7 "MeasureChoiceModel" "costs" "[I", Cond.fieldLink "MeasureChoiceModel" 13 "MeasureChoiceModel" "gains" "[I", Cond.fieldLink "MeasureChoiceModel" 16 "MeasureChoiceModel" "barred" "[Z", Cond.fieldLink "MeasureChoiceModel" 20 "MeasureChoiceModel" "wants" "[Z", Cond.fieldLink "MeasureChoiceModel" 23 "MeasureChoiceModel" "bonuses" "[I", Cond.fieldLink "MeasureChoiceModel" 26 "MeasureChoiceModel" "budgets" "[I", Cond.fieldLink "MeasureChoiceModel" 29 "MeasureChoiceModel" "laterGain" "[I", Cond.fieldLink "MeasureChoiceModel" 32 "MeasureChoiceModel" "laterCost" "[I", Cond.fieldLink "MeasureChoiceModel" 35 "MeasureChoiceModel" "choice" "[I", Cond.lays "MeasureChoiceModel" "MeasureChoiceModel" "thrown" "I", Cond.soleField "MeasureChoiceModel" "thrown", Cond.lays "MeasureChoiceModel" "MeasureChoiceModel" "many" "I", Cond.soleField "MeasureChoiceModel" "many", Cond.laysFinal "MeasureChoiceModel" "MeasureChoiceModel" "costs" "[I", Cond.soleField "MeasureChoiceModel" "costs", Cond.laysFinal "MeasureChoiceModel" "MeasureChoiceModel" "gains" "[I", Cond.soleField "MeasureChoiceModel" "gains", Cond.laysFinal "MeasureChoiceModel" "MeasureChoiceModel" "barred" "[Z", Cond.soleField "MeasureChoiceModel" "barred"]
def mcB_12 : List Cond := [Cond.laysFinal "MeasureChoiceModel" "MeasureChoiceModel" "wants" "[Z", Cond.soleField "MeasureChoiceModel" "wants", Cond.laysFinal "MeasureChoiceModel" "MeasureChoiceModel" "bonuses" "[I", Cond.soleField "MeasureChoiceModel" "bonuses", Cond.laysFinal "MeasureChoiceModel" "MeasureChoiceModel" "budgets" "[I", Cond.soleField "MeasureChoiceModel" "budgets", Cond.laysFinal "MeasureChoiceModel" "MeasureChoiceModel" "laterGain" "[I", Cond.soleField "MeasureChoiceModel" "laterGain", Cond.laysFinal "MeasureChoiceModel" "MeasureChoiceModel" "laterCost" "[I", Cond.soleField "MeasureChoiceModel" "laterCost", Cond.laysFinal "MeasureChoiceModel" "MeasureChoiceModel" "choice" "[I", Cond.soleField "MeasureChoiceModel" "choice", Cond.superclass "MeasureChoiceModel" "java/lang/Object", Cond.arrayClass FieldType.boolean, Cond.methodLink "MeasureChoiceLaw" 71 ⟨"MeasureChoiceModel", "thrown", "()I"⟩, Cond.instanceMethod ⟨"MeasureChoiceModel", "thrown", "()I"⟩, Cond.selects "MeasureChoiceModel" ⟨"MeasureChoiceModel", "thrown", "()I"⟩ ⟨"MeasureChoiceModel", "thrown", "()I"⟩, Cond.code ⟨"MeasureChoiceModel", "thrown", "()I"⟩ prog_6_method_2_code 1 (some FieldType.int), Cond.methodLink "MeasureChoiceLaw" 70 ⟨"MeasureChoiceModel", "measure", "(II)I"⟩, Cond.instanceMethod ⟨"MeasureChoiceModel", "measure", "(II)I"⟩, Cond.selects "MeasureChoiceModel" ⟨"MeasureChoiceModel", "measure", "(II)I"⟩ ⟨"MeasureChoiceModel", "measure", "(II)I"⟩, Cond.code ⟨"MeasureChoiceModel", "measure", "(II)I"⟩ prog_6_method_6_code 3 (some FieldType.int), Cond.methodLink "MeasureChoiceModel" 45 ⟨"MeasureChoiceModel", "in", "(III)Z"⟩, Cond.static ⟨"MeasureChoiceModel", "in", "(III)Z"⟩, Cond.code ⟨"MeasureChoiceModel", "in", "(III)Z"⟩ prog_6_method_3_code 3 (some FieldType.boolean), Cond.methodLink "MeasureChoiceModel" 49 ⟨"MeasureChoiceModel", "good", "(Z)Z"⟩, Cond.instanceMethod ⟨"MeasureChoiceModel", "good", "(Z)Z"⟩, Cond.code ⟨"MeasureChoiceModel", "good", "(Z)Z"⟩ prog_6_method_5_code 2 (some FieldType.boolean), Cond.methodLink "MeasureChoiceLaw" 78 ⟨"MeasureChoiceModel", "change", "(III)V"⟩, Cond.instanceMethod ⟨"MeasureChoiceModel", "change", "(III)V"⟩, Cond.selects "MeasureChoiceModel" ⟨"MeasureChoiceModel", "change", "(III)V"⟩ ⟨"MeasureChoiceModel", "change", "(III)V"⟩, Cond.code ⟨"MeasureChoiceModel", "change", "(III)V"⟩ prog_6_method_7_code 4 none, Cond.methodLink "MeasureChoiceModel" 53 ⟨"MeasureChoiceModel", "is", "(I)Z"⟩, Cond.instanceMethod ⟨"MeasureChoiceModel", "is", "(I)Z"⟩, Cond.code ⟨"MeasureChoiceModel", "is", "(I)Z"⟩ prog_6_method_4_code 2 (some FieldType.boolean), Cond.methodLink "MeasureChoiceLaw" 82 ⟨"MeasureChoiceModel", "exclude", "(IIZ)Z"⟩, Cond.instanceMethod ⟨"MeasureChoiceModel", "exclude", "(IIZ)Z"⟩, Cond.selects "MeasureChoiceModel" ⟨"MeasureChoiceModel", "exclude", "(IIZ)Z"⟩ ⟨"MeasureChoiceModel", "exclude", "(IIZ)Z"⟩, Cond.code ⟨"MeasureChoiceModel", "exclude", "(IIZ)Z"⟩ prog_6_method_8_code 5 (some FieldType.boolean), Cond.methodLink "MeasureChoiceLaw" 85 ⟨"MeasureChoiceModel", "needs", "(IIZ)Z"⟩]
def mcB_13 : List Cond := [Cond.instanceMethod ⟨"MeasureChoiceModel", "needs", "(IIZ)Z"⟩, Cond.selects "MeasureChoiceModel" ⟨"MeasureChoiceModel", "needs", "(IIZ)Z"⟩ ⟨"MeasureChoiceModel", "needs", "(IIZ)Z"⟩, Cond.code ⟨"MeasureChoiceModel", "needs", "(IIZ)Z"⟩ prog_6_method_9_code 5 (some FieldType.boolean), Cond.methodLink "MeasureChoiceLaw" 89 ⟨"MeasureChoiceModel", "bonus", "(III)I"⟩, Cond.instanceMethod ⟨"MeasureChoiceModel", "bonus", "(III)I"⟩, Cond.selects "MeasureChoiceModel" ⟨"MeasureChoiceModel", "bonus", "(III)I"⟩ ⟨"MeasureChoiceModel", "bonus", "(III)I"⟩, Cond.code ⟨"MeasureChoiceModel", "bonus", "(III)I"⟩ prog_6_method_10_code 5 (some FieldType.int), Cond.methodLink "MeasureChoiceLaw" 93 ⟨"MeasureChoiceModel", "lawful", "(I)Z"⟩, Cond.instanceMethod ⟨"MeasureChoiceModel", "lawful", "(I)Z"⟩, Cond.selects "MeasureChoiceModel" ⟨"MeasureChoiceModel", "lawful", "(I)Z"⟩ ⟨"MeasureChoiceModel", "lawful", "(I)Z"⟩, Cond.code ⟨"MeasureChoiceModel", "lawful", "(I)Z"⟩ prog_6_method_16_code 2 (some FieldType.boolean), Cond.methodLink "MeasureChoiceModel" 61 ⟨"MeasureChoiceModel", "isSet", "(I)Z"⟩, Cond.instanceMethod ⟨"MeasureChoiceModel", "isSet", "(I)Z"⟩, Cond.code ⟨"MeasureChoiceModel", "isSet", "(I)Z"⟩ prog_6_method_12_code 2 (some FieldType.boolean), Cond.methodLink "MeasureChoiceModel" 64 ⟨"MeasureChoiceModel", "holds", "(I)Z"⟩, Cond.instanceMethod ⟨"MeasureChoiceModel", "holds", "(I)Z"⟩, Cond.code ⟨"MeasureChoiceModel", "holds", "(I)Z"⟩ prog_6_method_13_code 5 (some FieldType.boolean), Cond.methodLink "MeasureChoiceModel" 57 ⟨"MeasureChoiceModel", "has", "(II)Z"⟩, Cond.static ⟨"MeasureChoiceModel", "has", "(II)Z"⟩, Cond.code ⟨"MeasureChoiceModel", "has", "(II)Z"⟩ prog_6_method_11_code 2 (some FieldType.boolean), Cond.methodLink "MeasureChoiceLaw" 96 ⟨"MeasureChoiceModel", "told", "(II)I"⟩, Cond.instanceMethod ⟨"MeasureChoiceModel", "told", "(II)I"⟩, Cond.selects "MeasureChoiceModel" ⟨"MeasureChoiceModel", "told", "(II)I"⟩ ⟨"MeasureChoiceModel", "told", "(II)I"⟩, Cond.code ⟨"MeasureChoiceModel", "told", "(II)I"⟩ prog_6_method_17_code 3 (some FieldType.int), Cond.methodLink "MeasureChoiceModel" 67 ⟨"MeasureChoiceModel", "costOf", "(I)I"⟩, Cond.instanceMethod ⟨"MeasureChoiceModel", "costOf", "(I)I"⟩, Cond.code ⟨"MeasureChoiceModel", "costOf", "(I)I"⟩ prog_6_method_14_code 4 (some FieldType.int), Cond.methodLink "MeasureChoiceModel" 71 ⟨"MeasureChoiceModel", "gainOf", "(I)I"⟩, Cond.instanceMethod ⟨"MeasureChoiceModel", "gainOf", "(I)I"⟩, Cond.code ⟨"MeasureChoiceModel", "gainOf", "(I)I"⟩ prog_6_method_15_code 5 (some FieldType.int), Cond.methodLink "MeasureChoiceLaw" 99 ⟨"MeasureChoiceModel", "closure", "(I)I"⟩, Cond.instanceMethod ⟨"MeasureChoiceModel", "closure", "(I)I"⟩, Cond.selects "MeasureChoiceModel" ⟨"MeasureChoiceModel", "closure", "(I)I"⟩ ⟨"MeasureChoiceModel", "closure", "(I)I"⟩, Cond.code ⟨"MeasureChoiceModel", "closure", "(I)I"⟩ prog_6_method_18_code 6 (some FieldType.int), Cond.methodLink "MeasureChoiceLaw" 102 ⟨"MeasureChoiceModel", "best", "(I)I"⟩, Cond.instanceMethod ⟨"MeasureChoiceModel", "best", "(I)I"⟩, Cond.selects "MeasureChoiceModel" ⟨"MeasureChoiceModel", "best", "(I)I"⟩ ⟨"MeasureChoiceModel", "best", "(I)I"⟩, Cond.code ⟨"MeasureChoiceModel", "best", "(I)I"⟩ prog_6_method_20_code 2 (some FieldType.int), Cond.methodLink "MeasureChoiceModel" 74 ⟨"MeasureChoiceModel", "bestOf", "(J)I"⟩, Cond.instanceMethod ⟨"MeasureChoiceModel", "bestOf", "(J)I"⟩]
def mcB_14 : List Cond := [Cond.code ⟨"MeasureChoiceModel", "bestOf", "(J)I"⟩ prog_6_method_19_code 10 (some FieldType.int), Cond.methodLink "MeasureChoiceLaw" 106 ⟨"MeasureChoiceModel", "budget", "(I)I"⟩, Cond.instanceMethod ⟨"MeasureChoiceModel", "budget", "(I)I"⟩, Cond.selects "MeasureChoiceModel" ⟨"MeasureChoiceModel", "budget", "(I)I"⟩ ⟨"MeasureChoiceModel", "budget", "(I)I"⟩, Cond.code ⟨"MeasureChoiceModel", "budget", "(I)I"⟩ prog_6_method_21_code 6 (some FieldType.int), Cond.methodLink "MeasureChoiceLaw" 109 ⟨"MeasureChoiceModel", "worth", "(II)I"⟩, Cond.instanceMethod ⟨"MeasureChoiceModel", "worth", "(II)I"⟩, Cond.selects "MeasureChoiceModel" ⟨"MeasureChoiceModel", "worth", "(II)I"⟩ ⟨"MeasureChoiceModel", "worth", "(II)I"⟩, Cond.code ⟨"MeasureChoiceModel", "worth", "(II)I"⟩ prog_6_method_22_code 3 (some FieldType.int), Cond.constantLong "MeasureChoiceModel" 78 (1000000 : Int64), Cond.methodLink "MeasureChoiceLaw" 112 ⟨"MeasureChoiceModel", "frontier", "(I)I"⟩, Cond.instanceMethod ⟨"MeasureChoiceModel", "frontier", "(I)I"⟩, Cond.selects "MeasureChoiceModel" ⟨"MeasureChoiceModel", "frontier", "(I)I"⟩ ⟨"MeasureChoiceModel", "frontier", "(I)I"⟩, Cond.code ⟨"MeasureChoiceModel", "frontier", "(I)I"⟩ prog_6_method_24_code 4 (some FieldType.int), Cond.methodLink "MeasureChoiceModel" 80 ⟨"MeasureChoiceModel", "dearer", "(II)I"⟩, Cond.instanceMethod ⟨"MeasureChoiceModel", "dearer", "(II)I"⟩, Cond.code ⟨"MeasureChoiceModel", "dearer", "(II)I"⟩ prog_6_method_23_code 11 (some FieldType.int), Cond.methodLink "MeasureChoiceLaw" 115 ⟨"MeasureChoiceModel", "year", "(II)I"⟩, Cond.instanceMethod ⟨"MeasureChoiceModel", "year", "(II)I"⟩, Cond.selects "MeasureChoiceModel" ⟨"MeasureChoiceModel", "year", "(II)I"⟩ ⟨"MeasureChoiceModel", "year", "(II)I"⟩, Cond.code ⟨"MeasureChoiceModel", "year", "(II)I"⟩ prog_6_method_25_code 4 (some FieldType.int), Cond.constant "MeasureChoiceModel" 84 (100000 : Int32), Cond.methodLink "MeasureChoiceLaw" 118 ⟨"MeasureChoiceModel", "plan", "(II)I"⟩, Cond.instanceMethod ⟨"MeasureChoiceModel", "plan", "(II)I"⟩, Cond.selects "MeasureChoiceModel" ⟨"MeasureChoiceModel", "plan", "(II)I"⟩ ⟨"MeasureChoiceModel", "plan", "(II)I"⟩, Cond.code ⟨"MeasureChoiceModel", "plan", "(II)I"⟩ prog_6_method_28_code 5 (some FieldType.int), Cond.methodLink "MeasureChoiceModel" 89 ⟨"MeasureChoiceModel", "work", "(I)V"⟩, Cond.instanceMethod ⟨"MeasureChoiceModel", "work", "(I)V"⟩, Cond.code ⟨"MeasureChoiceModel", "work", "(I)V"⟩ prog_6_method_26_code 6 none, Cond.methodLink "MeasureChoiceModel" 85 ⟨"MeasureChoiceModel", "workOf", "(IIII)V"⟩, Cond.instanceMethod ⟨"MeasureChoiceModel", "workOf", "(IIII)V"⟩, Cond.code ⟨"MeasureChoiceModel", "workOf", "(IIII)V"⟩ prog_6_method_27_code 11 none, Cond.methodLink "MeasureChoiceLaw" 121 ⟨"MeasureChoiceModel", "planned", "(I)I"⟩, Cond.instanceMethod ⟨"MeasureChoiceModel", "planned", "(I)I"⟩, Cond.selects "MeasureChoiceModel" ⟨"MeasureChoiceModel", "planned", "(I)I"⟩ ⟨"MeasureChoiceModel", "planned", "(I)I"⟩, Cond.code ⟨"MeasureChoiceModel", "planned", "(I)I"⟩ prog_6_method_29_code 2 (some FieldType.int), Cond.arrayClass FieldType.long, Cond.sameMethod "java/lang/Throwable" "java/lang/Throwable" "fillInStackTrace" "(I)Ljava/lang/Throwable;"]
def mcB : List Cond := mcB_0 ++ (mcB_1 ++ (mcB_2 ++ (mcB_3 ++ (mcB_4 ++ (mcB_5 ++ (mcB_6 ++ (mcB_7 ++ (mcB_8 ++ (mcB_9 ++ (mcB_10 ++ (mcB_11 ++ (mcB_12 ++ (mcB_13 ++ (mcB_14))))))))))))))
theorem mcB_0_in : mcB_0 = [0, 1, 2, 3, 4, 5, 6, 7, 8, 9, 10, 11, 12, 13, 14, 15, 16, 17, 18, 19, 20, 21, 22, 23, 24, 25, 26, 27, 28, 29, 30, 31, 32, 33, 34, 35, 36, 37, 38, 39].filterMap (fun i => lw_tbl[i]?) := by decide +kernel
theorem mcB_0_ok : mcB_0.all goodWord = true := by decide +kernel
theorem mcB_1_in : mcB_1 = [40, 41, 42, 43, 44, 45, 47, 48, 49, 50, 52, 53, 54, 55, 56, 57, 58, 59, 60, 61, 62, 63, 64, 65, 66, 67, 68, 69, 70, 71, 72, 73, 74, 75, 76, 77, 78, 79, 80, 81].filterMap (fun i => lw_tbl[i]?) := by decide +kernel
theorem mcB_1_ok : mcB_1.all goodWord = true := by decide +kernel
theorem mcB_2_in : mcB_2 = [82, 83, 84, 85, 86, 88, 89, 90, 91, 92, 93, 94, 95, 96, 97, 98, 99, 100, 101, 102, 103, 104, 105, 106, 108, 109, 110, 111, 112, 113, 114, 115, 116, 117, 118, 119, 120, 121, 122, 123].filterMap (fun i => lw_tbl[i]?) := by decide +kernel
theorem mcB_2_ok : mcB_2.all goodWord = true := by decide +kernel
theorem mcB_3_in : mcB_3 = [124, 125, 126, 127, 128, 129, 130, 131, 132, 133, 134, 135, 136, 137, 138, 139, 140, 141, 142, 143, 144, 145, 146, 147, 148, 149, 150, 151, 152, 153, 154, 156, 157, 158, 160, 161, 162, 164, 165, 166].filterMap (fun i => lw_tbl[i]?) := by decide +kernel
theorem mcB_3_ok : mcB_3.all goodWord = true := by decide +kernel
theorem mcB_4_in : mcB_4 = [167, 168, 169, 170, 171, 172, 173, 174, 175, 176, 177, 178, 179, 180, 181, 182, 183, 184, 185, 186, 187, 188, 189, 190, 191, 192, 193, 194, 195, 196, 197, 198, 199, 200, 201, 202, 203, 204, 205, 206].filterMap (fun i => lw_tbl[i]?) := by decide +kernel
theorem mcB_4_ok : mcB_4.all goodWord = true := by decide +kernel
theorem mcB_5_in : mcB_5 = [214, 215, 216, 217, 218, 219, 220, 221, 222, 223, 224, 225, 226, 227, 228, 229, 230, 231, 233, 235, 236, 237, 238, 239, 240, 242, 243, 244, 246, 247, 248, 249, 250, 251, 252, 253, 254, 255, 256, 257].filterMap (fun i => lw_tbl[i]?) := by decide +kernel
theorem mcB_5_ok : mcB_5.all goodWord = true := by decide +kernel
theorem mcB_6_in : mcB_6 = [258, 259, 260, 261, 262, 263, 264, 265, 266, 267, 268, 269, 270, 271, 272, 273, 275, 276, 277, 278, 279, 280, 282, 283, 284, 285, 286, 287, 288, 289, 290, 291, 292, 293, 294, 295, 296, 297, 298, 299].filterMap (fun i => lw_tbl[i]?) := by decide +kernel
theorem mcB_6_ok : mcB_6.all goodWord = true := by decide +kernel
theorem mcB_7_in : mcB_7 = [300, 301, 302, 303, 305, 306, 308, 309, 310, 311, 312, 313, 314, 315, 316, 318, 319, 321, 322, 323, 324, 325, 326, 327, 328, 329, 330, 331, 332, 333, 334, 335, 336, 337, 338, 339, 340, 341, 342, 343].filterMap (fun i => lw_tbl[i]?) := by decide +kernel
theorem mcB_7_ok : mcB_7.all goodWord = true := by decide +kernel
theorem mcB_8_in : mcB_8 = [344, 345, 346, 347, 348, 349, 350, 351, 352, 353, 354, 355, 356, 357, 358, 360, 361, 363, 364, 365, 366, 367, 368, 369, 370, 371, 372, 373, 374, 375, 376, 377, 378, 379, 381, 382, 383, 384, 385, 386].filterMap (fun i => lw_tbl[i]?) := by decide +kernel
theorem mcB_8_ok : mcB_8.all goodWord = true := by decide +kernel
theorem mcB_9_in : mcB_9 = [387, 388, 389, 390, 391, 392, 393, 394, 396, 397, 398, 399, 400, 401, 402, 403, 404, 405, 406, 407, 409, 410, 411, 412, 413, 414, 415, 416, 417, 418, 419, 420, 421, 423, 424, 425, 426, 427, 428, 429].filterMap (fun i => lw_tbl[i]?) := by decide +kernel
theorem mcB_9_ok : mcB_9.all goodWord = true := by decide +kernel
theorem mcB_10_in : mcB_10 = [430, 431, 432, 433, 434, 435, 436, 437, 438, 439, 440, 441, 442, 443, 444, 445, 446, 447, 448, 449, 450, 452, 453, 454, 456, 457, 458, 459, 460, 461, 462, 463, 464, 465, 467, 468, 469, 471, 472, 473].filterMap (fun i => lw_tbl[i]?) := by decide +kernel
theorem mcB_10_ok : mcB_10.all goodWord = true := by decide +kernel
theorem mcB_11_in : mcB_11 = [475, 476, 477, 478, 479, 480, 481, 482, 483, 484, 485, 486, 487, 488, 489, 490, 491, 492, 493, 494, 495, 496, 497, 498, 499, 500, 501, 502, 503, 504, 505, 506, 507, 508, 509, 510, 511, 512, 513, 514].filterMap (fun i => lw_tbl[i]?) := by decide +kernel
theorem mcB_11_ok : mcB_11.all goodWord = true := by decide +kernel
theorem mcB_12_in : mcB_12 = [515, 516, 517, 518, 519, 520, 521, 522, 523, 524, 525, 526, 527, 528, 529, 530, 531, 532, 533, 534, 535, 536, 537, 538, 539, 540, 542, 543, 544, 545, 546, 547, 548, 550, 551, 552, 553, 554, 555, 556].filterMap (fun i => lw_tbl[i]?) := by decide +kernel
theorem mcB_12_ok : mcB_12.all goodWord = true := by decide +kernel
theorem mcB_13_in : mcB_13 = [557, 558, 559, 560, 561, 562, 563, 564, 565, 566, 567, 568, 570, 571, 572, 574, 575, 576, 577, 578, 579, 580, 581, 582, 583, 585, 586, 587, 589, 590, 591, 592, 593, 594, 595, 596, 597, 598, 599, 601].filterMap (fun i => lw_tbl[i]?) := by decide +kernel
theorem mcB_13_ok : mcB_13.all goodWord = true := by decide +kernel
theorem mcB_14_in : mcB_14 = [602, 603, 604, 605, 606, 607, 608, 609, 610, 611, 612, 613, 614, 615, 616, 618, 619, 620, 621, 622, 623, 624, 625, 626, 627, 628, 629, 631, 632, 633, 635, 636, 637, 638, 639, 640, 641, 642].filterMap (fun i => lw_tbl[i]?) := by decide +kernel
theorem mcB_14_ok : mcB_14.all goodWord = true := by decide +kernel
theorem mcB_one {l : List Cond} {is : List Nat} (h : l = is.filterMap (fun i => lw_tbl[i]?)) : ∀ w ∈ l, w ∈ lw_tbl := by
  intro w hw
  rw [h] at hw
  obtain ⟨i, -, hi⟩ := List.mem_filterMap.mp hw
  exact List.mem_of_getElem? hi
theorem mcB_in : ∀ w ∈ mcB, w ∈ lw_tbl := by
  unfold mcB
  exact List.forall_mem_append.mpr ⟨mcB_one mcB_0_in, List.forall_mem_append.mpr ⟨mcB_one mcB_1_in, List.forall_mem_append.mpr ⟨mcB_one mcB_2_in, List.forall_mem_append.mpr ⟨mcB_one mcB_3_in, List.forall_mem_append.mpr ⟨mcB_one mcB_4_in, List.forall_mem_append.mpr ⟨mcB_one mcB_5_in, List.forall_mem_append.mpr ⟨mcB_one mcB_6_in, List.forall_mem_append.mpr ⟨mcB_one mcB_7_in, List.forall_mem_append.mpr ⟨mcB_one mcB_8_in, List.forall_mem_append.mpr ⟨mcB_one mcB_9_in, List.forall_mem_append.mpr ⟨mcB_one mcB_10_in, List.forall_mem_append.mpr ⟨mcB_one mcB_11_in, List.forall_mem_append.mpr ⟨mcB_one mcB_12_in, List.forall_mem_append.mpr ⟨mcB_one mcB_13_in, mcB_one mcB_14_in⟩⟩⟩⟩⟩⟩⟩⟩⟩⟩⟩⟩⟩⟩
theorem mcB_ok : ∀ w ∈ mcB, goodWord w = true := by
  unfold mcB
  exact List.forall_mem_append.mpr ⟨(fun w h => List.all_eq_true.mp mcB_0_ok w h), List.forall_mem_append.mpr ⟨(fun w h => List.all_eq_true.mp mcB_1_ok w h), List.forall_mem_append.mpr ⟨(fun w h => List.all_eq_true.mp mcB_2_ok w h), List.forall_mem_append.mpr ⟨(fun w h => List.all_eq_true.mp mcB_3_ok w h), List.forall_mem_append.mpr ⟨(fun w h => List.all_eq_true.mp mcB_4_ok w h), List.forall_mem_append.mpr ⟨(fun w h => List.all_eq_true.mp mcB_5_ok w h), List.forall_mem_append.mpr ⟨(fun w h => List.all_eq_true.mp mcB_6_ok w h), List.forall_mem_append.mpr ⟨(fun w h => List.all_eq_true.mp mcB_7_ok w h), List.forall_mem_append.mpr ⟨(fun w h => List.all_eq_true.mp mcB_8_ok w h), List.forall_mem_append.mpr ⟨(fun w h => List.all_eq_true.mp mcB_9_ok w h), List.forall_mem_append.mpr ⟨(fun w h => List.all_eq_true.mp mcB_10_ok w h), List.forall_mem_append.mpr ⟨(fun w h => List.all_eq_true.mp mcB_11_ok w h), List.forall_mem_append.mpr ⟨(fun w h => List.all_eq_true.mp mcB_12_ok w h), List.forall_mem_append.mpr ⟨(fun w h => List.all_eq_true.mp mcB_13_ok w h), (fun w h => List.all_eq_true.mp mcB_14_ok w h)⟩⟩⟩⟩⟩⟩⟩⟩⟩⟩⟩⟩⟩⟩
theorem mcB_0_sub : ∀ w ∈ mcB_0, w ∈ mcB := fun w h => List.mem_append_left _ h
theorem mcB_1_sub : ∀ w ∈ mcB_1, w ∈ mcB := fun w h => List.mem_append_right _ (List.mem_append_left _ h)
theorem mcB_2_sub : ∀ w ∈ mcB_2, w ∈ mcB := fun w h => List.mem_append_right _ (List.mem_append_right _ (List.mem_append_left _ h))
theorem mcB_3_sub : ∀ w ∈ mcB_3, w ∈ mcB := fun w h => List.mem_append_right _ (List.mem_append_right _ (List.mem_append_right _ (List.mem_append_left _ h)))
theorem mcB_4_sub : ∀ w ∈ mcB_4, w ∈ mcB := fun w h => List.mem_append_right _ (List.mem_append_right _ (List.mem_append_right _ (List.mem_append_right _ (List.mem_append_left _ h))))
theorem mcB_5_sub : ∀ w ∈ mcB_5, w ∈ mcB := fun w h => List.mem_append_right _ (List.mem_append_right _ (List.mem_append_right _ (List.mem_append_right _ (List.mem_append_right _ (List.mem_append_left _ h)))))
theorem mcB_6_sub : ∀ w ∈ mcB_6, w ∈ mcB := fun w h => List.mem_append_right _ (List.mem_append_right _ (List.mem_append_right _ (List.mem_append_right _ (List.mem_append_right _ (List.mem_append_right _ (List.mem_append_left _ h))))))
theorem mcB_7_sub : ∀ w ∈ mcB_7, w ∈ mcB := fun w h => List.mem_append_right _ (List.mem_append_right _ (List.mem_append_right _ (List.mem_append_right _ (List.mem_append_right _ (List.mem_append_right _ (List.mem_append_right _ (List.mem_append_left _ h)))))))
theorem mcB_8_sub : ∀ w ∈ mcB_8, w ∈ mcB := fun w h => List.mem_append_right _ (List.mem_append_right _ (List.mem_append_right _ (List.mem_append_right _ (List.mem_append_right _ (List.mem_append_right _ (List.mem_append_right _ (List.mem_append_right _ (List.mem_append_left _ h))))))))
theorem mcB_9_sub : ∀ w ∈ mcB_9, w ∈ mcB := fun w h => List.mem_append_right _ (List.mem_append_right _ (List.mem_append_right _ (List.mem_append_right _ (List.mem_append_right _ (List.mem_append_right _ (List.mem_append_right _ (List.mem_append_right _ (List.mem_append_right _ (List.mem_append_left _ h)))))))))
theorem mcB_10_sub : ∀ w ∈ mcB_10, w ∈ mcB := fun w h => List.mem_append_right _ (List.mem_append_right _ (List.mem_append_right _ (List.mem_append_right _ (List.mem_append_right _ (List.mem_append_right _ (List.mem_append_right _ (List.mem_append_right _ (List.mem_append_right _ (List.mem_append_right _ (List.mem_append_left _ h))))))))))
theorem mcB_11_sub : ∀ w ∈ mcB_11, w ∈ mcB := fun w h => List.mem_append_right _ (List.mem_append_right _ (List.mem_append_right _ (List.mem_append_right _ (List.mem_append_right _ (List.mem_append_right _ (List.mem_append_right _ (List.mem_append_right _ (List.mem_append_right _ (List.mem_append_right _ (List.mem_append_right _ (List.mem_append_left _ h)))))))))))
theorem mcB_12_sub : ∀ w ∈ mcB_12, w ∈ mcB := fun w h => List.mem_append_right _ (List.mem_append_right _ (List.mem_append_right _ (List.mem_append_right _ (List.mem_append_right _ (List.mem_append_right _ (List.mem_append_right _ (List.mem_append_right _ (List.mem_append_right _ (List.mem_append_right _ (List.mem_append_right _ (List.mem_append_right _ (List.mem_append_left _ h))))))))))))
theorem mcB_13_sub : ∀ w ∈ mcB_13, w ∈ mcB := fun w h => List.mem_append_right _ (List.mem_append_right _ (List.mem_append_right _ (List.mem_append_right _ (List.mem_append_right _ (List.mem_append_right _ (List.mem_append_right _ (List.mem_append_right _ (List.mem_append_right _ (List.mem_append_right _ (List.mem_append_right _ (List.mem_append_right _ (List.mem_append_right _ (List.mem_append_left _ h)))))))))))))
theorem mcB_14_sub : ∀ w ∈ mcB_14, w ∈ mcB := fun w h => List.mem_append_right _ (List.mem_append_right _ (List.mem_append_right _ (List.mem_append_right _ (List.mem_append_right _ (List.mem_append_right _ (List.mem_append_right _ (List.mem_append_right _ (List.mem_append_right _ (List.mem_append_right _ (List.mem_append_right _ (List.mem_append_right _ (List.mem_append_right _ (List.mem_append_right _ (h))))))))))))))
theorem kw0 : Cond.selects "MeasureChoice$Ladder" ⟨"MeasureChoice$Ladder", "addSteps", "(II)V"⟩ ⟨"MeasureChoice$Ladder", "addSteps", "(II)V"⟩ ∈ mcB := mcB_0_sub _ (List.mem_of_getElem? (i := 0) rfl)
theorem kw1 : Cond.selects "MeasureChoice$Ladder" ⟨"MeasureChoice$Ladder", "addGains", "(ILMeasureChoice$House;)V"⟩ ⟨"MeasureChoice$Ladder", "addGains", "(ILMeasureChoice$House;)V"⟩ ∈ mcB := mcB_0_sub _ (List.mem_of_getElem? (i := 1) rfl)
theorem kw2 : Cond.selects "MeasureChoice$Ladder" ⟨"MeasureChoice$Ladder", "keepUnbeaten", "(LMeasureChoice$House;)V"⟩ ⟨"MeasureChoice$Ladder", "keepUnbeaten", "(LMeasureChoice$House;)V"⟩ ∈ mcB := mcB_0_sub _ (List.mem_of_getElem? (i := 2) rfl)
theorem kw3 : Cond.selects "java/lang/Throwable" ⟨"java/lang/Throwable", "fillInStackTrace", "(I)Ljava/lang/Throwable;"⟩ ⟨"java/lang/Throwable", "fillInStackTrace", "(I)Ljava/lang/Throwable;"⟩ ∈ mcB := mcB_0_sub _ (List.mem_of_getElem? (i := 3) rfl)
theorem kw4 : Cond.selects "MeasureChoice" ⟨"MeasureChoice", "requireMeasure", "(I)V"⟩ ⟨"MeasureChoice", "requireMeasure", "(I)V"⟩ ∈ mcB := mcB_0_sub _ (List.mem_of_getElem? (i := 4) rfl)
theorem kw5 : Cond.selects "MeasureChoice" ⟨"MeasureChoice", "requirePair", "(II)V"⟩ ⟨"MeasureChoice", "requirePair", "(II)V"⟩ ∈ mcB := mcB_0_sub _ (List.mem_of_getElem? (i := 5) rfl)
theorem kw6 : Cond.selects "MeasureChoice" ⟨"MeasureChoice", "requireSet", "(I)V"⟩ ⟨"MeasureChoice", "requireSet", "(I)V"⟩ ∈ mcB := mcB_0_sub _ (List.mem_of_getElem? (i := 6) rfl)
theorem kw7 : Cond.selects "MeasureChoice$House" ⟨"MeasureChoice$House", "bonusWithEarlier", "(II)I"⟩ ⟨"MeasureChoice$House", "bonusWithEarlier", "(II)I"⟩ ∈ mcB := mcB_0_sub _ (List.mem_of_getElem? (i := 7) rfl)
theorem kw8 : Cond.selects "MeasureChoice$House" ⟨"MeasureChoice$House", "withItsNeeds", "(I)I"⟩ ⟨"MeasureChoice$House", "withItsNeeds", "(I)I"⟩ ∈ mcB := mcB_0_sub _ (List.mem_of_getElem? (i := 8) rfl)
theorem kw9 : Cond.selects "MeasureChoice$Planner" ⟨"MeasureChoice$Planner", "fillPurses", "()V"⟩ ⟨"MeasureChoice$Planner", "fillPurses", "()V"⟩ ∈ mcB := mcB_0_sub _ (List.mem_of_getElem? (i := 9) rfl)
theorem kw10 : Cond.selects "MeasureChoice$Planner" ⟨"MeasureChoice$Planner", "judgeSets", "(LMeasureChoice$House;)V"⟩ ⟨"MeasureChoice$Planner", "judgeSets", "(LMeasureChoice$House;)V"⟩ ∈ mcB := mcB_0_sub _ (List.mem_of_getElem? (i := 10) rfl)
theorem kw11 : Cond.selects "MeasureChoice$Planner" ⟨"MeasureChoice$Planner", "workYear", "(IZ)V"⟩ ⟨"MeasureChoice$Planner", "workYear", "(IZ)V"⟩ ∈ mcB := mcB_0_sub _ (List.mem_of_getElem? (i := 11) rfl)
theorem kw12 : Cond.selects "MeasureChoice$Planner" ⟨"MeasureChoice$Planner", "bestFrom", "(II)I"⟩ ⟨"MeasureChoice$Planner", "bestFrom", "(II)I"⟩ ∈ mcB := mcB_0_sub _ (List.mem_of_getElem? (i := 12) rfl)
theorem kw13 : Cond.selects "MeasureChoice$Planner" ⟨"MeasureChoice$Planner", "isBetter", "(III)Z"⟩ ⟨"MeasureChoice$Planner", "isBetter", "(III)Z"⟩ ∈ mcB := mcB_0_sub _ (List.mem_of_getElem? (i := 13) rfl)
theorem kw14 : Cond.selects "MeasureChoiceModel" ⟨"MeasureChoiceModel", "good", "(Z)Z"⟩ ⟨"MeasureChoiceModel", "good", "(Z)Z"⟩ ∈ mcB := mcB_0_sub _ (List.mem_of_getElem? (i := 14) rfl)
theorem kw15 : Cond.selects "MeasureChoiceModel" ⟨"MeasureChoiceModel", "is", "(I)Z"⟩ ⟨"MeasureChoiceModel", "is", "(I)Z"⟩ ∈ mcB := mcB_0_sub _ (List.mem_of_getElem? (i := 15) rfl)
theorem kw16 : Cond.selects "MeasureChoiceModel" ⟨"MeasureChoiceModel", "isSet", "(I)Z"⟩ ⟨"MeasureChoiceModel", "isSet", "(I)Z"⟩ ∈ mcB := mcB_0_sub _ (List.mem_of_getElem? (i := 16) rfl)
theorem kw17 : Cond.selects "MeasureChoiceModel" ⟨"MeasureChoiceModel", "holds", "(I)Z"⟩ ⟨"MeasureChoiceModel", "holds", "(I)Z"⟩ ∈ mcB := mcB_0_sub _ (List.mem_of_getElem? (i := 17) rfl)
theorem kw18 : Cond.selects "MeasureChoiceModel" ⟨"MeasureChoiceModel", "costOf", "(I)I"⟩ ⟨"MeasureChoiceModel", "costOf", "(I)I"⟩ ∈ mcB := mcB_0_sub _ (List.mem_of_getElem? (i := 18) rfl)
theorem kw19 : Cond.selects "MeasureChoiceModel" ⟨"MeasureChoiceModel", "gainOf", "(I)I"⟩ ⟨"MeasureChoiceModel", "gainOf", "(I)I"⟩ ∈ mcB := mcB_0_sub _ (List.mem_of_getElem? (i := 19) rfl)
theorem kw20 : Cond.selects "MeasureChoiceModel" ⟨"MeasureChoiceModel", "bestOf", "(J)I"⟩ ⟨"MeasureChoiceModel", "bestOf", "(J)I"⟩ ∈ mcB := mcB_0_sub _ (List.mem_of_getElem? (i := 20) rfl)
theorem kw21 : Cond.selects "MeasureChoiceModel" ⟨"MeasureChoiceModel", "dearer", "(II)I"⟩ ⟨"MeasureChoiceModel", "dearer", "(II)I"⟩ ∈ mcB := mcB_0_sub _ (List.mem_of_getElem? (i := 21) rfl)
theorem kw22 : Cond.selects "MeasureChoiceModel" ⟨"MeasureChoiceModel", "work", "(I)V"⟩ ⟨"MeasureChoiceModel", "work", "(I)V"⟩ ∈ mcB := mcB_0_sub _ (List.mem_of_getElem? (i := 22) rfl)
theorem kw23 : Cond.selects "MeasureChoiceModel" ⟨"MeasureChoiceModel", "workOf", "(IIII)V"⟩ ⟨"MeasureChoiceModel", "workOf", "(IIII)V"⟩ ∈ mcB := mcB_0_sub _ (List.mem_of_getElem? (i := 23) rfl)
theorem kw24 : Cond.initialized "MeasureChoiceLaw" ∈ mcB := mcB_0_sub _ (List.mem_of_getElem? (i := 24) rfl)
theorem kw25 : Cond.initialized "MeasureChoice" ∈ mcB := mcB_0_sub _ (List.mem_of_getElem? (i := 25) rfl)
theorem kw26 : Cond.initialized "MeasureChoice$House" ∈ mcB := mcB_0_sub _ (List.mem_of_getElem? (i := 26) rfl)
theorem kw27 : Cond.initialized "MeasureChoice$Ladder" ∈ mcB := mcB_0_sub _ (List.mem_of_getElem? (i := 27) rfl)
theorem kw28 : Cond.initialized "MeasureChoice$Planner" ∈ mcB := mcB_0_sub _ (List.mem_of_getElem? (i := 28) rfl)
theorem kw29 : Cond.initialized "MeasureChoiceModel" ∈ mcB := mcB_0_sub _ (List.mem_of_getElem? (i := 29) rfl)
theorem kw30 : Cond.initialized "java/lang/Throwable" ∈ mcB := mcB_0_sub _ (List.mem_of_getElem? (i := 30) rfl)
theorem kw31 : Cond.initialized "java/lang/Exception" ∈ mcB := mcB_0_sub _ (List.mem_of_getElem? (i := 31) rfl)
theorem kw32 : Cond.initialized "java/lang/RuntimeException" ∈ mcB := mcB_0_sub _ (List.mem_of_getElem? (i := 32) rfl)
theorem kw33 : Cond.initialized "java/lang/IllegalArgumentException" ∈ mcB := mcB_0_sub _ (List.mem_of_getElem? (i := 33) rfl)
theorem kw34 : Cond.initialized "java/lang/IllegalStateException" ∈ mcB := mcB_0_sub _ (List.mem_of_getElem? (i := 34) rfl)
theorem kw35 : Cond.initialized "java/lang/Math" ∈ mcB := mcB_0_sub _ (List.mem_of_getElem? (i := 35) rfl)
theorem kw36 : Cond.classLink "MeasureChoiceLaw" 8 "MeasureChoice" ∈ mcB := mcB_0_sub _ (List.mem_of_getElem? (i := 36) rfl)
theorem kw37 : Cond.instantiable "MeasureChoice" 3 ∈ mcB := mcB_0_sub _ (List.mem_of_getElem? (i := 37) rfl)
theorem kw38 : Cond.methodLink "MeasureChoiceLaw" 61 ⟨"MeasureChoice", "<init>", "()V"⟩ ∈ mcB := mcB_0_sub _ (List.mem_of_getElem? (i := 38) rfl)
theorem kw39 : Cond.instanceMethod ⟨"MeasureChoice", "<init>", "()V"⟩ ∈ mcB := mcB_0_sub _ (List.mem_of_getElem? (i := 39) rfl)
theorem kw40 : Cond.code ⟨"MeasureChoice", "<init>", "()V"⟩ prog_1_method_1_code 1 none ∈ mcB := mcB_1_sub _ (List.mem_of_getElem? (i := 0) rfl)
theorem kw41 : Cond.methodLink "MeasureChoice" 3 ⟨"java/lang/Object", "<init>", "()V"⟩ ∈ mcB := mcB_1_sub _ (List.mem_of_getElem? (i := 1) rfl)
theorem kw42 : Cond.instanceMethod ⟨"java/lang/Object", "<init>", "()V"⟩ ∈ mcB := mcB_1_sub _ (List.mem_of_getElem? (i := 2) rfl)
theorem kw43 : Cond.code ⟨"java/lang/Object", "<init>", "()V"⟩ object_method_1_code 1 none ∈ mcB := mcB_1_sub _ (List.mem_of_getElem? (i := 3) rfl)
theorem kw44 : Cond.classLink "MeasureChoice" 9 "MeasureChoice$House" ∈ mcB := mcB_1_sub _ (List.mem_of_getElem? (i := 4) rfl)
theorem kw45 : Cond.instantiable "MeasureChoice$House" 7 ∈ mcB := mcB_1_sub _ (List.mem_of_getElem? (i := 5) rfl)
theorem kw46 : Cond.instanceMethod ⟨"MeasureChoice$House", "<init>", "()V"⟩ ∈ mcB := mcB_1_sub _ (List.mem_of_getElem? (i := 6) rfl)
theorem kw47 : Cond.code ⟨"MeasureChoice$House", "<init>", "()V"⟩ prog_2_method_1_code 1 none ∈ mcB := mcB_1_sub _ (List.mem_of_getElem? (i := 7) rfl)
theorem kw48 : Cond.methodLink "MeasureChoice$House" 3 ⟨"java/lang/Object", "<init>", "()V"⟩ ∈ mcB := mcB_1_sub _ (List.mem_of_getElem? (i := 8) rfl)
theorem kw49 : Cond.classLink "MeasureChoice$House" 24 "[[I" ∈ mcB := mcB_1_sub _ (List.mem_of_getElem? (i := 9) rfl)
theorem kw50 : Cond.fieldLink "MeasureChoice$House" 29 "MeasureChoice$House" "count" "I" ∈ mcB := mcB_1_sub _ (List.mem_of_getElem? (i := 10) rfl)
theorem kw51 : Cond.fieldLink "MeasureChoice" 34 "MeasureChoice$House" "count" "I" ∈ mcB := mcB_1_sub _ (List.mem_of_getElem? (i := 11) rfl)
theorem kw52 : Cond.fieldLink "MeasureChoice$Planner" 47 "MeasureChoice$House" "count" "I" ∈ mcB := mcB_1_sub _ (List.mem_of_getElem? (i := 12) rfl)
theorem kw53 : Cond.fieldLink "MeasureChoice$Ladder" 38 "MeasureChoice$House" "count" "I" ∈ mcB := mcB_1_sub _ (List.mem_of_getElem? (i := 13) rfl)
theorem kw54 : Cond.fieldLink "MeasureChoice$House" 37 "MeasureChoice$House" "version" "I" ∈ mcB := mcB_1_sub _ (List.mem_of_getElem? (i := 14) rfl)
theorem kw55 : Cond.fieldLink "MeasureChoice$Ladder" 35 "MeasureChoice$House" "version" "I" ∈ mcB := mcB_1_sub _ (List.mem_of_getElem? (i := 15) rfl)
theorem kw56 : Cond.fieldLink "MeasureChoice$House" 9 "MeasureChoice$House" "costs" "[I" ∈ mcB := mcB_1_sub _ (List.mem_of_getElem? (i := 16) rfl)
theorem kw57 : Cond.fieldLink "MeasureChoice$Ladder" 41 "MeasureChoice$House" "costs" "[I" ∈ mcB := mcB_1_sub _ (List.mem_of_getElem? (i := 17) rfl)
theorem kw58 : Cond.fieldLink "MeasureChoice$House" 15 "MeasureChoice$House" "gains" "[I" ∈ mcB := mcB_1_sub _ (List.mem_of_getElem? (i := 18) rfl)
theorem kw59 : Cond.fieldLink "MeasureChoice$Ladder" 56 "MeasureChoice$House" "gains" "[I" ∈ mcB := mcB_1_sub _ (List.mem_of_getElem? (i := 19) rfl)
theorem kw60 : Cond.fieldLink "MeasureChoice$House" 18 "MeasureChoice$House" "excluded" "[I" ∈ mcB := mcB_1_sub _ (List.mem_of_getElem? (i := 20) rfl)
theorem kw61 : Cond.fieldLink "MeasureChoice" 60 "MeasureChoice$House" "excluded" "[I" ∈ mcB := mcB_1_sub _ (List.mem_of_getElem? (i := 21) rfl)
theorem kw62 : Cond.fieldLink "MeasureChoice$House" 21 "MeasureChoice$House" "needed" "[I" ∈ mcB := mcB_1_sub _ (List.mem_of_getElem? (i := 22) rfl)
theorem kw63 : Cond.fieldLink "MeasureChoice" 72 "MeasureChoice$House" "needed" "[I" ∈ mcB := mcB_1_sub _ (List.mem_of_getElem? (i := 23) rfl)
theorem kw64 : Cond.fieldLink "MeasureChoice$House" 26 "MeasureChoice$House" "bonuses" "[[I" ∈ mcB := mcB_1_sub _ (List.mem_of_getElem? (i := 24) rfl)
theorem kw65 : Cond.fieldLink "MeasureChoice" 81 "MeasureChoice$House" "bonuses" "[[I" ∈ mcB := mcB_1_sub _ (List.mem_of_getElem? (i := 25) rfl)
theorem kw66 : Cond.fieldLink "MeasureChoice$Ladder" 57 "MeasureChoice$House" "bonuses" "[[I" ∈ mcB := mcB_1_sub _ (List.mem_of_getElem? (i := 26) rfl)
theorem kw67 : Cond.lays "MeasureChoice$House" "MeasureChoice$House" "count" "I" ∈ mcB := mcB_1_sub _ (List.mem_of_getElem? (i := 27) rfl)
theorem kw68 : Cond.soleField "MeasureChoice$House" "count" ∈ mcB := mcB_1_sub _ (List.mem_of_getElem? (i := 28) rfl)
theorem kw69 : Cond.lays "MeasureChoice$House" "MeasureChoice$House" "version" "I" ∈ mcB := mcB_1_sub _ (List.mem_of_getElem? (i := 29) rfl)
theorem kw70 : Cond.soleField "MeasureChoice$House" "version" ∈ mcB := mcB_1_sub _ (List.mem_of_getElem? (i := 30) rfl)
theorem kw71 : Cond.laysFinal "MeasureChoice$House" "MeasureChoice$House" "costs" "[I" ∈ mcB := mcB_1_sub _ (List.mem_of_getElem? (i := 31) rfl)
theorem kw72 : Cond.soleField "MeasureChoice$House" "costs" ∈ mcB := mcB_1_sub _ (List.mem_of_getElem? (i := 32) rfl)
theorem kw73 : Cond.laysFinal "MeasureChoice$House" "MeasureChoice$House" "gains" "[I" ∈ mcB := mcB_1_sub _ (List.mem_of_getElem? (i := 33) rfl)
theorem kw74 : Cond.soleField "MeasureChoice$House" "gains" ∈ mcB := mcB_1_sub _ (List.mem_of_getElem? (i := 34) rfl)
theorem kw75 : Cond.laysFinal "MeasureChoice$House" "MeasureChoice$House" "excluded" "[I" ∈ mcB := mcB_1_sub _ (List.mem_of_getElem? (i := 35) rfl)
theorem kw76 : Cond.soleField "MeasureChoice$House" "excluded" ∈ mcB := mcB_1_sub _ (List.mem_of_getElem? (i := 36) rfl)
theorem kw77 : Cond.laysFinal "MeasureChoice$House" "MeasureChoice$House" "needed" "[I" ∈ mcB := mcB_1_sub _ (List.mem_of_getElem? (i := 37) rfl)
theorem kw78 : Cond.soleField "MeasureChoice$House" "needed" ∈ mcB := mcB_1_sub _ (List.mem_of_getElem? (i := 38) rfl)
theorem kw79 : Cond.laysFinal "MeasureChoice$House" "MeasureChoice$House" "bonuses" "[[I" ∈ mcB := mcB_1_sub _ (List.mem_of_getElem? (i := 39) rfl)
theorem kw80 : Cond.soleField "MeasureChoice$House" "bonuses" ∈ mcB := mcB_2_sub _ (List.mem_of_getElem? (i := 0) rfl)
theorem kw81 : Cond.superclass "MeasureChoice$House" "java/lang/Object" ∈ mcB := mcB_2_sub _ (List.mem_of_getElem? (i := 1) rfl)
theorem kw82 : Cond.arrayClass FieldType.int ∈ mcB := mcB_2_sub _ (List.mem_of_getElem? (i := 2) rfl)
theorem kw83 : Cond.classLink "MeasureChoice" 16 "MeasureChoice$Ladder" ∈ mcB := mcB_2_sub _ (List.mem_of_getElem? (i := 3) rfl)
theorem kw84 : Cond.instantiable "MeasureChoice$Ladder" 4 ∈ mcB := mcB_2_sub _ (List.mem_of_getElem? (i := 4) rfl)
theorem kw85 : Cond.instanceMethod ⟨"MeasureChoice$Ladder", "<init>", "()V"⟩ ∈ mcB := mcB_2_sub _ (List.mem_of_getElem? (i := 5) rfl)
theorem kw86 : Cond.code ⟨"MeasureChoice$Ladder", "<init>", "()V"⟩ prog_3_method_1_code 1 none ∈ mcB := mcB_2_sub _ (List.mem_of_getElem? (i := 6) rfl)
theorem kw87 : Cond.methodLink "MeasureChoice$Ladder" 3 ⟨"java/lang/Object", "<init>", "()V"⟩ ∈ mcB := mcB_2_sub _ (List.mem_of_getElem? (i := 7) rfl)
theorem kw88 : Cond.fieldLink "MeasureChoice$Ladder" 26 "MeasureChoice$Ladder" "rungs" "I" ∈ mcB := mcB_2_sub _ (List.mem_of_getElem? (i := 8) rfl)
theorem kw89 : Cond.fieldLink "MeasureChoice" 133 "MeasureChoice$Ladder" "rungs" "I" ∈ mcB := mcB_2_sub _ (List.mem_of_getElem? (i := 9) rfl)
theorem kw90 : Cond.fieldLink "MeasureChoice$Ladder" 9 "MeasureChoice$Ladder" "version" "I" ∈ mcB := mcB_2_sub _ (List.mem_of_getElem? (i := 10) rfl)
theorem kw91 : Cond.fieldLink "MeasureChoice$Ladder" 15 "MeasureChoice$Ladder" "steps" "[I" ∈ mcB := mcB_2_sub _ (List.mem_of_getElem? (i := 11) rfl)
theorem kw92 : Cond.fieldLink "MeasureChoice$Ladder" 19 "MeasureChoice$Ladder" "gains" "[I" ∈ mcB := mcB_2_sub _ (List.mem_of_getElem? (i := 12) rfl)
theorem kw93 : Cond.lays "MeasureChoice$Ladder" "MeasureChoice$Ladder" "rungs" "I" ∈ mcB := mcB_2_sub _ (List.mem_of_getElem? (i := 13) rfl)
theorem kw94 : Cond.soleField "MeasureChoice$Ladder" "rungs" ∈ mcB := mcB_2_sub _ (List.mem_of_getElem? (i := 14) rfl)
theorem kw95 : Cond.lays "MeasureChoice$Ladder" "MeasureChoice$Ladder" "version" "I" ∈ mcB := mcB_2_sub _ (List.mem_of_getElem? (i := 15) rfl)
theorem kw96 : Cond.soleField "MeasureChoice$Ladder" "version" ∈ mcB := mcB_2_sub _ (List.mem_of_getElem? (i := 16) rfl)
theorem kw97 : Cond.laysFinal "MeasureChoice$Ladder" "MeasureChoice$Ladder" "steps" "[I" ∈ mcB := mcB_2_sub _ (List.mem_of_getElem? (i := 17) rfl)
theorem kw98 : Cond.soleField "MeasureChoice$Ladder" "steps" ∈ mcB := mcB_2_sub _ (List.mem_of_getElem? (i := 18) rfl)
theorem kw99 : Cond.laysFinal "MeasureChoice$Ladder" "MeasureChoice$Ladder" "gains" "[I" ∈ mcB := mcB_2_sub _ (List.mem_of_getElem? (i := 19) rfl)
theorem kw100 : Cond.soleField "MeasureChoice$Ladder" "gains" ∈ mcB := mcB_2_sub _ (List.mem_of_getElem? (i := 20) rfl)
theorem kw101 : Cond.superclass "MeasureChoice$Ladder" "java/lang/Object" ∈ mcB := mcB_2_sub _ (List.mem_of_getElem? (i := 21) rfl)
theorem kw102 : Cond.classLink "MeasureChoice" 23 "MeasureChoice$Planner" ∈ mcB := mcB_2_sub _ (List.mem_of_getElem? (i := 22) rfl)
theorem kw103 : Cond.instantiable "MeasureChoice$Planner" 7 ∈ mcB := mcB_2_sub _ (List.mem_of_getElem? (i := 23) rfl)
theorem kw104 : Cond.instanceMethod ⟨"MeasureChoice$Planner", "<init>", "()V"⟩ ∈ mcB := mcB_2_sub _ (List.mem_of_getElem? (i := 24) rfl)
theorem kw105 : Cond.code ⟨"MeasureChoice$Planner", "<init>", "()V"⟩ prog_4_method_1_code 1 none ∈ mcB := mcB_2_sub _ (List.mem_of_getElem? (i := 25) rfl)
theorem kw106 : Cond.methodLink "MeasureChoice$Planner" 3 ⟨"java/lang/Object", "<init>", "()V"⟩ ∈ mcB := mcB_2_sub _ (List.mem_of_getElem? (i := 26) rfl)
theorem kw107 : Cond.classLink "MeasureChoice$Planner" 15 "[[I" ∈ mcB := mcB_2_sub _ (List.mem_of_getElem? (i := 27) rfl)
theorem kw108 : Cond.fieldLink "MeasureChoice$Planner" 9 "MeasureChoice$Planner" "budgets" "[I" ∈ mcB := mcB_2_sub _ (List.mem_of_getElem? (i := 28) rfl)
theorem kw109 : Cond.fieldLink "MeasureChoice" 137 "MeasureChoice$Planner" "budgets" "[I" ∈ mcB := mcB_2_sub _ (List.mem_of_getElem? (i := 29) rfl)
theorem kw110 : Cond.fieldLink "MeasureChoice$Planner" 17 "MeasureChoice$Planner" "totals" "[[I" ∈ mcB := mcB_2_sub _ (List.mem_of_getElem? (i := 30) rfl)
theorem kw111 : Cond.fieldLink "MeasureChoice" 147 "MeasureChoice$Planner" "totals" "[[I" ∈ mcB := mcB_2_sub _ (List.mem_of_getElem? (i := 31) rfl)
theorem kw112 : Cond.fieldLink "MeasureChoice$Planner" 20 "MeasureChoice$Planner" "spent" "[[I" ∈ mcB := mcB_2_sub _ (List.mem_of_getElem? (i := 32) rfl)
theorem kw113 : Cond.fieldLink "MeasureChoice$Planner" 23 "MeasureChoice$Planner" "purses" "[I" ∈ mcB := mcB_2_sub _ (List.mem_of_getElem? (i := 33) rfl)
theorem kw114 : Cond.fieldLink "MeasureChoice$Planner" 26 "MeasureChoice$Planner" "prices" "[I" ∈ mcB := mcB_2_sub _ (List.mem_of_getElem? (i := 34) rfl)
theorem kw115 : Cond.fieldLink "MeasureChoice$Planner" 29 "MeasureChoice$Planner" "gains" "[I" ∈ mcB := mcB_2_sub _ (List.mem_of_getElem? (i := 35) rfl)
theorem kw116 : Cond.fieldLink "MeasureChoice$Planner" 58 "MeasureChoice$Planner" "sets" "I" ∈ mcB := mcB_2_sub _ (List.mem_of_getElem? (i := 36) rfl)
theorem kw117 : Cond.laysFinal "MeasureChoice$Planner" "MeasureChoice$Planner" "budgets" "[I" ∈ mcB := mcB_2_sub _ (List.mem_of_getElem? (i := 37) rfl)
theorem kw118 : Cond.soleField "MeasureChoice$Planner" "budgets" ∈ mcB := mcB_2_sub _ (List.mem_of_getElem? (i := 38) rfl)
theorem kw119 : Cond.laysFinal "MeasureChoice$Planner" "MeasureChoice$Planner" "totals" "[[I" ∈ mcB := mcB_2_sub _ (List.mem_of_getElem? (i := 39) rfl)
theorem kw120 : Cond.soleField "MeasureChoice$Planner" "totals" ∈ mcB := mcB_3_sub _ (List.mem_of_getElem? (i := 0) rfl)
theorem kw121 : Cond.laysFinal "MeasureChoice$Planner" "MeasureChoice$Planner" "spent" "[[I" ∈ mcB := mcB_3_sub _ (List.mem_of_getElem? (i := 1) rfl)
theorem kw122 : Cond.soleField "MeasureChoice$Planner" "spent" ∈ mcB := mcB_3_sub _ (List.mem_of_getElem? (i := 2) rfl)
theorem kw123 : Cond.laysFinal "MeasureChoice$Planner" "MeasureChoice$Planner" "purses" "[I" ∈ mcB := mcB_3_sub _ (List.mem_of_getElem? (i := 3) rfl)
theorem kw124 : Cond.soleField "MeasureChoice$Planner" "purses" ∈ mcB := mcB_3_sub _ (List.mem_of_getElem? (i := 4) rfl)
theorem kw125 : Cond.laysFinal "MeasureChoice$Planner" "MeasureChoice$Planner" "prices" "[I" ∈ mcB := mcB_3_sub _ (List.mem_of_getElem? (i := 5) rfl)
theorem kw126 : Cond.soleField "MeasureChoice$Planner" "prices" ∈ mcB := mcB_3_sub _ (List.mem_of_getElem? (i := 6) rfl)
theorem kw127 : Cond.laysFinal "MeasureChoice$Planner" "MeasureChoice$Planner" "gains" "[I" ∈ mcB := mcB_3_sub _ (List.mem_of_getElem? (i := 7) rfl)
theorem kw128 : Cond.soleField "MeasureChoice$Planner" "gains" ∈ mcB := mcB_3_sub _ (List.mem_of_getElem? (i := 8) rfl)
theorem kw129 : Cond.lays "MeasureChoice$Planner" "MeasureChoice$Planner" "sets" "I" ∈ mcB := mcB_3_sub _ (List.mem_of_getElem? (i := 9) rfl)
theorem kw130 : Cond.soleField "MeasureChoice$Planner" "sets" ∈ mcB := mcB_3_sub _ (List.mem_of_getElem? (i := 10) rfl)
theorem kw131 : Cond.superclass "MeasureChoice$Planner" "java/lang/Object" ∈ mcB := mcB_3_sub _ (List.mem_of_getElem? (i := 11) rfl)
theorem kw132 : Cond.fieldLink "MeasureChoice" 12 "MeasureChoice" "house" "LMeasureChoice$House;" ∈ mcB := mcB_3_sub _ (List.mem_of_getElem? (i := 12) rfl)
theorem kw133 : Cond.fieldLink "MeasureChoice" 19 "MeasureChoice" "ladder" "LMeasureChoice$Ladder;" ∈ mcB := mcB_3_sub _ (List.mem_of_getElem? (i := 13) rfl)
theorem kw134 : Cond.fieldLink "MeasureChoice" 26 "MeasureChoice" "planner" "LMeasureChoice$Planner;" ∈ mcB := mcB_3_sub _ (List.mem_of_getElem? (i := 14) rfl)
theorem kw135 : Cond.laysFinal "MeasureChoice" "MeasureChoice" "house" "LMeasureChoice$House;" ∈ mcB := mcB_3_sub _ (List.mem_of_getElem? (i := 15) rfl)
theorem kw136 : Cond.soleField "MeasureChoice" "house" ∈ mcB := mcB_3_sub _ (List.mem_of_getElem? (i := 16) rfl)
theorem kw137 : Cond.laysFinal "MeasureChoice" "MeasureChoice" "ladder" "LMeasureChoice$Ladder;" ∈ mcB := mcB_3_sub _ (List.mem_of_getElem? (i := 17) rfl)
theorem kw138 : Cond.soleField "MeasureChoice" "ladder" ∈ mcB := mcB_3_sub _ (List.mem_of_getElem? (i := 18) rfl)
theorem kw139 : Cond.laysFinal "MeasureChoice" "MeasureChoice" "planner" "LMeasureChoice$Planner;" ∈ mcB := mcB_3_sub _ (List.mem_of_getElem? (i := 19) rfl)
theorem kw140 : Cond.soleField "MeasureChoice" "planner" ∈ mcB := mcB_3_sub _ (List.mem_of_getElem? (i := 20) rfl)
theorem kw141 : Cond.superclass "MeasureChoice" "java/lang/Object" ∈ mcB := mcB_3_sub _ (List.mem_of_getElem? (i := 21) rfl)
theorem kw142 : Cond.methodLink "MeasureChoiceLaw" 103 ⟨"MeasureChoice", "budget", "(I)I"⟩ ∈ mcB := mcB_3_sub _ (List.mem_of_getElem? (i := 22) rfl)
theorem kw143 : Cond.instanceMethod ⟨"MeasureChoice", "budget", "(I)I"⟩ ∈ mcB := mcB_3_sub _ (List.mem_of_getElem? (i := 23) rfl)
theorem kw144 : Cond.selects "MeasureChoice" ⟨"MeasureChoice", "budget", "(I)I"⟩ ⟨"MeasureChoice", "budget", "(I)I"⟩ ∈ mcB := mcB_3_sub _ (List.mem_of_getElem? (i := 24) rfl)
theorem kw145 : Cond.code ⟨"MeasureChoice", "budget", "(I)I"⟩ prog_1_method_11_code 3 (some FieldType.int) ∈ mcB := mcB_3_sub _ (List.mem_of_getElem? (i := 25) rfl)
theorem kw146 : Cond.methodLink "MeasureChoice" 108 ⟨"MeasureChoice$Ladder", "bringUpToDate", "(LMeasureChoice$House;)V"⟩ ∈ mcB := mcB_3_sub _ (List.mem_of_getElem? (i := 26) rfl)
theorem kw147 : Cond.instanceMethod ⟨"MeasureChoice$Ladder", "bringUpToDate", "(LMeasureChoice$House;)V"⟩ ∈ mcB := mcB_3_sub _ (List.mem_of_getElem? (i := 27) rfl)
theorem kw148 : Cond.selects "MeasureChoice$Ladder" ⟨"MeasureChoice$Ladder", "bringUpToDate", "(LMeasureChoice$House;)V"⟩ ⟨"MeasureChoice$Ladder", "bringUpToDate", "(LMeasureChoice$House;)V"⟩ ∈ mcB := mcB_3_sub _ (List.mem_of_getElem? (i := 28) rfl)
theorem kw149 : Cond.code ⟨"MeasureChoice$Ladder", "bringUpToDate", "(LMeasureChoice$House;)V"⟩ prog_3_method_7_code 3 none ∈ mcB := mcB_3_sub _ (List.mem_of_getElem? (i := 29) rfl)
theorem kw150 : Cond.methodLink "MeasureChoice$Ladder" 44 ⟨"MeasureChoice$Ladder", "addSteps", "(II)V"⟩ ∈ mcB := mcB_3_sub _ (List.mem_of_getElem? (i := 30) rfl)
theorem kw151 : Cond.instanceMethod ⟨"MeasureChoice$Ladder", "addSteps", "(II)V"⟩ ∈ mcB := mcB_3_sub _ (List.mem_of_getElem? (i := 31) rfl)
theorem kw152 : Cond.code ⟨"MeasureChoice$Ladder", "addSteps", "(II)V"⟩ prog_3_method_8_code 7 none ∈ mcB := mcB_3_sub _ (List.mem_of_getElem? (i := 32) rfl)
theorem kw153 : Cond.methodLink "MeasureChoice$Ladder" 48 ⟨"MeasureChoice$Ladder", "addGains", "(ILMeasureChoice$House;)V"⟩ ∈ mcB := mcB_3_sub _ (List.mem_of_getElem? (i := 33) rfl)
theorem kw154 : Cond.instanceMethod ⟨"MeasureChoice$Ladder", "addGains", "(ILMeasureChoice$House;)V"⟩ ∈ mcB := mcB_3_sub _ (List.mem_of_getElem? (i := 34) rfl)
theorem kw155 : Cond.code ⟨"MeasureChoice$Ladder", "addGains", "(ILMeasureChoice$House;)V"⟩ prog_3_method_9_code 9 none ∈ mcB := mcB_3_sub _ (List.mem_of_getElem? (i := 35) rfl)
theorem kw156 : Cond.methodLink "MeasureChoice$Ladder" 52 ⟨"MeasureChoice$Ladder", "keepUnbeaten", "(LMeasureChoice$House;)V"⟩ ∈ mcB := mcB_3_sub _ (List.mem_of_getElem? (i := 36) rfl)
theorem kw157 : Cond.instanceMethod ⟨"MeasureChoice$Ladder", "keepUnbeaten", "(LMeasureChoice$House;)V"⟩ ∈ mcB := mcB_3_sub _ (List.mem_of_getElem? (i := 37) rfl)
theorem kw158 : Cond.code ⟨"MeasureChoice$Ladder", "keepUnbeaten", "(LMeasureChoice$House;)V"⟩ prog_3_method_10_code 4 none ∈ mcB := mcB_3_sub _ (List.mem_of_getElem? (i := 38) rfl)
theorem kw159 : Cond.methodLink "MeasureChoice$Ladder" 22 ⟨"MeasureChoice$Ladder", "setAt", "(I)I"⟩ ∈ mcB := mcB_3_sub _ (List.mem_of_getElem? (i := 39) rfl)
theorem kw160 : Cond.instanceMethod ⟨"MeasureChoice$Ladder", "setAt", "(I)I"⟩ ∈ mcB := mcB_4_sub _ (List.mem_of_getElem? (i := 0) rfl)
theorem kw161 : Cond.selects "MeasureChoice$Ladder" ⟨"MeasureChoice$Ladder", "setAt", "(I)I"⟩ ⟨"MeasureChoice$Ladder", "setAt", "(I)I"⟩ ∈ mcB := mcB_4_sub _ (List.mem_of_getElem? (i := 1) rfl)
theorem kw162 : Cond.code ⟨"MeasureChoice$Ladder", "setAt", "(I)I"⟩ prog_3_method_2_code 2 (some FieldType.int) ∈ mcB := mcB_4_sub _ (List.mem_of_getElem? (i := 2) rfl)
theorem kw163 : Cond.methodLink "MeasureChoice$Ladder" 32 ⟨"MeasureChoice$Ladder", "gainAt", "(I)I"⟩ ∈ mcB := mcB_4_sub _ (List.mem_of_getElem? (i := 3) rfl)
theorem kw164 : Cond.instanceMethod ⟨"MeasureChoice$Ladder", "gainAt", "(I)I"⟩ ∈ mcB := mcB_4_sub _ (List.mem_of_getElem? (i := 4) rfl)
theorem kw165 : Cond.selects "MeasureChoice$Ladder" ⟨"MeasureChoice$Ladder", "gainAt", "(I)I"⟩ ⟨"MeasureChoice$Ladder", "gainAt", "(I)I"⟩ ∈ mcB := mcB_4_sub _ (List.mem_of_getElem? (i := 5) rfl)
theorem kw166 : Cond.code ⟨"MeasureChoice$Ladder", "gainAt", "(I)I"⟩ prog_3_method_4_code 2 (some FieldType.int) ∈ mcB := mcB_4_sub _ (List.mem_of_getElem? (i := 6) rfl)
theorem kw167 : Cond.methodLink "MeasureChoice$Ladder" 61 ⟨"MeasureChoice$House", "allows", "(I)Z"⟩ ∈ mcB := mcB_4_sub _ (List.mem_of_getElem? (i := 7) rfl)
theorem kw168 : Cond.instanceMethod ⟨"MeasureChoice$House", "allows", "(I)Z"⟩ ∈ mcB := mcB_4_sub _ (List.mem_of_getElem? (i := 8) rfl)
theorem kw169 : Cond.selects "MeasureChoice$House" ⟨"MeasureChoice$House", "allows", "(I)Z"⟩ ⟨"MeasureChoice$House", "allows", "(I)Z"⟩ ∈ mcB := mcB_4_sub _ (List.mem_of_getElem? (i := 9) rfl)
theorem kw170 : Cond.code ⟨"MeasureChoice$House", "allows", "(I)Z"⟩ prog_2_method_7_code 3 (some FieldType.boolean) ∈ mcB := mcB_4_sub _ (List.mem_of_getElem? (i := 10) rfl)
theorem kw171 : Cond.methodLink "MeasureChoice$House" 44 ⟨"MeasureChoice$House", "has", "(II)Z"⟩ ∈ mcB := mcB_4_sub _ (List.mem_of_getElem? (i := 11) rfl)
theorem kw172 : Cond.static ⟨"MeasureChoice$House", "has", "(II)Z"⟩ ∈ mcB := mcB_4_sub _ (List.mem_of_getElem? (i := 12) rfl)
theorem kw173 : Cond.code ⟨"MeasureChoice$House", "has", "(II)Z"⟩ prog_2_method_13_code 2 (some FieldType.boolean) ∈ mcB := mcB_4_sub _ (List.mem_of_getElem? (i := 13) rfl)
theorem kw174 : Cond.methodLink "MeasureChoice$Ladder" 29 ⟨"MeasureChoice$Ladder", "costAt", "(I)I"⟩ ∈ mcB := mcB_4_sub _ (List.mem_of_getElem? (i := 14) rfl)
theorem kw175 : Cond.instanceMethod ⟨"MeasureChoice$Ladder", "costAt", "(I)I"⟩ ∈ mcB := mcB_4_sub _ (List.mem_of_getElem? (i := 15) rfl)
theorem kw176 : Cond.selects "MeasureChoice$Ladder" ⟨"MeasureChoice$Ladder", "costAt", "(I)I"⟩ ⟨"MeasureChoice$Ladder", "costAt", "(I)I"⟩ ∈ mcB := mcB_4_sub _ (List.mem_of_getElem? (i := 16) rfl)
theorem kw177 : Cond.code ⟨"MeasureChoice$Ladder", "costAt", "(I)I"⟩ prog_3_method_3_code 2 (some FieldType.int) ∈ mcB := mcB_4_sub _ (List.mem_of_getElem? (i := 17) rfl)
theorem kw178 : Cond.methodLink "MeasureChoice" 118 ⟨"MeasureChoice$Ladder", "lowestGaining", "(I)I"⟩ ∈ mcB := mcB_4_sub _ (List.mem_of_getElem? (i := 18) rfl)
theorem kw179 : Cond.instanceMethod ⟨"MeasureChoice$Ladder", "lowestGaining", "(I)I"⟩ ∈ mcB := mcB_4_sub _ (List.mem_of_getElem? (i := 19) rfl)
theorem kw180 : Cond.selects "MeasureChoice$Ladder" ⟨"MeasureChoice$Ladder", "lowestGaining", "(I)I"⟩ ⟨"MeasureChoice$Ladder", "lowestGaining", "(I)I"⟩ ∈ mcB := mcB_4_sub _ (List.mem_of_getElem? (i := 20) rfl)
theorem kw181 : Cond.code ⟨"MeasureChoice$Ladder", "lowestGaining", "(I)I"⟩ prog_3_method_6_code 3 (some FieldType.int) ∈ mcB := mcB_4_sub _ (List.mem_of_getElem? (i := 21) rfl)
theorem kw182 : Cond.methodLink "MeasureChoice" 121 ⟨"MeasureChoice$Ladder", "costAt", "(I)I"⟩ ∈ mcB := mcB_4_sub _ (List.mem_of_getElem? (i := 22) rfl)
theorem kw183 : Cond.methodLink "MeasureChoiceLaw" 65 ⟨"MeasureChoiceLaw", "measure", "(LMeasureChoice;II[J)I"⟩ ∈ mcB := mcB_4_sub _ (List.mem_of_getElem? (i := 23) rfl)
theorem kw184 : Cond.static ⟨"MeasureChoiceLaw", "measure", "(LMeasureChoice;II[J)I"⟩ ∈ mcB := mcB_4_sub _ (List.mem_of_getElem? (i := 24) rfl)
theorem kw185 : Cond.codeWith ⟨"MeasureChoiceLaw", "measure", "(LMeasureChoice;II[J)I"⟩ method_3_code 5 (some FieldType.int) [(0, 10, 13, 13), (0, 10, 17, 15)] ∈ mcB := mcB_4_sub _ (List.mem_of_getElem? (i := 25) rfl)
theorem kw186 : Cond.classLink "MeasureChoiceLaw" 13 "java/lang/IllegalArgumentException" ∈ mcB := mcB_4_sub _ (List.mem_of_getElem? (i := 26) rfl)
theorem kw187 : Cond.classLink "MeasureChoiceLaw" 15 "java/lang/IllegalStateException" ∈ mcB := mcB_4_sub _ (List.mem_of_getElem? (i := 27) rfl)
theorem kw188 : Cond.methodLink "MeasureChoiceLaw" 7 ⟨"MeasureChoice", "measure", "(II)I"⟩ ∈ mcB := mcB_4_sub _ (List.mem_of_getElem? (i := 28) rfl)
theorem kw189 : Cond.instanceMethod ⟨"MeasureChoice", "measure", "(II)I"⟩ ∈ mcB := mcB_4_sub _ (List.mem_of_getElem? (i := 29) rfl)
theorem kw190 : Cond.selects "MeasureChoice" ⟨"MeasureChoice", "measure", "(II)I"⟩ ⟨"MeasureChoice", "measure", "(II)I"⟩ ∈ mcB := mcB_4_sub _ (List.mem_of_getElem? (i := 30) rfl)
theorem kw191 : Cond.code ⟨"MeasureChoice", "measure", "(II)I"⟩ prog_1_method_2_code 3 (some FieldType.int) ∈ mcB := mcB_4_sub _ (List.mem_of_getElem? (i := 31) rfl)
theorem kw192 : Cond.methodLink "MeasureChoice" 30 ⟨"MeasureChoice", "requireCostAndGain", "(II)V"⟩ ∈ mcB := mcB_4_sub _ (List.mem_of_getElem? (i := 32) rfl)
theorem kw193 : Cond.static ⟨"MeasureChoice", "requireCostAndGain", "(II)V"⟩ ∈ mcB := mcB_4_sub _ (List.mem_of_getElem? (i := 33) rfl)
theorem kw194 : Cond.code ⟨"MeasureChoice", "requireCostAndGain", "(II)V"⟩ prog_1_method_19_code 2 none ∈ mcB := mcB_4_sub _ (List.mem_of_getElem? (i := 34) rfl)
theorem kw195 : Cond.methodLink "MeasureChoice" 78 ⟨"MeasureChoice", "requireBetween", "(III)V"⟩ ∈ mcB := mcB_4_sub _ (List.mem_of_getElem? (i := 35) rfl)
theorem kw196 : Cond.static ⟨"MeasureChoice", "requireBetween", "(III)V"⟩ ∈ mcB := mcB_4_sub _ (List.mem_of_getElem? (i := 36) rfl)
theorem kw197 : Cond.code ⟨"MeasureChoice", "requireBetween", "(III)V"⟩ prog_1_method_17_code 3 none ∈ mcB := mcB_4_sub _ (List.mem_of_getElem? (i := 37) rfl)
theorem kw198 : Cond.classLink "MeasureChoice" 125 "java/lang/IllegalArgumentException" ∈ mcB := mcB_4_sub _ (List.mem_of_getElem? (i := 38) rfl)
theorem kw199 : Cond.instantiable "java/lang/IllegalArgumentException" 6 ∈ mcB := mcB_4_sub _ (List.mem_of_getElem? (i := 39) rfl)
theorem kw200 : Cond.selects "java/lang/IllegalArgumentException" ⟨"java/lang/Throwable", "fillInStackTrace", "(I)Ljava/lang/Throwable;"⟩ ⟨"java/lang/Throwable", "fillInStackTrace", "(I)Ljava/lang/Throwable;"⟩ ∈ mcB := mcB_5_sub _ (List.mem_of_getElem? (i := 0) rfl)
theorem kw201 : Cond.selects "java/lang/IllegalArgumentException" ⟨"java/lang/Throwable", "fillInStackTrace", "()Ljava/lang/Throwable;"⟩ ⟨"java/lang/Throwable", "fillInStackTrace", "()Ljava/lang/Throwable;"⟩ ∈ mcB := mcB_5_sub _ (List.mem_of_getElem? (i := 1) rfl)
theorem kw202 : Cond.lays "java/lang/IllegalArgumentException" "java/lang/Throwable" "cause" "Ljava/lang/Throwable;" ∈ mcB := mcB_5_sub _ (List.mem_of_getElem? (i := 2) rfl)
theorem kw203 : Cond.lays "java/lang/Throwable" "java/lang/Throwable" "cause" "Ljava/lang/Throwable;" ∈ mcB := mcB_5_sub _ (List.mem_of_getElem? (i := 3) rfl)
theorem kw204 : Cond.lays "java/lang/IllegalArgumentException" "java/lang/Throwable" "stackTrace" "[Ljava/lang/StackTraceElement;" ∈ mcB := mcB_5_sub _ (List.mem_of_getElem? (i := 4) rfl)
theorem kw205 : Cond.lays "java/lang/Throwable" "java/lang/Throwable" "stackTrace" "[Ljava/lang/StackTraceElement;" ∈ mcB := mcB_5_sub _ (List.mem_of_getElem? (i := 5) rfl)
theorem kw206 : Cond.lays "java/lang/IllegalArgumentException" "java/lang/Throwable" "suppressedExceptions" "Ljava/util/List;" ∈ mcB := mcB_5_sub _ (List.mem_of_getElem? (i := 6) rfl)
theorem kw207 : Cond.lays "java/lang/Throwable" "java/lang/Throwable" "suppressedExceptions" "Ljava/util/List;" ∈ mcB := mcB_5_sub _ (List.mem_of_getElem? (i := 7) rfl)
theorem kw208 : Cond.lays "java/lang/IllegalArgumentException" "java/lang/Throwable" "detailMessage" "Ljava/lang/String;" ∈ mcB := mcB_5_sub _ (List.mem_of_getElem? (i := 8) rfl)
theorem kw209 : Cond.lays "java/lang/Throwable" "java/lang/Throwable" "detailMessage" "Ljava/lang/String;" ∈ mcB := mcB_5_sub _ (List.mem_of_getElem? (i := 9) rfl)
theorem kw210 : Cond.lays "java/lang/IllegalArgumentException" "java/lang/Throwable" "backtrace" "Ljava/lang/Object;" ∈ mcB := mcB_5_sub _ (List.mem_of_getElem? (i := 10) rfl)
theorem kw211 : Cond.lays "java/lang/Throwable" "java/lang/Throwable" "backtrace" "Ljava/lang/Object;" ∈ mcB := mcB_5_sub _ (List.mem_of_getElem? (i := 11) rfl)
theorem kw212 : Cond.fieldLink "java/lang/Throwable" 198 "java/lang/Throwable" "backtrace" "Ljava/lang/Object;" ∈ mcB := mcB_5_sub _ (List.mem_of_getElem? (i := 12) rfl)
theorem kw213 : Cond.superclass "java/lang/Throwable" "java/lang/Object" ∈ mcB := mcB_5_sub _ (List.mem_of_getElem? (i := 13) rfl)
theorem kw214 : Cond.instanceMethod ⟨"java/lang/Throwable", "<init>", "()V"⟩ ∈ mcB := mcB_5_sub _ (List.mem_of_getElem? (i := 14) rfl)
theorem kw215 : Cond.code ⟨"java/lang/Throwable", "<init>", "()V"⟩ prog_13_method_1_code 1 none ∈ mcB := mcB_5_sub _ (List.mem_of_getElem? (i := 15) rfl)
theorem kw216 : Cond.methodLink "java/lang/Throwable" 1 ⟨"java/lang/Object", "<init>", "()V"⟩ ∈ mcB := mcB_5_sub _ (List.mem_of_getElem? (i := 16) rfl)
theorem kw217 : Cond.fieldLink "java/lang/Throwable" 13 "java/lang/Throwable" "UNASSIGNED_STACK" "[Ljava/lang/StackTraceElement;" ∈ mcB := mcB_5_sub _ (List.mem_of_getElem? (i := 17) rfl)
theorem kw218 : Cond.fieldLink "java/lang/Throwable" 20 "java/lang/Throwable" "SUPPRESSED_SENTINEL" "Ljava/util/List;" ∈ mcB := mcB_5_sub _ (List.mem_of_getElem? (i := 18) rfl)
theorem kw219 : Cond.methodLink "java/lang/Throwable" 27 ⟨"java/lang/Throwable", "fillInStackTrace", "()Ljava/lang/Throwable;"⟩ ∈ mcB := mcB_5_sub _ (List.mem_of_getElem? (i := 19) rfl)
theorem kw220 : Cond.instanceMethod ⟨"java/lang/Throwable", "fillInStackTrace", "()Ljava/lang/Throwable;"⟩ ∈ mcB := mcB_5_sub _ (List.mem_of_getElem? (i := 20) rfl)
theorem kw221 : Cond.sameMethod "java/lang/Throwable" "java/lang/Throwable" "fillInStackTrace" "()Ljava/lang/Throwable;" ∈ mcB := mcB_5_sub _ (List.mem_of_getElem? (i := 21) rfl)
theorem kw222 : Cond.selects "java/lang/IllegalStateException" ⟨"java/lang/Throwable", "fillInStackTrace", "()Ljava/lang/Throwable;"⟩ ⟨"java/lang/Throwable", "fillInStackTrace", "()Ljava/lang/Throwable;"⟩ ∈ mcB := mcB_5_sub _ (List.mem_of_getElem? (i := 22) rfl)
theorem kw223 : Cond.codeSync ⟨"java/lang/Throwable", "fillInStackTrace", "()Ljava/lang/Throwable;"⟩ prog_13_method_18_code 1 (some (FieldType.object "java/lang/Throwable")) ∈ mcB := mcB_5_sub _ (List.mem_of_getElem? (i := 23) rfl)
theorem kw224 : Cond.methodLink "java/lang/Throwable" 202 ⟨"java/lang/Throwable", "fillInStackTrace", "(I)Ljava/lang/Throwable;"⟩ ∈ mcB := mcB_5_sub _ (List.mem_of_getElem? (i := 24) rfl)
theorem kw225 : Cond.instanceMethod ⟨"java/lang/Throwable", "fillInStackTrace", "(I)Ljava/lang/Throwable;"⟩ ∈ mcB := mcB_5_sub _ (List.mem_of_getElem? (i := 25) rfl)
theorem kw226 : Cond.instantiable "java/lang/Throwable" 6 ∈ mcB := mcB_5_sub _ (List.mem_of_getElem? (i := 26) rfl)
theorem kw227 : Cond.native ⟨"java/lang/Throwable", "fillInStackTrace", "(I)Ljava/lang/Throwable;"⟩ ∈ mcB := mcB_5_sub _ (List.mem_of_getElem? (i := 27) rfl)
theorem kw228 : Cond.methodLink "MeasureChoice" 129 ⟨"java/lang/IllegalArgumentException", "<init>", "(Ljava/lang/String;)V"⟩ ∈ mcB := mcB_5_sub _ (List.mem_of_getElem? (i := 28) rfl)
theorem kw229 : Cond.instanceMethod ⟨"java/lang/IllegalArgumentException", "<init>", "(Ljava/lang/String;)V"⟩ ∈ mcB := mcB_5_sub _ (List.mem_of_getElem? (i := 29) rfl)
theorem kw230 : Cond.code ⟨"java/lang/IllegalArgumentException", "<init>", "(Ljava/lang/String;)V"⟩ prog_8_method_2_code 2 none ∈ mcB := mcB_5_sub _ (List.mem_of_getElem? (i := 30) rfl)
theorem kw231 : Cond.methodLink "java/lang/IllegalArgumentException" 7 ⟨"java/lang/RuntimeException", "<init>", "(Ljava/lang/String;)V"⟩ ∈ mcB := mcB_5_sub _ (List.mem_of_getElem? (i := 31) rfl)
theorem kw232 : Cond.instanceMethod ⟨"java/lang/RuntimeException", "<init>", "(Ljava/lang/String;)V"⟩ ∈ mcB := mcB_5_sub _ (List.mem_of_getElem? (i := 32) rfl)
theorem kw233 : Cond.code ⟨"java/lang/RuntimeException", "<init>", "(Ljava/lang/String;)V"⟩ prog_11_method_2_code 2 none ∈ mcB := mcB_5_sub _ (List.mem_of_getElem? (i := 33) rfl)
theorem kw234 : Cond.methodLink "java/lang/RuntimeException" 7 ⟨"java/lang/Exception", "<init>", "(Ljava/lang/String;)V"⟩ ∈ mcB := mcB_5_sub _ (List.mem_of_getElem? (i := 34) rfl)
theorem kw235 : Cond.instanceMethod ⟨"java/lang/Exception", "<init>", "(Ljava/lang/String;)V"⟩ ∈ mcB := mcB_5_sub _ (List.mem_of_getElem? (i := 35) rfl)
theorem kw236 : Cond.code ⟨"java/lang/Exception", "<init>", "(Ljava/lang/String;)V"⟩ prog_7_method_2_code 2 none ∈ mcB := mcB_5_sub _ (List.mem_of_getElem? (i := 36) rfl)
theorem kw237 : Cond.methodLink "java/lang/Exception" 7 ⟨"java/lang/Throwable", "<init>", "(Ljava/lang/String;)V"⟩ ∈ mcB := mcB_5_sub _ (List.mem_of_getElem? (i := 37) rfl)
theorem kw238 : Cond.instanceMethod ⟨"java/lang/Throwable", "<init>", "(Ljava/lang/String;)V"⟩ ∈ mcB := mcB_5_sub _ (List.mem_of_getElem? (i := 38) rfl)
theorem kw239 : Cond.code ⟨"java/lang/Throwable", "<init>", "(Ljava/lang/String;)V"⟩ prog_13_method_2_code 2 none ∈ mcB := mcB_5_sub _ (List.mem_of_getElem? (i := 39) rfl)
theorem kw240 : Cond.fieldLink "java/lang/Throwable" 198 "java/lang/Throwable" "backtrace" "Ljava/lang/Object;" ∈ mcB := mcB_6_sub _ (List.mem_of_getElem? (i := 0) rfl)
theorem kw241 : Cond.fieldLink "java/lang/Throwable" 31 "java/lang/Throwable" "detailMessage" "Ljava/lang/String;" ∈ mcB := mcB_6_sub _ (List.mem_of_getElem? (i := 1) rfl)
theorem kw242 : Cond.fieldLink "java/lang/Throwable" 7 "java/lang/Throwable" "cause" "Ljava/lang/Throwable;" ∈ mcB := mcB_6_sub _ (List.mem_of_getElem? (i := 2) rfl)
theorem kw243 : Cond.fieldLink "java/lang/Throwable" 17 "java/lang/Throwable" "stackTrace" "[Ljava/lang/StackTraceElement;" ∈ mcB := mcB_6_sub _ (List.mem_of_getElem? (i := 3) rfl)
theorem kw244 : Cond.fieldLink "java/lang/Throwable" 24 "java/lang/Throwable" "suppressedExceptions" "Ljava/util/List;" ∈ mcB := mcB_6_sub _ (List.mem_of_getElem? (i := 4) rfl)
theorem kw245 : Cond.soleField "java/lang/Throwable" "backtrace" ∈ mcB := mcB_6_sub _ (List.mem_of_getElem? (i := 5) rfl)
theorem kw246 : Cond.soleField "java/lang/Throwable" "detailMessage" ∈ mcB := mcB_6_sub _ (List.mem_of_getElem? (i := 6) rfl)
theorem kw247 : Cond.soleField "java/lang/Throwable" "cause" ∈ mcB := mcB_6_sub _ (List.mem_of_getElem? (i := 7) rfl)
theorem kw248 : Cond.soleField "java/lang/Throwable" "stackTrace" ∈ mcB := mcB_6_sub _ (List.mem_of_getElem? (i := 8) rfl)
theorem kw249 : Cond.lays "java/lang/IllegalArgumentException" "java/lang/Throwable" "depth" "I" ∈ mcB := mcB_6_sub _ (List.mem_of_getElem? (i := 9) rfl)
theorem kw250 : Cond.soleField "java/lang/Throwable" "depth" ∈ mcB := mcB_6_sub _ (List.mem_of_getElem? (i := 10) rfl)
theorem kw251 : Cond.soleField "java/lang/Throwable" "suppressedExceptions" ∈ mcB := mcB_6_sub _ (List.mem_of_getElem? (i := 11) rfl)
theorem kw252 : Cond.superclass "java/lang/IllegalArgumentException" "java/lang/RuntimeException" ∈ mcB := mcB_6_sub _ (List.mem_of_getElem? (i := 12) rfl)
theorem kw253 : Cond.arrayClass FieldType.byte ∈ mcB := mcB_6_sub _ (List.mem_of_getElem? (i := 13) rfl)
theorem kw254 : Cond.classLink "MeasureChoice" 38 "java/lang/IllegalStateException" ∈ mcB := mcB_6_sub _ (List.mem_of_getElem? (i := 14) rfl)
theorem kw255 : Cond.instantiable "java/lang/IllegalStateException" 6 ∈ mcB := mcB_6_sub _ (List.mem_of_getElem? (i := 15) rfl)
theorem kw256 : Cond.selects "java/lang/IllegalStateException" ⟨"java/lang/Throwable", "fillInStackTrace", "(I)Ljava/lang/Throwable;"⟩ ⟨"java/lang/Throwable", "fillInStackTrace", "(I)Ljava/lang/Throwable;"⟩ ∈ mcB := mcB_6_sub _ (List.mem_of_getElem? (i := 16) rfl)
theorem kw257 : Cond.lays "java/lang/IllegalStateException" "java/lang/Throwable" "cause" "Ljava/lang/Throwable;" ∈ mcB := mcB_6_sub _ (List.mem_of_getElem? (i := 17) rfl)
theorem kw258 : Cond.lays "java/lang/IllegalStateException" "java/lang/Throwable" "stackTrace" "[Ljava/lang/StackTraceElement;" ∈ mcB := mcB_6_sub _ (List.mem_of_getElem? (i := 18) rfl)
theorem kw259 : Cond.lays "java/lang/IllegalStateException" "java/lang/Throwable" "suppressedExceptions" "Ljava/util/List;" ∈ mcB := mcB_6_sub _ (List.mem_of_getElem? (i := 19) rfl)
theorem kw260 : Cond.lays "java/lang/IllegalStateException" "java/lang/Throwable" "detailMessage" "Ljava/lang/String;" ∈ mcB := mcB_6_sub _ (List.mem_of_getElem? (i := 20) rfl)
theorem kw261 : Cond.lays "java/lang/IllegalStateException" "java/lang/Throwable" "backtrace" "Ljava/lang/Object;" ∈ mcB := mcB_6_sub _ (List.mem_of_getElem? (i := 21) rfl)
theorem kw262 : Cond.methodLink "MeasureChoice" 42 ⟨"java/lang/IllegalStateException", "<init>", "(Ljava/lang/String;)V"⟩ ∈ mcB := mcB_6_sub _ (List.mem_of_getElem? (i := 22) rfl)
theorem kw263 : Cond.instanceMethod ⟨"java/lang/IllegalStateException", "<init>", "(Ljava/lang/String;)V"⟩ ∈ mcB := mcB_6_sub _ (List.mem_of_getElem? (i := 23) rfl)
theorem kw264 : Cond.code ⟨"java/lang/IllegalStateException", "<init>", "(Ljava/lang/String;)V"⟩ prog_9_method_2_code 2 none ∈ mcB := mcB_6_sub _ (List.mem_of_getElem? (i := 24) rfl)
theorem kw265 : Cond.methodLink "java/lang/IllegalStateException" 7 ⟨"java/lang/RuntimeException", "<init>", "(Ljava/lang/String;)V"⟩ ∈ mcB := mcB_6_sub _ (List.mem_of_getElem? (i := 25) rfl)
theorem kw266 : Cond.lays "java/lang/IllegalStateException" "java/lang/Throwable" "depth" "I" ∈ mcB := mcB_6_sub _ (List.mem_of_getElem? (i := 26) rfl)
theorem kw267 : Cond.superclass "java/lang/IllegalStateException" "java/lang/RuntimeException" ∈ mcB := mcB_6_sub _ (List.mem_of_getElem? (i := 27) rfl)
theorem kw268 : Cond.methodLink "MeasureChoice" 45 ⟨"MeasureChoice$House", "add", "(II)I"⟩ ∈ mcB := mcB_6_sub _ (List.mem_of_getElem? (i := 28) rfl)
theorem kw269 : Cond.instanceMethod ⟨"MeasureChoice$House", "add", "(II)I"⟩ ∈ mcB := mcB_6_sub _ (List.mem_of_getElem? (i := 29) rfl)
theorem kw270 : Cond.selects "MeasureChoice$House" ⟨"MeasureChoice$House", "add", "(II)I"⟩ ⟨"MeasureChoice$House", "add", "(II)I"⟩ ∈ mcB := mcB_6_sub _ (List.mem_of_getElem? (i := 30) rfl)
theorem kw271 : Cond.code ⟨"MeasureChoice$House", "add", "(II)I"⟩ prog_2_method_2_code 4 (some FieldType.int) ∈ mcB := mcB_6_sub _ (List.mem_of_getElem? (i := 31) rfl)
theorem kw272 : Cond.methodLink "MeasureChoice$House" 33 ⟨"MeasureChoice$House", "put", "(III)V"⟩ ∈ mcB := mcB_6_sub _ (List.mem_of_getElem? (i := 32) rfl)
theorem kw273 : Cond.instanceMethod ⟨"MeasureChoice$House", "put", "(III)V"⟩ ∈ mcB := mcB_6_sub _ (List.mem_of_getElem? (i := 33) rfl)
theorem kw274 : Cond.selects "MeasureChoice$House" ⟨"MeasureChoice$House", "put", "(III)V"⟩ ⟨"MeasureChoice$House", "put", "(III)V"⟩ ∈ mcB := mcB_6_sub _ (List.mem_of_getElem? (i := 34) rfl)
theorem kw275 : Cond.code ⟨"MeasureChoice$House", "put", "(III)V"⟩ prog_2_method_3_code 4 none ∈ mcB := mcB_6_sub _ (List.mem_of_getElem? (i := 35) rfl)
theorem kw276 : Cond.methodLink "MeasureChoiceLaw" 75 ⟨"MeasureChoiceLaw", "change", "(LMeasureChoice;III)I"⟩ ∈ mcB := mcB_6_sub _ (List.mem_of_getElem? (i := 36) rfl)
theorem kw277 : Cond.static ⟨"MeasureChoiceLaw", "change", "(LMeasureChoice;III)I"⟩ ∈ mcB := mcB_6_sub _ (List.mem_of_getElem? (i := 37) rfl)
theorem kw278 : Cond.codeWith ⟨"MeasureChoiceLaw", "change", "(LMeasureChoice;III)I"⟩ method_4_code 5 (some FieldType.int) [(0, 7, 10, 13)] ∈ mcB := mcB_6_sub _ (List.mem_of_getElem? (i := 38) rfl)
theorem kw279 : Cond.methodLink "MeasureChoiceLaw" 17 ⟨"MeasureChoice", "change", "(III)V"⟩ ∈ mcB := mcB_6_sub _ (List.mem_of_getElem? (i := 39) rfl)
theorem kw280 : Cond.instanceMethod ⟨"MeasureChoice", "change", "(III)V"⟩ ∈ mcB := mcB_7_sub _ (List.mem_of_getElem? (i := 0) rfl)
theorem kw281 : Cond.selects "MeasureChoice" ⟨"MeasureChoice", "change", "(III)V"⟩ ⟨"MeasureChoice", "change", "(III)V"⟩ ∈ mcB := mcB_7_sub _ (List.mem_of_getElem? (i := 1) rfl)
theorem kw282 : Cond.code ⟨"MeasureChoice", "change", "(III)V"⟩ prog_1_method_3_code 4 none ∈ mcB := mcB_7_sub _ (List.mem_of_getElem? (i := 2) rfl)
theorem kw283 : Cond.methodLink "MeasureChoice" 49 ⟨"MeasureChoice", "requireMeasure", "(I)V"⟩ ∈ mcB := mcB_7_sub _ (List.mem_of_getElem? (i := 3) rfl)
theorem kw284 : Cond.instanceMethod ⟨"MeasureChoice", "requireMeasure", "(I)V"⟩ ∈ mcB := mcB_7_sub _ (List.mem_of_getElem? (i := 4) rfl)
theorem kw285 : Cond.code ⟨"MeasureChoice", "requireMeasure", "(I)V"⟩ prog_1_method_20_code 2 none ∈ mcB := mcB_7_sub _ (List.mem_of_getElem? (i := 5) rfl)
theorem kw286 : Cond.methodLink "MeasureChoice" 53 ⟨"MeasureChoice$House", "put", "(III)V"⟩ ∈ mcB := mcB_7_sub _ (List.mem_of_getElem? (i := 6) rfl)
theorem kw287 : Cond.methodLink "MeasureChoiceLaw" 79 ⟨"MeasureChoiceLaw", "exclude", "(LMeasureChoice;IIZ[J)I"⟩ ∈ mcB := mcB_7_sub _ (List.mem_of_getElem? (i := 7) rfl)
theorem kw288 : Cond.static ⟨"MeasureChoiceLaw", "exclude", "(LMeasureChoice;IIZ[J)I"⟩ ∈ mcB := mcB_7_sub _ (List.mem_of_getElem? (i := 8) rfl)
theorem kw289 : Cond.codeWith ⟨"MeasureChoiceLaw", "exclude", "(LMeasureChoice;IIZ[J)I"⟩ method_5_code 6 (some FieldType.int) [(0, 19, 22, 13)] ∈ mcB := mcB_7_sub _ (List.mem_of_getElem? (i := 9) rfl)
theorem kw290 : Cond.methodLink "MeasureChoiceLaw" 21 ⟨"MeasureChoice", "exclude", "(IIZ)Z"⟩ ∈ mcB := mcB_7_sub _ (List.mem_of_getElem? (i := 10) rfl)
theorem kw291 : Cond.instanceMethod ⟨"MeasureChoice", "exclude", "(IIZ)Z"⟩ ∈ mcB := mcB_7_sub _ (List.mem_of_getElem? (i := 11) rfl)
theorem kw292 : Cond.selects "MeasureChoice" ⟨"MeasureChoice", "exclude", "(IIZ)Z"⟩ ⟨"MeasureChoice", "exclude", "(IIZ)Z"⟩ ∈ mcB := mcB_7_sub _ (List.mem_of_getElem? (i := 12) rfl)
theorem kw293 : Cond.code ⟨"MeasureChoice", "exclude", "(IIZ)Z"⟩ prog_1_method_4_code 5 (some FieldType.boolean) ∈ mcB := mcB_7_sub _ (List.mem_of_getElem? (i := 13) rfl)
theorem kw294 : Cond.methodLink "MeasureChoice" 57 ⟨"MeasureChoice", "requirePair", "(II)V"⟩ ∈ mcB := mcB_7_sub _ (List.mem_of_getElem? (i := 14) rfl)
theorem kw295 : Cond.instanceMethod ⟨"MeasureChoice", "requirePair", "(II)V"⟩ ∈ mcB := mcB_7_sub _ (List.mem_of_getElem? (i := 15) rfl)
theorem kw296 : Cond.code ⟨"MeasureChoice", "requirePair", "(II)V"⟩ prog_1_method_21_code 3 none ∈ mcB := mcB_7_sub _ (List.mem_of_getElem? (i := 16) rfl)
theorem kw297 : Cond.methodLink "MeasureChoice" 64 ⟨"MeasureChoice$House", "has", "(II)Z"⟩ ∈ mcB := mcB_7_sub _ (List.mem_of_getElem? (i := 17) rfl)
theorem kw298 : Cond.methodLink "MeasureChoice" 68 ⟨"MeasureChoice$House", "putExcluded", "(IIZ)V"⟩ ∈ mcB := mcB_7_sub _ (List.mem_of_getElem? (i := 18) rfl)
theorem kw299 : Cond.instanceMethod ⟨"MeasureChoice$House", "putExcluded", "(IIZ)V"⟩ ∈ mcB := mcB_7_sub _ (List.mem_of_getElem? (i := 19) rfl)
theorem kw300 : Cond.selects "MeasureChoice$House" ⟨"MeasureChoice$House", "putExcluded", "(IIZ)V"⟩ ⟨"MeasureChoice$House", "putExcluded", "(IIZ)V"⟩ ∈ mcB := mcB_7_sub _ (List.mem_of_getElem? (i := 20) rfl)
theorem kw301 : Cond.code ⟨"MeasureChoice$House", "putExcluded", "(IIZ)V"⟩ prog_2_method_4_code 4 none ∈ mcB := mcB_7_sub _ (List.mem_of_getElem? (i := 21) rfl)
theorem kw302 : Cond.methodLink "MeasureChoice$House" 40 ⟨"MeasureChoice$House", "with", "(IIZ)I"⟩ ∈ mcB := mcB_7_sub _ (List.mem_of_getElem? (i := 22) rfl)
theorem kw303 : Cond.static ⟨"MeasureChoice$House", "with", "(IIZ)I"⟩ ∈ mcB := mcB_7_sub _ (List.mem_of_getElem? (i := 23) rfl)
theorem kw304 : Cond.code ⟨"MeasureChoice$House", "with", "(IIZ)I"⟩ prog_2_method_14_code 4 (some FieldType.int) ∈ mcB := mcB_7_sub _ (List.mem_of_getElem? (i := 24) rfl)
theorem kw305 : Cond.methodLink "MeasureChoiceLaw" 83 ⟨"MeasureChoiceLaw", "needs", "(LMeasureChoice;IIZ[J)I"⟩ ∈ mcB := mcB_7_sub _ (List.mem_of_getElem? (i := 25) rfl)
theorem kw306 : Cond.static ⟨"MeasureChoiceLaw", "needs", "(LMeasureChoice;IIZ[J)I"⟩ ∈ mcB := mcB_7_sub _ (List.mem_of_getElem? (i := 26) rfl)
theorem kw307 : Cond.codeWith ⟨"MeasureChoiceLaw", "needs", "(LMeasureChoice;IIZ[J)I"⟩ method_6_code 6 (some FieldType.int) [(0, 19, 22, 13)] ∈ mcB := mcB_7_sub _ (List.mem_of_getElem? (i := 27) rfl)
theorem kw308 : Cond.methodLink "MeasureChoiceLaw" 25 ⟨"MeasureChoice", "needs", "(IIZ)Z"⟩ ∈ mcB := mcB_7_sub _ (List.mem_of_getElem? (i := 28) rfl)
theorem kw309 : Cond.instanceMethod ⟨"MeasureChoice", "needs", "(IIZ)Z"⟩ ∈ mcB := mcB_7_sub _ (List.mem_of_getElem? (i := 29) rfl)
theorem kw310 : Cond.selects "MeasureChoice" ⟨"MeasureChoice", "needs", "(IIZ)Z"⟩ ⟨"MeasureChoice", "needs", "(IIZ)Z"⟩ ∈ mcB := mcB_7_sub _ (List.mem_of_getElem? (i := 30) rfl)
theorem kw311 : Cond.code ⟨"MeasureChoice", "needs", "(IIZ)Z"⟩ prog_1_method_5_code 5 (some FieldType.boolean) ∈ mcB := mcB_7_sub _ (List.mem_of_getElem? (i := 31) rfl)
theorem kw312 : Cond.methodLink "MeasureChoice" 75 ⟨"MeasureChoice$House", "putNeeded", "(IIZ)V"⟩ ∈ mcB := mcB_7_sub _ (List.mem_of_getElem? (i := 32) rfl)
theorem kw313 : Cond.instanceMethod ⟨"MeasureChoice$House", "putNeeded", "(IIZ)V"⟩ ∈ mcB := mcB_7_sub _ (List.mem_of_getElem? (i := 33) rfl)
theorem kw314 : Cond.selects "MeasureChoice$House" ⟨"MeasureChoice$House", "putNeeded", "(IIZ)V"⟩ ⟨"MeasureChoice$House", "putNeeded", "(IIZ)V"⟩ ∈ mcB := mcB_7_sub _ (List.mem_of_getElem? (i := 34) rfl)
theorem kw315 : Cond.code ⟨"MeasureChoice$House", "putNeeded", "(IIZ)V"⟩ prog_2_method_5_code 4 none ∈ mcB := mcB_7_sub _ (List.mem_of_getElem? (i := 35) rfl)
theorem kw316 : Cond.methodLink "MeasureChoiceLaw" 86 ⟨"MeasureChoiceLaw", "bonus", "(LMeasureChoice;III[J)I"⟩ ∈ mcB := mcB_7_sub _ (List.mem_of_getElem? (i := 36) rfl)
theorem kw317 : Cond.static ⟨"MeasureChoiceLaw", "bonus", "(LMeasureChoice;III[J)I"⟩ ∈ mcB := mcB_7_sub _ (List.mem_of_getElem? (i := 37) rfl)
theorem kw318 : Cond.codeWith ⟨"MeasureChoiceLaw", "bonus", "(LMeasureChoice;III[J)I"⟩ method_7_code 6 (some FieldType.int) [(0, 12, 15, 13)] ∈ mcB := mcB_7_sub _ (List.mem_of_getElem? (i := 38) rfl)
theorem kw319 : Cond.methodLink "MeasureChoiceLaw" 28 ⟨"MeasureChoice", "bonus", "(III)I"⟩ ∈ mcB := mcB_7_sub _ (List.mem_of_getElem? (i := 39) rfl)
theorem kw320 : Cond.instanceMethod ⟨"MeasureChoice", "bonus", "(III)I"⟩ ∈ mcB := mcB_8_sub _ (List.mem_of_getElem? (i := 0) rfl)
theorem kw321 : Cond.selects "MeasureChoice" ⟨"MeasureChoice", "bonus", "(III)I"⟩ ⟨"MeasureChoice", "bonus", "(III)I"⟩ ∈ mcB := mcB_8_sub _ (List.mem_of_getElem? (i := 1) rfl)
theorem kw322 : Cond.code ⟨"MeasureChoice", "bonus", "(III)I"⟩ prog_1_method_6_code 5 (some FieldType.int) ∈ mcB := mcB_8_sub _ (List.mem_of_getElem? (i := 2) rfl)
theorem kw323 : Cond.methodLink "MeasureChoice" 85 ⟨"MeasureChoice$House", "putBonus", "(III)V"⟩ ∈ mcB := mcB_8_sub _ (List.mem_of_getElem? (i := 3) rfl)
theorem kw324 : Cond.instanceMethod ⟨"MeasureChoice$House", "putBonus", "(III)V"⟩ ∈ mcB := mcB_8_sub _ (List.mem_of_getElem? (i := 4) rfl)
theorem kw325 : Cond.selects "MeasureChoice$House" ⟨"MeasureChoice$House", "putBonus", "(III)V"⟩ ⟨"MeasureChoice$House", "putBonus", "(III)V"⟩ ∈ mcB := mcB_8_sub _ (List.mem_of_getElem? (i := 5) rfl)
theorem kw326 : Cond.code ⟨"MeasureChoice$House", "putBonus", "(III)V"⟩ prog_2_method_6_code 4 none ∈ mcB := mcB_8_sub _ (List.mem_of_getElem? (i := 6) rfl)
theorem kw327 : Cond.methodLink "MeasureChoiceLaw" 90 ⟨"MeasureChoiceLaw", "lawful", "(LMeasureChoice;I[J)I"⟩ ∈ mcB := mcB_8_sub _ (List.mem_of_getElem? (i := 7) rfl)
theorem kw328 : Cond.static ⟨"MeasureChoiceLaw", "lawful", "(LMeasureChoice;I[J)I"⟩ ∈ mcB := mcB_8_sub _ (List.mem_of_getElem? (i := 8) rfl)
theorem kw329 : Cond.codeWith ⟨"MeasureChoiceLaw", "lawful", "(LMeasureChoice;I[J)I"⟩ method_8_code 4 (some FieldType.int) [(0, 16, 19, 13)] ∈ mcB := mcB_8_sub _ (List.mem_of_getElem? (i := 9) rfl)
theorem kw330 : Cond.methodLink "MeasureChoiceLaw" 32 ⟨"MeasureChoice", "lawful", "(I)Z"⟩ ∈ mcB := mcB_8_sub _ (List.mem_of_getElem? (i := 10) rfl)
theorem kw331 : Cond.instanceMethod ⟨"MeasureChoice", "lawful", "(I)Z"⟩ ∈ mcB := mcB_8_sub _ (List.mem_of_getElem? (i := 11) rfl)
theorem kw332 : Cond.selects "MeasureChoice" ⟨"MeasureChoice", "lawful", "(I)Z"⟩ ⟨"MeasureChoice", "lawful", "(I)Z"⟩ ∈ mcB := mcB_8_sub _ (List.mem_of_getElem? (i := 12) rfl)
theorem kw333 : Cond.code ⟨"MeasureChoice", "lawful", "(I)Z"⟩ prog_1_method_7_code 2 (some FieldType.boolean) ∈ mcB := mcB_8_sub _ (List.mem_of_getElem? (i := 13) rfl)
theorem kw334 : Cond.methodLink "MeasureChoice" 88 ⟨"MeasureChoice", "requireSet", "(I)V"⟩ ∈ mcB := mcB_8_sub _ (List.mem_of_getElem? (i := 14) rfl)
theorem kw335 : Cond.instanceMethod ⟨"MeasureChoice", "requireSet", "(I)V"⟩ ∈ mcB := mcB_8_sub _ (List.mem_of_getElem? (i := 15) rfl)
theorem kw336 : Cond.code ⟨"MeasureChoice", "requireSet", "(I)V"⟩ prog_1_method_22_code 2 none ∈ mcB := mcB_8_sub _ (List.mem_of_getElem? (i := 16) rfl)
theorem kw337 : Cond.methodLink "MeasureChoice" 91 ⟨"MeasureChoice$House", "allows", "(I)Z"⟩ ∈ mcB := mcB_8_sub _ (List.mem_of_getElem? (i := 17) rfl)
theorem kw338 : Cond.methodLink "MeasureChoiceLaw" 94 ⟨"MeasureChoiceLaw", "told", "(LMeasureChoice;II[J)I"⟩ ∈ mcB := mcB_8_sub _ (List.mem_of_getElem? (i := 18) rfl)
theorem kw339 : Cond.static ⟨"MeasureChoiceLaw", "told", "(LMeasureChoice;II[J)I"⟩ ∈ mcB := mcB_8_sub _ (List.mem_of_getElem? (i := 19) rfl)
theorem kw340 : Cond.codeWith ⟨"MeasureChoiceLaw", "told", "(LMeasureChoice;II[J)I"⟩ method_9_code 5 (some FieldType.int) [(0, 10, 13, 13)] ∈ mcB := mcB_8_sub _ (List.mem_of_getElem? (i := 20) rfl)
theorem kw341 : Cond.methodLink "MeasureChoiceLaw" 36 ⟨"MeasureChoice", "told", "(II)I"⟩ ∈ mcB := mcB_8_sub _ (List.mem_of_getElem? (i := 21) rfl)
theorem kw342 : Cond.instanceMethod ⟨"MeasureChoice", "told", "(II)I"⟩ ∈ mcB := mcB_8_sub _ (List.mem_of_getElem? (i := 22) rfl)
theorem kw343 : Cond.selects "MeasureChoice" ⟨"MeasureChoice", "told", "(II)I"⟩ ⟨"MeasureChoice", "told", "(II)I"⟩ ∈ mcB := mcB_8_sub _ (List.mem_of_getElem? (i := 23) rfl)
theorem kw344 : Cond.code ⟨"MeasureChoice", "told", "(II)I"⟩ prog_1_method_8_code 3 (some FieldType.int) ∈ mcB := mcB_8_sub _ (List.mem_of_getElem? (i := 24) rfl)
theorem kw345 : Cond.methodLink "MeasureChoice" 95 ⟨"MeasureChoice$House", "costOf", "(I)I"⟩ ∈ mcB := mcB_8_sub _ (List.mem_of_getElem? (i := 25) rfl)
theorem kw346 : Cond.instanceMethod ⟨"MeasureChoice$House", "costOf", "(I)I"⟩ ∈ mcB := mcB_8_sub _ (List.mem_of_getElem? (i := 26) rfl)
theorem kw347 : Cond.selects "MeasureChoice$House" ⟨"MeasureChoice$House", "costOf", "(I)I"⟩ ⟨"MeasureChoice$House", "costOf", "(I)I"⟩ ∈ mcB := mcB_8_sub _ (List.mem_of_getElem? (i := 27) rfl)
theorem kw348 : Cond.code ⟨"MeasureChoice$House", "costOf", "(I)I"⟩ prog_2_method_8_code 4 (some FieldType.int) ∈ mcB := mcB_8_sub _ (List.mem_of_getElem? (i := 28) rfl)
theorem kw349 : Cond.methodLink "MeasureChoice" 99 ⟨"MeasureChoice$House", "gainOf", "(I)I"⟩ ∈ mcB := mcB_8_sub _ (List.mem_of_getElem? (i := 29) rfl)
theorem kw350 : Cond.instanceMethod ⟨"MeasureChoice$House", "gainOf", "(I)I"⟩ ∈ mcB := mcB_8_sub _ (List.mem_of_getElem? (i := 30) rfl)
theorem kw351 : Cond.selects "MeasureChoice$House" ⟨"MeasureChoice$House", "gainOf", "(I)I"⟩ ⟨"MeasureChoice$House", "gainOf", "(I)I"⟩ ∈ mcB := mcB_8_sub _ (List.mem_of_getElem? (i := 31) rfl)
theorem kw352 : Cond.code ⟨"MeasureChoice$House", "gainOf", "(I)I"⟩ prog_2_method_9_code 4 (some FieldType.int) ∈ mcB := mcB_8_sub _ (List.mem_of_getElem? (i := 32) rfl)
theorem kw353 : Cond.methodLink "MeasureChoice$House" 48 ⟨"MeasureChoice$House", "bonusWithEarlier", "(II)I"⟩ ∈ mcB := mcB_8_sub _ (List.mem_of_getElem? (i := 33) rfl)
theorem kw354 : Cond.instanceMethod ⟨"MeasureChoice$House", "bonusWithEarlier", "(II)I"⟩ ∈ mcB := mcB_8_sub _ (List.mem_of_getElem? (i := 34) rfl)
theorem kw355 : Cond.code ⟨"MeasureChoice$House", "bonusWithEarlier", "(II)I"⟩ prog_2_method_10_code 5 (some FieldType.int) ∈ mcB := mcB_8_sub _ (List.mem_of_getElem? (i := 35) rfl)
theorem kw356 : Cond.methodLink "MeasureChoiceLaw" 97 ⟨"MeasureChoiceLaw", "closure", "(LMeasureChoice;I[J)I"⟩ ∈ mcB := mcB_8_sub _ (List.mem_of_getElem? (i := 36) rfl)
theorem kw357 : Cond.static ⟨"MeasureChoiceLaw", "closure", "(LMeasureChoice;I[J)I"⟩ ∈ mcB := mcB_8_sub _ (List.mem_of_getElem? (i := 37) rfl)
theorem kw358 : Cond.codeWith ⟨"MeasureChoiceLaw", "closure", "(LMeasureChoice;I[J)I"⟩ method_10_code 4 (some FieldType.int) [(0, 9, 12, 13)] ∈ mcB := mcB_8_sub _ (List.mem_of_getElem? (i := 38) rfl)
theorem kw359 : Cond.methodLink "MeasureChoiceLaw" 39 ⟨"MeasureChoice", "closure", "(I)I"⟩ ∈ mcB := mcB_8_sub _ (List.mem_of_getElem? (i := 39) rfl)
theorem kw360 : Cond.instanceMethod ⟨"MeasureChoice", "closure", "(I)I"⟩ ∈ mcB := mcB_9_sub _ (List.mem_of_getElem? (i := 0) rfl)
theorem kw361 : Cond.selects "MeasureChoice" ⟨"MeasureChoice", "closure", "(I)I"⟩ ⟨"MeasureChoice", "closure", "(I)I"⟩ ∈ mcB := mcB_9_sub _ (List.mem_of_getElem? (i := 1) rfl)
theorem kw362 : Cond.code ⟨"MeasureChoice", "closure", "(I)I"⟩ prog_1_method_9_code 2 (some FieldType.int) ∈ mcB := mcB_9_sub _ (List.mem_of_getElem? (i := 2) rfl)
theorem kw363 : Cond.methodLink "MeasureChoice" 102 ⟨"MeasureChoice$House", "broughtBy", "(I)I"⟩ ∈ mcB := mcB_9_sub _ (List.mem_of_getElem? (i := 3) rfl)
theorem kw364 : Cond.instanceMethod ⟨"MeasureChoice$House", "broughtBy", "(I)I"⟩ ∈ mcB := mcB_9_sub _ (List.mem_of_getElem? (i := 4) rfl)
theorem kw365 : Cond.selects "MeasureChoice$House" ⟨"MeasureChoice$House", "broughtBy", "(I)I"⟩ ⟨"MeasureChoice$House", "broughtBy", "(I)I"⟩ ∈ mcB := mcB_9_sub _ (List.mem_of_getElem? (i := 5) rfl)
theorem kw366 : Cond.code ⟨"MeasureChoice$House", "broughtBy", "(I)I"⟩ prog_2_method_11_code 4 (some FieldType.int) ∈ mcB := mcB_9_sub _ (List.mem_of_getElem? (i := 6) rfl)
theorem kw367 : Cond.methodLink "MeasureChoice$House" 52 ⟨"MeasureChoice$House", "withItsNeeds", "(I)I"⟩ ∈ mcB := mcB_9_sub _ (List.mem_of_getElem? (i := 7) rfl)
theorem kw368 : Cond.instanceMethod ⟨"MeasureChoice$House", "withItsNeeds", "(I)I"⟩ ∈ mcB := mcB_9_sub _ (List.mem_of_getElem? (i := 8) rfl)
theorem kw369 : Cond.code ⟨"MeasureChoice$House", "withItsNeeds", "(I)I"⟩ prog_2_method_12_code 4 (some FieldType.int) ∈ mcB := mcB_9_sub _ (List.mem_of_getElem? (i := 9) rfl)
theorem kw370 : Cond.methodLink "MeasureChoiceLaw" 100 ⟨"MeasureChoiceLaw", "best", "(LMeasureChoice;I[J)I"⟩ ∈ mcB := mcB_9_sub _ (List.mem_of_getElem? (i := 10) rfl)
theorem kw371 : Cond.static ⟨"MeasureChoiceLaw", "best", "(LMeasureChoice;I[J)I"⟩ ∈ mcB := mcB_9_sub _ (List.mem_of_getElem? (i := 11) rfl)
theorem kw372 : Cond.codeWith ⟨"MeasureChoiceLaw", "best", "(LMeasureChoice;I[J)I"⟩ method_11_code 4 (some FieldType.int) [(0, 9, 12, 13)] ∈ mcB := mcB_9_sub _ (List.mem_of_getElem? (i := 12) rfl)
theorem kw373 : Cond.methodLink "MeasureChoiceLaw" 43 ⟨"MeasureChoice", "best", "(I)I"⟩ ∈ mcB := mcB_9_sub _ (List.mem_of_getElem? (i := 13) rfl)
theorem kw374 : Cond.instanceMethod ⟨"MeasureChoice", "best", "(I)I"⟩ ∈ mcB := mcB_9_sub _ (List.mem_of_getElem? (i := 14) rfl)
theorem kw375 : Cond.selects "MeasureChoice" ⟨"MeasureChoice", "best", "(I)I"⟩ ⟨"MeasureChoice", "best", "(I)I"⟩ ∈ mcB := mcB_9_sub _ (List.mem_of_getElem? (i := 15) rfl)
theorem kw376 : Cond.code ⟨"MeasureChoice", "best", "(I)I"⟩ prog_1_method_10_code 2 (some FieldType.int) ∈ mcB := mcB_9_sub _ (List.mem_of_getElem? (i := 16) rfl)
theorem kw377 : Cond.methodLink "MeasureChoice" 105 ⟨"MeasureChoice", "requireNotBelowZero", "(I)V"⟩ ∈ mcB := mcB_9_sub _ (List.mem_of_getElem? (i := 17) rfl)
theorem kw378 : Cond.static ⟨"MeasureChoice", "requireNotBelowZero", "(I)V"⟩ ∈ mcB := mcB_9_sub _ (List.mem_of_getElem? (i := 18) rfl)
theorem kw379 : Cond.code ⟨"MeasureChoice", "requireNotBelowZero", "(I)V"⟩ prog_1_method_18_code 1 none ∈ mcB := mcB_9_sub _ (List.mem_of_getElem? (i := 19) rfl)
theorem kw380 : Cond.methodLink "MeasureChoice" 112 ⟨"MeasureChoice$Ladder", "highestWithin", "(I)I"⟩ ∈ mcB := mcB_9_sub _ (List.mem_of_getElem? (i := 20) rfl)
theorem kw381 : Cond.instanceMethod ⟨"MeasureChoice$Ladder", "highestWithin", "(I)I"⟩ ∈ mcB := mcB_9_sub _ (List.mem_of_getElem? (i := 21) rfl)
theorem kw382 : Cond.selects "MeasureChoice$Ladder" ⟨"MeasureChoice$Ladder", "highestWithin", "(I)I"⟩ ⟨"MeasureChoice$Ladder", "highestWithin", "(I)I"⟩ ∈ mcB := mcB_9_sub _ (List.mem_of_getElem? (i := 22) rfl)
theorem kw383 : Cond.code ⟨"MeasureChoice$Ladder", "highestWithin", "(I)I"⟩ prog_3_method_5_code 4 (some FieldType.int) ∈ mcB := mcB_9_sub _ (List.mem_of_getElem? (i := 23) rfl)
theorem kw384 : Cond.methodLink "MeasureChoice" 115 ⟨"MeasureChoice$Ladder", "setAt", "(I)I"⟩ ∈ mcB := mcB_9_sub _ (List.mem_of_getElem? (i := 24) rfl)
theorem kw385 : Cond.methodLink "MeasureChoiceLaw" 107 ⟨"MeasureChoiceLaw", "worth", "(LMeasureChoice;II[J)I"⟩ ∈ mcB := mcB_9_sub _ (List.mem_of_getElem? (i := 25) rfl)
theorem kw386 : Cond.static ⟨"MeasureChoiceLaw", "worth", "(LMeasureChoice;II[J)I"⟩ ∈ mcB := mcB_9_sub _ (List.mem_of_getElem? (i := 26) rfl)
theorem kw387 : Cond.codeWith ⟨"MeasureChoiceLaw", "worth", "(LMeasureChoice;II[J)I"⟩ method_12_code 5 (some FieldType.int) [(0, 10, 13, 13)] ∈ mcB := mcB_9_sub _ (List.mem_of_getElem? (i := 27) rfl)
theorem kw388 : Cond.methodLink "MeasureChoiceLaw" 46 ⟨"MeasureChoice", "worth", "(II)I"⟩ ∈ mcB := mcB_9_sub _ (List.mem_of_getElem? (i := 28) rfl)
theorem kw389 : Cond.instanceMethod ⟨"MeasureChoice", "worth", "(II)I"⟩ ∈ mcB := mcB_9_sub _ (List.mem_of_getElem? (i := 29) rfl)
theorem kw390 : Cond.selects "MeasureChoice" ⟨"MeasureChoice", "worth", "(II)I"⟩ ⟨"MeasureChoice", "worth", "(II)I"⟩ ∈ mcB := mcB_9_sub _ (List.mem_of_getElem? (i := 30) rfl)
theorem kw391 : Cond.code ⟨"MeasureChoice", "worth", "(II)I"⟩ prog_1_method_12_code 4 (some FieldType.int) ∈ mcB := mcB_9_sub _ (List.mem_of_getElem? (i := 31) rfl)
theorem kw392 : Cond.constant "MeasureChoice" 124 (1000000 : Int32) ∈ mcB := mcB_9_sub _ (List.mem_of_getElem? (i := 32) rfl)
theorem kw393 : Cond.methodLink "MeasureChoice" 130 ⟨"MeasureChoice$Ladder", "gainAt", "(I)I"⟩ ∈ mcB := mcB_9_sub _ (List.mem_of_getElem? (i := 33) rfl)
theorem kw394 : Cond.methodLink "MeasureChoiceLaw" 110 ⟨"MeasureChoiceLaw", "frontier", "(LMeasureChoice;I[J)I"⟩ ∈ mcB := mcB_9_sub _ (List.mem_of_getElem? (i := 34) rfl)
theorem kw395 : Cond.static ⟨"MeasureChoiceLaw", "frontier", "(LMeasureChoice;I[J)I"⟩ ∈ mcB := mcB_9_sub _ (List.mem_of_getElem? (i := 35) rfl)
theorem kw396 : Cond.codeWith ⟨"MeasureChoiceLaw", "frontier", "(LMeasureChoice;I[J)I"⟩ method_13_code 4 (some FieldType.int) [(0, 9, 12, 13)] ∈ mcB := mcB_9_sub _ (List.mem_of_getElem? (i := 36) rfl)
theorem kw397 : Cond.methodLink "MeasureChoiceLaw" 49 ⟨"MeasureChoice", "frontier", "(I)I"⟩ ∈ mcB := mcB_9_sub _ (List.mem_of_getElem? (i := 37) rfl)
theorem kw398 : Cond.instanceMethod ⟨"MeasureChoice", "frontier", "(I)I"⟩ ∈ mcB := mcB_9_sub _ (List.mem_of_getElem? (i := 38) rfl)
theorem kw399 : Cond.selects "MeasureChoice" ⟨"MeasureChoice", "frontier", "(I)I"⟩ ⟨"MeasureChoice", "frontier", "(I)I"⟩ ∈ mcB := mcB_9_sub _ (List.mem_of_getElem? (i := 39) rfl)
theorem kw400 : Cond.code ⟨"MeasureChoice", "frontier", "(I)I"⟩ prog_1_method_13_code 2 (some FieldType.int) ∈ mcB := mcB_10_sub _ (List.mem_of_getElem? (i := 0) rfl)
theorem kw401 : Cond.methodLink "MeasureChoiceLaw" 113 ⟨"MeasureChoiceLaw", "year", "(LMeasureChoice;II[J)I"⟩ ∈ mcB := mcB_10_sub _ (List.mem_of_getElem? (i := 1) rfl)
theorem kw402 : Cond.static ⟨"MeasureChoiceLaw", "year", "(LMeasureChoice;II[J)I"⟩ ∈ mcB := mcB_10_sub _ (List.mem_of_getElem? (i := 2) rfl)
theorem kw403 : Cond.codeWith ⟨"MeasureChoiceLaw", "year", "(LMeasureChoice;II[J)I"⟩ method_14_code 5 (some FieldType.int) [(0, 10, 13, 13)] ∈ mcB := mcB_10_sub _ (List.mem_of_getElem? (i := 3) rfl)
theorem kw404 : Cond.methodLink "MeasureChoiceLaw" 52 ⟨"MeasureChoice", "year", "(II)I"⟩ ∈ mcB := mcB_10_sub _ (List.mem_of_getElem? (i := 4) rfl)
theorem kw405 : Cond.instanceMethod ⟨"MeasureChoice", "year", "(II)I"⟩ ∈ mcB := mcB_10_sub _ (List.mem_of_getElem? (i := 5) rfl)
theorem kw406 : Cond.selects "MeasureChoice" ⟨"MeasureChoice", "year", "(II)I"⟩ ⟨"MeasureChoice", "year", "(II)I"⟩ ∈ mcB := mcB_10_sub _ (List.mem_of_getElem? (i := 6) rfl)
theorem kw407 : Cond.code ⟨"MeasureChoice", "year", "(II)I"⟩ prog_1_method_14_code 4 (some FieldType.int) ∈ mcB := mcB_10_sub _ (List.mem_of_getElem? (i := 7) rfl)
theorem kw408 : Cond.constant "MeasureChoice" 136 (100000 : Int32) ∈ mcB := mcB_10_sub _ (List.mem_of_getElem? (i := 8) rfl)
theorem kw409 : Cond.methodLink "MeasureChoiceLaw" 116 ⟨"MeasureChoiceLaw", "plan", "(LMeasureChoice;II[J)I"⟩ ∈ mcB := mcB_10_sub _ (List.mem_of_getElem? (i := 9) rfl)
theorem kw410 : Cond.static ⟨"MeasureChoiceLaw", "plan", "(LMeasureChoice;II[J)I"⟩ ∈ mcB := mcB_10_sub _ (List.mem_of_getElem? (i := 10) rfl)
theorem kw411 : Cond.codeWith ⟨"MeasureChoiceLaw", "plan", "(LMeasureChoice;II[J)I"⟩ method_15_code 5 (some FieldType.int) [(0, 10, 13, 13)] ∈ mcB := mcB_10_sub _ (List.mem_of_getElem? (i := 11) rfl)
theorem kw412 : Cond.methodLink "MeasureChoiceLaw" 55 ⟨"MeasureChoice", "plan", "(II)I"⟩ ∈ mcB := mcB_10_sub _ (List.mem_of_getElem? (i := 12) rfl)
theorem kw413 : Cond.instanceMethod ⟨"MeasureChoice", "plan", "(II)I"⟩ ∈ mcB := mcB_10_sub _ (List.mem_of_getElem? (i := 13) rfl)
theorem kw414 : Cond.selects "MeasureChoice" ⟨"MeasureChoice", "plan", "(II)I"⟩ ⟨"MeasureChoice", "plan", "(II)I"⟩ ∈ mcB := mcB_10_sub _ (List.mem_of_getElem? (i := 14) rfl)
theorem kw415 : Cond.code ⟨"MeasureChoice", "plan", "(II)I"⟩ prog_1_method_15_code 3 (some FieldType.int) ∈ mcB := mcB_10_sub _ (List.mem_of_getElem? (i := 15) rfl)
theorem kw416 : Cond.methodLink "MeasureChoice" 140 ⟨"MeasureChoice$Planner", "work", "(LMeasureChoice$House;I)V"⟩ ∈ mcB := mcB_10_sub _ (List.mem_of_getElem? (i := 16) rfl)
theorem kw417 : Cond.instanceMethod ⟨"MeasureChoice$Planner", "work", "(LMeasureChoice$House;I)V"⟩ ∈ mcB := mcB_10_sub _ (List.mem_of_getElem? (i := 17) rfl)
theorem kw418 : Cond.selects "MeasureChoice$Planner" ⟨"MeasureChoice$Planner", "work", "(LMeasureChoice$House;I)V"⟩ ⟨"MeasureChoice$Planner", "work", "(LMeasureChoice$House;I)V"⟩ ∈ mcB := mcB_10_sub _ (List.mem_of_getElem? (i := 18) rfl)
theorem kw419 : Cond.code ⟨"MeasureChoice$Planner", "work", "(LMeasureChoice$House;I)V"⟩ prog_4_method_2_code 4 none ∈ mcB := mcB_10_sub _ (List.mem_of_getElem? (i := 19) rfl)
theorem kw420 : Cond.methodLink "MeasureChoice$Planner" 32 ⟨"MeasureChoice$Planner", "fillPurses", "()V"⟩ ∈ mcB := mcB_10_sub _ (List.mem_of_getElem? (i := 20) rfl)
theorem kw421 : Cond.instanceMethod ⟨"MeasureChoice$Planner", "fillPurses", "()V"⟩ ∈ mcB := mcB_10_sub _ (List.mem_of_getElem? (i := 21) rfl)
theorem kw422 : Cond.code ⟨"MeasureChoice$Planner", "fillPurses", "()V"⟩ prog_4_method_4_code 3 none ∈ mcB := mcB_10_sub _ (List.mem_of_getElem? (i := 22) rfl)
theorem kw423 : Cond.methodLink "MeasureChoice$Planner" 35 ⟨"MeasureChoice$Planner", "judgeSets", "(LMeasureChoice$House;)V"⟩ ∈ mcB := mcB_10_sub _ (List.mem_of_getElem? (i := 23) rfl)
theorem kw424 : Cond.instanceMethod ⟨"MeasureChoice$Planner", "judgeSets", "(LMeasureChoice$House;)V"⟩ ∈ mcB := mcB_10_sub _ (List.mem_of_getElem? (i := 24) rfl)
theorem kw425 : Cond.code ⟨"MeasureChoice$Planner", "judgeSets", "(LMeasureChoice$House;)V"⟩ prog_4_method_5_code 3 none ∈ mcB := mcB_10_sub _ (List.mem_of_getElem? (i := 25) rfl)
theorem kw426 : Cond.methodLink "MeasureChoice$Planner" 53 ⟨"java/lang/Math", "min", "(II)I"⟩ ∈ mcB := mcB_10_sub _ (List.mem_of_getElem? (i := 26) rfl)
theorem kw427 : Cond.static ⟨"java/lang/Math", "min", "(II)I"⟩ ∈ mcB := mcB_10_sub _ (List.mem_of_getElem? (i := 27) rfl)
theorem kw428 : Cond.code ⟨"java/lang/Math", "min", "(II)I"⟩ prog_10_method_69_code 2 (some FieldType.int) ∈ mcB := mcB_10_sub _ (List.mem_of_getElem? (i := 28) rfl)
theorem kw429 : Cond.methodLink "MeasureChoice$Planner" 61 ⟨"MeasureChoice$House", "allows", "(I)Z"⟩ ∈ mcB := mcB_10_sub _ (List.mem_of_getElem? (i := 29) rfl)
theorem kw430 : Cond.methodLink "MeasureChoice$Planner" 65 ⟨"MeasureChoice$House", "costOf", "(I)I"⟩ ∈ mcB := mcB_10_sub _ (List.mem_of_getElem? (i := 30) rfl)
theorem kw431 : Cond.constant "MeasureChoice$Planner" 69 (400001 : Int32) ∈ mcB := mcB_10_sub _ (List.mem_of_getElem? (i := 31) rfl)
theorem kw432 : Cond.methodLink "MeasureChoice$Planner" 70 ⟨"MeasureChoice$House", "gainOf", "(I)I"⟩ ∈ mcB := mcB_10_sub _ (List.mem_of_getElem? (i := 32) rfl)
theorem kw433 : Cond.methodLink "MeasureChoice$Planner" 39 ⟨"MeasureChoice$Planner", "workYear", "(IZ)V"⟩ ∈ mcB := mcB_10_sub _ (List.mem_of_getElem? (i := 33) rfl)
theorem kw434 : Cond.instanceMethod ⟨"MeasureChoice$Planner", "workYear", "(IZ)V"⟩ ∈ mcB := mcB_10_sub _ (List.mem_of_getElem? (i := 34) rfl)
theorem kw435 : Cond.code ⟨"MeasureChoice$Planner", "workYear", "(IZ)V"⟩ prog_4_method_6_code 5 none ∈ mcB := mcB_10_sub _ (List.mem_of_getElem? (i := 35) rfl)
theorem kw436 : Cond.methodLink "MeasureChoice$Planner" 43 ⟨"MeasureChoice$Planner", "bestFrom", "(II)I"⟩ ∈ mcB := mcB_10_sub _ (List.mem_of_getElem? (i := 36) rfl)
theorem kw437 : Cond.instanceMethod ⟨"MeasureChoice$Planner", "bestFrom", "(II)I"⟩ ∈ mcB := mcB_10_sub _ (List.mem_of_getElem? (i := 37) rfl)
theorem kw438 : Cond.code ⟨"MeasureChoice$Planner", "bestFrom", "(II)I"⟩ prog_4_method_7_code 5 (some FieldType.int) ∈ mcB := mcB_10_sub _ (List.mem_of_getElem? (i := 38) rfl)
theorem kw439 : Cond.methodLink "MeasureChoice$Planner" 73 ⟨"MeasureChoice$Planner", "isBetter", "(III)Z"⟩ ∈ mcB := mcB_10_sub _ (List.mem_of_getElem? (i := 39) rfl)
theorem kw440 : Cond.instanceMethod ⟨"MeasureChoice$Planner", "isBetter", "(III)Z"⟩ ∈ mcB := mcB_11_sub _ (List.mem_of_getElem? (i := 0) rfl)
theorem kw441 : Cond.code ⟨"MeasureChoice$Planner", "isBetter", "(III)Z"⟩ prog_4_method_8_code 4 (some FieldType.boolean) ∈ mcB := mcB_11_sub _ (List.mem_of_getElem? (i := 1) rfl)
theorem kw442 : Cond.methodLink "MeasureChoice" 144 ⟨"MeasureChoice$Planner", "boughtUpTo", "(I)I"⟩ ∈ mcB := mcB_11_sub _ (List.mem_of_getElem? (i := 2) rfl)
theorem kw443 : Cond.instanceMethod ⟨"MeasureChoice$Planner", "boughtUpTo", "(I)I"⟩ ∈ mcB := mcB_11_sub _ (List.mem_of_getElem? (i := 3) rfl)
theorem kw444 : Cond.selects "MeasureChoice$Planner" ⟨"MeasureChoice$Planner", "boughtUpTo", "(I)I"⟩ ⟨"MeasureChoice$Planner", "boughtUpTo", "(I)I"⟩ ∈ mcB := mcB_11_sub _ (List.mem_of_getElem? (i := 4) rfl)
theorem kw445 : Cond.code ⟨"MeasureChoice$Planner", "boughtUpTo", "(I)I"⟩ prog_4_method_3_code 4 (some FieldType.int) ∈ mcB := mcB_11_sub _ (List.mem_of_getElem? (i := 5) rfl)
theorem kw446 : Cond.methodLink "MeasureChoiceLaw" 119 ⟨"MeasureChoiceLaw", "planned", "(LMeasureChoice;I[J)I"⟩ ∈ mcB := mcB_11_sub _ (List.mem_of_getElem? (i := 6) rfl)
theorem kw447 : Cond.static ⟨"MeasureChoiceLaw", "planned", "(LMeasureChoice;I[J)I"⟩ ∈ mcB := mcB_11_sub _ (List.mem_of_getElem? (i := 7) rfl)
theorem kw448 : Cond.codeWith ⟨"MeasureChoiceLaw", "planned", "(LMeasureChoice;I[J)I"⟩ method_16_code 4 (some FieldType.int) [(0, 9, 12, 13)] ∈ mcB := mcB_11_sub _ (List.mem_of_getElem? (i := 8) rfl)
theorem kw449 : Cond.methodLink "MeasureChoiceLaw" 58 ⟨"MeasureChoice", "planned", "(I)I"⟩ ∈ mcB := mcB_11_sub _ (List.mem_of_getElem? (i := 9) rfl)
theorem kw450 : Cond.instanceMethod ⟨"MeasureChoice", "planned", "(I)I"⟩ ∈ mcB := mcB_11_sub _ (List.mem_of_getElem? (i := 10) rfl)
theorem kw451 : Cond.selects "MeasureChoice" ⟨"MeasureChoice", "planned", "(I)I"⟩ ⟨"MeasureChoice", "planned", "(I)I"⟩ ∈ mcB := mcB_11_sub _ (List.mem_of_getElem? (i := 11) rfl)
theorem kw452 : Cond.code ⟨"MeasureChoice", "planned", "(I)I"⟩ prog_1_method_16_code 2 (some FieldType.int) ∈ mcB := mcB_11_sub _ (List.mem_of_getElem? (i := 12) rfl)
theorem kw453 : Cond.classLink "MeasureChoiceLaw" 62 "MeasureChoiceModel" ∈ mcB := mcB_11_sub _ (List.mem_of_getElem? (i := 13) rfl)
theorem kw454 : Cond.instantiable "MeasureChoiceModel" 11 ∈ mcB := mcB_11_sub _ (List.mem_of_getElem? (i := 14) rfl)
theorem kw455 : Cond.methodLink "MeasureChoiceLaw" 64 ⟨"MeasureChoiceModel", "<init>", "()V"⟩ ∈ mcB := mcB_11_sub _ (List.mem_of_getElem? (i := 15) rfl)
theorem kw456 : Cond.instanceMethod ⟨"MeasureChoiceModel", "<init>", "()V"⟩ ∈ mcB := mcB_11_sub _ (List.mem_of_getElem? (i := 16) rfl)
theorem kw457 : Cond.code ⟨"MeasureChoiceModel", "<init>", "()V"⟩ prog_6_method_1_code 1 none ∈ mcB := mcB_11_sub _ (List.mem_of_getElem? (i := 17) rfl)
theorem kw458 : Cond.methodLink "MeasureChoiceModel" 1 ⟨"java/lang/Object", "<init>", "()V"⟩ ∈ mcB := mcB_11_sub _ (List.mem_of_getElem? (i := 18) rfl)
theorem kw459 : Cond.fieldLink "MeasureChoiceModel" 38 "MeasureChoiceModel" "thrown" "I" ∈ mcB := mcB_11_sub _ (List.mem_of_getElem? (i := 19) rfl)
theorem kw460 : Cond.fieldLink "MeasureChoiceModel" 42 "MeasureChoiceModel" "many" "I" ∈ mcB := mcB_11_sub _ (List.mem_of_getElem? (i := 20) rfl)
theorem kw461 : Cond.fieldLink "MeasureChoiceModel" 7 "MeasureChoiceModel" "costs" "[I" ∈ mcB := mcB_11_sub _ (List.mem_of_getElem? (i := 21) rfl)
theorem kw462 : Cond.fieldLink "MeasureChoiceModel" 13 "MeasureChoiceModel" "gains" "[I" ∈ mcB := mcB_11_sub _ (List.mem_of_getElem? (i := 22) rfl)
theorem kw463 : Cond.fieldLink "MeasureChoiceModel" 16 "MeasureChoiceModel" "barred" "[Z" ∈ mcB := mcB_11_sub _ (List.mem_of_getElem? (i := 23) rfl)
theorem kw464 : Cond.fieldLink "MeasureChoiceModel" 20 "MeasureChoiceModel" "wants" "[Z" ∈ mcB := mcB_11_sub _ (List.mem_of_getElem? (i := 24) rfl)
theorem kw465 : Cond.fieldLink "MeasureChoiceModel" 23 "MeasureChoiceModel" "bonuses" "[I" ∈ mcB := mcB_11_sub _ (List.mem_of_getElem? (i := 25) rfl)
theorem kw466 : Cond.fieldLink "MeasureChoiceModel" 26 "MeasureChoiceModel" "budgets" "[I" ∈ mcB := mcB_11_sub _ (List.mem_of_getElem? (i := 26) rfl)
theorem kw467 : Cond.fieldLink "MeasureChoiceModel" 29 "MeasureChoiceModel" "laterGain" "[I" ∈ mcB := mcB_11_sub _ (List.mem_of_getElem? (i := 27) rfl)
theorem kw468 : Cond.fieldLink "MeasureChoiceModel" 32 "MeasureChoiceModel" "laterCost" "[I" ∈ mcB := mcB_11_sub _ (List.mem_of_getElem? (i := 28) rfl)
theorem kw469 : Cond.fieldLink "MeasureChoiceModel" 35 "MeasureChoiceModel" "choice" "[I" ∈ mcB := mcB_11_sub _ (List.mem_of_getElem? (i := 29) rfl)
theorem kw470 : Cond.lays "MeasureChoiceModel" "MeasureChoiceModel" "thrown" "I" ∈ mcB := mcB_11_sub _ (List.mem_of_getElem? (i := 30) rfl)
theorem kw471 : Cond.soleField "MeasureChoiceModel" "thrown" ∈ mcB := mcB_11_sub _ (List.mem_of_getElem? (i := 31) rfl)
theorem kw472 : Cond.lays "MeasureChoiceModel" "MeasureChoiceModel" "many" "I" ∈ mcB := mcB_11_sub _ (List.mem_of_getElem? (i := 32) rfl)
theorem kw473 : Cond.soleField "MeasureChoiceModel" "many" ∈ mcB := mcB_11_sub _ (List.mem_of_getElem? (i := 33) rfl)
theorem kw474 : Cond.laysFinal "MeasureChoiceModel" "MeasureChoiceModel" "costs" "[I" ∈ mcB := mcB_11_sub _ (List.mem_of_getElem? (i := 34) rfl)
theorem kw475 : Cond.soleField "MeasureChoiceModel" "costs" ∈ mcB := mcB_11_sub _ (List.mem_of_getElem? (i := 35) rfl)
theorem kw476 : Cond.laysFinal "MeasureChoiceModel" "MeasureChoiceModel" "gains" "[I" ∈ mcB := mcB_11_sub _ (List.mem_of_getElem? (i := 36) rfl)
theorem kw477 : Cond.soleField "MeasureChoiceModel" "gains" ∈ mcB := mcB_11_sub _ (List.mem_of_getElem? (i := 37) rfl)
theorem kw478 : Cond.laysFinal "MeasureChoiceModel" "MeasureChoiceModel" "barred" "[Z" ∈ mcB := mcB_11_sub _ (List.mem_of_getElem? (i := 38) rfl)
theorem kw479 : Cond.soleField "MeasureChoiceModel" "barred" ∈ mcB := mcB_11_sub _ (List.mem_of_getElem? (i := 39) rfl)
theorem kw480 : Cond.laysFinal "MeasureChoiceModel" "MeasureChoiceModel" "wants" "[Z" ∈ mcB := mcB_12_sub _ (List.mem_of_getElem? (i := 0) rfl)
theorem kw481 : Cond.soleField "MeasureChoiceModel" "wants" ∈ mcB := mcB_12_sub _ (List.mem_of_getElem? (i := 1) rfl)
theorem kw482 : Cond.laysFinal "MeasureChoiceModel" "MeasureChoiceModel" "bonuses" "[I" ∈ mcB := mcB_12_sub _ (List.mem_of_getElem? (i := 2) rfl)
theorem kw483 : Cond.soleField "MeasureChoiceModel" "bonuses" ∈ mcB := mcB_12_sub _ (List.mem_of_getElem? (i := 3) rfl)
theorem kw484 : Cond.laysFinal "MeasureChoiceModel" "MeasureChoiceModel" "budgets" "[I" ∈ mcB := mcB_12_sub _ (List.mem_of_getElem? (i := 4) rfl)
theorem kw485 : Cond.soleField "MeasureChoiceModel" "budgets" ∈ mcB := mcB_12_sub _ (List.mem_of_getElem? (i := 5) rfl)
theorem kw486 : Cond.laysFinal "MeasureChoiceModel" "MeasureChoiceModel" "laterGain" "[I" ∈ mcB := mcB_12_sub _ (List.mem_of_getElem? (i := 6) rfl)
theorem kw487 : Cond.soleField "MeasureChoiceModel" "laterGain" ∈ mcB := mcB_12_sub _ (List.mem_of_getElem? (i := 7) rfl)
theorem kw488 : Cond.laysFinal "MeasureChoiceModel" "MeasureChoiceModel" "laterCost" "[I" ∈ mcB := mcB_12_sub _ (List.mem_of_getElem? (i := 8) rfl)
theorem kw489 : Cond.soleField "MeasureChoiceModel" "laterCost" ∈ mcB := mcB_12_sub _ (List.mem_of_getElem? (i := 9) rfl)
theorem kw490 : Cond.laysFinal "MeasureChoiceModel" "MeasureChoiceModel" "choice" "[I" ∈ mcB := mcB_12_sub _ (List.mem_of_getElem? (i := 10) rfl)
theorem kw491 : Cond.soleField "MeasureChoiceModel" "choice" ∈ mcB := mcB_12_sub _ (List.mem_of_getElem? (i := 11) rfl)
theorem kw492 : Cond.superclass "MeasureChoiceModel" "java/lang/Object" ∈ mcB := mcB_12_sub _ (List.mem_of_getElem? (i := 12) rfl)
theorem kw493 : Cond.arrayClass FieldType.boolean ∈ mcB := mcB_12_sub _ (List.mem_of_getElem? (i := 13) rfl)
theorem kw494 : Cond.methodLink "MeasureChoiceLaw" 71 ⟨"MeasureChoiceModel", "thrown", "()I"⟩ ∈ mcB := mcB_12_sub _ (List.mem_of_getElem? (i := 14) rfl)
theorem kw495 : Cond.instanceMethod ⟨"MeasureChoiceModel", "thrown", "()I"⟩ ∈ mcB := mcB_12_sub _ (List.mem_of_getElem? (i := 15) rfl)
theorem kw496 : Cond.selects "MeasureChoiceModel" ⟨"MeasureChoiceModel", "thrown", "()I"⟩ ⟨"MeasureChoiceModel", "thrown", "()I"⟩ ∈ mcB := mcB_12_sub _ (List.mem_of_getElem? (i := 16) rfl)
theorem kw497 : Cond.code ⟨"MeasureChoiceModel", "thrown", "()I"⟩ prog_6_method_2_code 1 (some FieldType.int) ∈ mcB := mcB_12_sub _ (List.mem_of_getElem? (i := 17) rfl)
theorem kw498 : Cond.methodLink "MeasureChoiceLaw" 70 ⟨"MeasureChoiceModel", "measure", "(II)I"⟩ ∈ mcB := mcB_12_sub _ (List.mem_of_getElem? (i := 18) rfl)
theorem kw499 : Cond.instanceMethod ⟨"MeasureChoiceModel", "measure", "(II)I"⟩ ∈ mcB := mcB_12_sub _ (List.mem_of_getElem? (i := 19) rfl)
theorem kw500 : Cond.selects "MeasureChoiceModel" ⟨"MeasureChoiceModel", "measure", "(II)I"⟩ ⟨"MeasureChoiceModel", "measure", "(II)I"⟩ ∈ mcB := mcB_12_sub _ (List.mem_of_getElem? (i := 20) rfl)
theorem kw501 : Cond.code ⟨"MeasureChoiceModel", "measure", "(II)I"⟩ prog_6_method_6_code 3 (some FieldType.int) ∈ mcB := mcB_12_sub _ (List.mem_of_getElem? (i := 21) rfl)
theorem kw502 : Cond.methodLink "MeasureChoiceModel" 45 ⟨"MeasureChoiceModel", "in", "(III)Z"⟩ ∈ mcB := mcB_12_sub _ (List.mem_of_getElem? (i := 22) rfl)
theorem kw503 : Cond.static ⟨"MeasureChoiceModel", "in", "(III)Z"⟩ ∈ mcB := mcB_12_sub _ (List.mem_of_getElem? (i := 23) rfl)
theorem kw504 : Cond.code ⟨"MeasureChoiceModel", "in", "(III)Z"⟩ prog_6_method_3_code 3 (some FieldType.boolean) ∈ mcB := mcB_12_sub _ (List.mem_of_getElem? (i := 24) rfl)
theorem kw505 : Cond.methodLink "MeasureChoiceModel" 49 ⟨"MeasureChoiceModel", "good", "(Z)Z"⟩ ∈ mcB := mcB_12_sub _ (List.mem_of_getElem? (i := 25) rfl)
theorem kw506 : Cond.instanceMethod ⟨"MeasureChoiceModel", "good", "(Z)Z"⟩ ∈ mcB := mcB_12_sub _ (List.mem_of_getElem? (i := 26) rfl)
theorem kw507 : Cond.code ⟨"MeasureChoiceModel", "good", "(Z)Z"⟩ prog_6_method_5_code 2 (some FieldType.boolean) ∈ mcB := mcB_12_sub _ (List.mem_of_getElem? (i := 27) rfl)
theorem kw508 : Cond.methodLink "MeasureChoiceLaw" 78 ⟨"MeasureChoiceModel", "change", "(III)V"⟩ ∈ mcB := mcB_12_sub _ (List.mem_of_getElem? (i := 28) rfl)
theorem kw509 : Cond.instanceMethod ⟨"MeasureChoiceModel", "change", "(III)V"⟩ ∈ mcB := mcB_12_sub _ (List.mem_of_getElem? (i := 29) rfl)
theorem kw510 : Cond.selects "MeasureChoiceModel" ⟨"MeasureChoiceModel", "change", "(III)V"⟩ ⟨"MeasureChoiceModel", "change", "(III)V"⟩ ∈ mcB := mcB_12_sub _ (List.mem_of_getElem? (i := 30) rfl)
theorem kw511 : Cond.code ⟨"MeasureChoiceModel", "change", "(III)V"⟩ prog_6_method_7_code 4 none ∈ mcB := mcB_12_sub _ (List.mem_of_getElem? (i := 31) rfl)
theorem kw512 : Cond.methodLink "MeasureChoiceModel" 53 ⟨"MeasureChoiceModel", "is", "(I)Z"⟩ ∈ mcB := mcB_12_sub _ (List.mem_of_getElem? (i := 32) rfl)
theorem kw513 : Cond.instanceMethod ⟨"MeasureChoiceModel", "is", "(I)Z"⟩ ∈ mcB := mcB_12_sub _ (List.mem_of_getElem? (i := 33) rfl)
theorem kw514 : Cond.code ⟨"MeasureChoiceModel", "is", "(I)Z"⟩ prog_6_method_4_code 2 (some FieldType.boolean) ∈ mcB := mcB_12_sub _ (List.mem_of_getElem? (i := 34) rfl)
theorem kw515 : Cond.methodLink "MeasureChoiceLaw" 82 ⟨"MeasureChoiceModel", "exclude", "(IIZ)Z"⟩ ∈ mcB := mcB_12_sub _ (List.mem_of_getElem? (i := 35) rfl)
theorem kw516 : Cond.instanceMethod ⟨"MeasureChoiceModel", "exclude", "(IIZ)Z"⟩ ∈ mcB := mcB_12_sub _ (List.mem_of_getElem? (i := 36) rfl)
theorem kw517 : Cond.selects "MeasureChoiceModel" ⟨"MeasureChoiceModel", "exclude", "(IIZ)Z"⟩ ⟨"MeasureChoiceModel", "exclude", "(IIZ)Z"⟩ ∈ mcB := mcB_12_sub _ (List.mem_of_getElem? (i := 37) rfl)
theorem kw518 : Cond.code ⟨"MeasureChoiceModel", "exclude", "(IIZ)Z"⟩ prog_6_method_8_code 5 (some FieldType.boolean) ∈ mcB := mcB_12_sub _ (List.mem_of_getElem? (i := 38) rfl)
theorem kw519 : Cond.methodLink "MeasureChoiceLaw" 85 ⟨"MeasureChoiceModel", "needs", "(IIZ)Z"⟩ ∈ mcB := mcB_12_sub _ (List.mem_of_getElem? (i := 39) rfl)
theorem kw520 : Cond.instanceMethod ⟨"MeasureChoiceModel", "needs", "(IIZ)Z"⟩ ∈ mcB := mcB_13_sub _ (List.mem_of_getElem? (i := 0) rfl)
theorem kw521 : Cond.selects "MeasureChoiceModel" ⟨"MeasureChoiceModel", "needs", "(IIZ)Z"⟩ ⟨"MeasureChoiceModel", "needs", "(IIZ)Z"⟩ ∈ mcB := mcB_13_sub _ (List.mem_of_getElem? (i := 1) rfl)
theorem kw522 : Cond.code ⟨"MeasureChoiceModel", "needs", "(IIZ)Z"⟩ prog_6_method_9_code 5 (some FieldType.boolean) ∈ mcB := mcB_13_sub _ (List.mem_of_getElem? (i := 2) rfl)
theorem kw523 : Cond.methodLink "MeasureChoiceLaw" 89 ⟨"MeasureChoiceModel", "bonus", "(III)I"⟩ ∈ mcB := mcB_13_sub _ (List.mem_of_getElem? (i := 3) rfl)
theorem kw524 : Cond.instanceMethod ⟨"MeasureChoiceModel", "bonus", "(III)I"⟩ ∈ mcB := mcB_13_sub _ (List.mem_of_getElem? (i := 4) rfl)
theorem kw525 : Cond.selects "MeasureChoiceModel" ⟨"MeasureChoiceModel", "bonus", "(III)I"⟩ ⟨"MeasureChoiceModel", "bonus", "(III)I"⟩ ∈ mcB := mcB_13_sub _ (List.mem_of_getElem? (i := 5) rfl)
theorem kw526 : Cond.code ⟨"MeasureChoiceModel", "bonus", "(III)I"⟩ prog_6_method_10_code 5 (some FieldType.int) ∈ mcB := mcB_13_sub _ (List.mem_of_getElem? (i := 6) rfl)
theorem kw527 : Cond.methodLink "MeasureChoiceLaw" 93 ⟨"MeasureChoiceModel", "lawful", "(I)Z"⟩ ∈ mcB := mcB_13_sub _ (List.mem_of_getElem? (i := 7) rfl)
theorem kw528 : Cond.instanceMethod ⟨"MeasureChoiceModel", "lawful", "(I)Z"⟩ ∈ mcB := mcB_13_sub _ (List.mem_of_getElem? (i := 8) rfl)
theorem kw529 : Cond.selects "MeasureChoiceModel" ⟨"MeasureChoiceModel", "lawful", "(I)Z"⟩ ⟨"MeasureChoiceModel", "lawful", "(I)Z"⟩ ∈ mcB := mcB_13_sub _ (List.mem_of_getElem? (i := 9) rfl)
theorem kw530 : Cond.code ⟨"MeasureChoiceModel", "lawful", "(I)Z"⟩ prog_6_method_16_code 2 (some FieldType.boolean) ∈ mcB := mcB_13_sub _ (List.mem_of_getElem? (i := 10) rfl)
theorem kw531 : Cond.methodLink "MeasureChoiceModel" 61 ⟨"MeasureChoiceModel", "isSet", "(I)Z"⟩ ∈ mcB := mcB_13_sub _ (List.mem_of_getElem? (i := 11) rfl)
theorem kw532 : Cond.instanceMethod ⟨"MeasureChoiceModel", "isSet", "(I)Z"⟩ ∈ mcB := mcB_13_sub _ (List.mem_of_getElem? (i := 12) rfl)
theorem kw533 : Cond.code ⟨"MeasureChoiceModel", "isSet", "(I)Z"⟩ prog_6_method_12_code 2 (some FieldType.boolean) ∈ mcB := mcB_13_sub _ (List.mem_of_getElem? (i := 13) rfl)
theorem kw534 : Cond.methodLink "MeasureChoiceModel" 64 ⟨"MeasureChoiceModel", "holds", "(I)Z"⟩ ∈ mcB := mcB_13_sub _ (List.mem_of_getElem? (i := 14) rfl)
theorem kw535 : Cond.instanceMethod ⟨"MeasureChoiceModel", "holds", "(I)Z"⟩ ∈ mcB := mcB_13_sub _ (List.mem_of_getElem? (i := 15) rfl)
theorem kw536 : Cond.code ⟨"MeasureChoiceModel", "holds", "(I)Z"⟩ prog_6_method_13_code 5 (some FieldType.boolean) ∈ mcB := mcB_13_sub _ (List.mem_of_getElem? (i := 16) rfl)
theorem kw537 : Cond.methodLink "MeasureChoiceModel" 57 ⟨"MeasureChoiceModel", "has", "(II)Z"⟩ ∈ mcB := mcB_13_sub _ (List.mem_of_getElem? (i := 17) rfl)
theorem kw538 : Cond.static ⟨"MeasureChoiceModel", "has", "(II)Z"⟩ ∈ mcB := mcB_13_sub _ (List.mem_of_getElem? (i := 18) rfl)
theorem kw539 : Cond.code ⟨"MeasureChoiceModel", "has", "(II)Z"⟩ prog_6_method_11_code 2 (some FieldType.boolean) ∈ mcB := mcB_13_sub _ (List.mem_of_getElem? (i := 19) rfl)
theorem kw540 : Cond.methodLink "MeasureChoiceLaw" 96 ⟨"MeasureChoiceModel", "told", "(II)I"⟩ ∈ mcB := mcB_13_sub _ (List.mem_of_getElem? (i := 20) rfl)
theorem kw541 : Cond.instanceMethod ⟨"MeasureChoiceModel", "told", "(II)I"⟩ ∈ mcB := mcB_13_sub _ (List.mem_of_getElem? (i := 21) rfl)
theorem kw542 : Cond.selects "MeasureChoiceModel" ⟨"MeasureChoiceModel", "told", "(II)I"⟩ ⟨"MeasureChoiceModel", "told", "(II)I"⟩ ∈ mcB := mcB_13_sub _ (List.mem_of_getElem? (i := 22) rfl)
theorem kw543 : Cond.code ⟨"MeasureChoiceModel", "told", "(II)I"⟩ prog_6_method_17_code 3 (some FieldType.int) ∈ mcB := mcB_13_sub _ (List.mem_of_getElem? (i := 23) rfl)
theorem kw544 : Cond.methodLink "MeasureChoiceModel" 67 ⟨"MeasureChoiceModel", "costOf", "(I)I"⟩ ∈ mcB := mcB_13_sub _ (List.mem_of_getElem? (i := 24) rfl)
theorem kw545 : Cond.instanceMethod ⟨"MeasureChoiceModel", "costOf", "(I)I"⟩ ∈ mcB := mcB_13_sub _ (List.mem_of_getElem? (i := 25) rfl)
theorem kw546 : Cond.code ⟨"MeasureChoiceModel", "costOf", "(I)I"⟩ prog_6_method_14_code 4 (some FieldType.int) ∈ mcB := mcB_13_sub _ (List.mem_of_getElem? (i := 26) rfl)
theorem kw547 : Cond.methodLink "MeasureChoiceModel" 71 ⟨"MeasureChoiceModel", "gainOf", "(I)I"⟩ ∈ mcB := mcB_13_sub _ (List.mem_of_getElem? (i := 27) rfl)
theorem kw548 : Cond.instanceMethod ⟨"MeasureChoiceModel", "gainOf", "(I)I"⟩ ∈ mcB := mcB_13_sub _ (List.mem_of_getElem? (i := 28) rfl)
theorem kw549 : Cond.code ⟨"MeasureChoiceModel", "gainOf", "(I)I"⟩ prog_6_method_15_code 5 (some FieldType.int) ∈ mcB := mcB_13_sub _ (List.mem_of_getElem? (i := 29) rfl)
theorem kw550 : Cond.methodLink "MeasureChoiceLaw" 99 ⟨"MeasureChoiceModel", "closure", "(I)I"⟩ ∈ mcB := mcB_13_sub _ (List.mem_of_getElem? (i := 30) rfl)
theorem kw551 : Cond.instanceMethod ⟨"MeasureChoiceModel", "closure", "(I)I"⟩ ∈ mcB := mcB_13_sub _ (List.mem_of_getElem? (i := 31) rfl)
theorem kw552 : Cond.selects "MeasureChoiceModel" ⟨"MeasureChoiceModel", "closure", "(I)I"⟩ ⟨"MeasureChoiceModel", "closure", "(I)I"⟩ ∈ mcB := mcB_13_sub _ (List.mem_of_getElem? (i := 32) rfl)
theorem kw553 : Cond.code ⟨"MeasureChoiceModel", "closure", "(I)I"⟩ prog_6_method_18_code 6 (some FieldType.int) ∈ mcB := mcB_13_sub _ (List.mem_of_getElem? (i := 33) rfl)
theorem kw554 : Cond.methodLink "MeasureChoiceLaw" 102 ⟨"MeasureChoiceModel", "best", "(I)I"⟩ ∈ mcB := mcB_13_sub _ (List.mem_of_getElem? (i := 34) rfl)
theorem kw555 : Cond.instanceMethod ⟨"MeasureChoiceModel", "best", "(I)I"⟩ ∈ mcB := mcB_13_sub _ (List.mem_of_getElem? (i := 35) rfl)
theorem kw556 : Cond.selects "MeasureChoiceModel" ⟨"MeasureChoiceModel", "best", "(I)I"⟩ ⟨"MeasureChoiceModel", "best", "(I)I"⟩ ∈ mcB := mcB_13_sub _ (List.mem_of_getElem? (i := 36) rfl)
theorem kw557 : Cond.code ⟨"MeasureChoiceModel", "best", "(I)I"⟩ prog_6_method_20_code 2 (some FieldType.int) ∈ mcB := mcB_13_sub _ (List.mem_of_getElem? (i := 37) rfl)
theorem kw558 : Cond.methodLink "MeasureChoiceModel" 74 ⟨"MeasureChoiceModel", "bestOf", "(J)I"⟩ ∈ mcB := mcB_13_sub _ (List.mem_of_getElem? (i := 38) rfl)
theorem kw559 : Cond.instanceMethod ⟨"MeasureChoiceModel", "bestOf", "(J)I"⟩ ∈ mcB := mcB_13_sub _ (List.mem_of_getElem? (i := 39) rfl)
theorem kw560 : Cond.code ⟨"MeasureChoiceModel", "bestOf", "(J)I"⟩ prog_6_method_19_code 10 (some FieldType.int) ∈ mcB := mcB_14_sub _ (List.mem_of_getElem? (i := 0) rfl)
theorem kw561 : Cond.methodLink "MeasureChoiceLaw" 106 ⟨"MeasureChoiceModel", "budget", "(I)I"⟩ ∈ mcB := mcB_14_sub _ (List.mem_of_getElem? (i := 1) rfl)
theorem kw562 : Cond.instanceMethod ⟨"MeasureChoiceModel", "budget", "(I)I"⟩ ∈ mcB := mcB_14_sub _ (List.mem_of_getElem? (i := 2) rfl)
theorem kw563 : Cond.selects "MeasureChoiceModel" ⟨"MeasureChoiceModel", "budget", "(I)I"⟩ ⟨"MeasureChoiceModel", "budget", "(I)I"⟩ ∈ mcB := mcB_14_sub _ (List.mem_of_getElem? (i := 3) rfl)
theorem kw564 : Cond.code ⟨"MeasureChoiceModel", "budget", "(I)I"⟩ prog_6_method_21_code 6 (some FieldType.int) ∈ mcB := mcB_14_sub _ (List.mem_of_getElem? (i := 4) rfl)
theorem kw565 : Cond.methodLink "MeasureChoiceLaw" 109 ⟨"MeasureChoiceModel", "worth", "(II)I"⟩ ∈ mcB := mcB_14_sub _ (List.mem_of_getElem? (i := 5) rfl)
theorem kw566 : Cond.instanceMethod ⟨"MeasureChoiceModel", "worth", "(II)I"⟩ ∈ mcB := mcB_14_sub _ (List.mem_of_getElem? (i := 6) rfl)
theorem kw567 : Cond.selects "MeasureChoiceModel" ⟨"MeasureChoiceModel", "worth", "(II)I"⟩ ⟨"MeasureChoiceModel", "worth", "(II)I"⟩ ∈ mcB := mcB_14_sub _ (List.mem_of_getElem? (i := 7) rfl)
theorem kw568 : Cond.code ⟨"MeasureChoiceModel", "worth", "(II)I"⟩ prog_6_method_22_code 3 (some FieldType.int) ∈ mcB := mcB_14_sub _ (List.mem_of_getElem? (i := 8) rfl)
theorem kw569 : Cond.constantLong "MeasureChoiceModel" 78 (1000000 : Int64) ∈ mcB := mcB_14_sub _ (List.mem_of_getElem? (i := 9) rfl)
theorem kw570 : Cond.methodLink "MeasureChoiceLaw" 112 ⟨"MeasureChoiceModel", "frontier", "(I)I"⟩ ∈ mcB := mcB_14_sub _ (List.mem_of_getElem? (i := 10) rfl)
theorem kw571 : Cond.instanceMethod ⟨"MeasureChoiceModel", "frontier", "(I)I"⟩ ∈ mcB := mcB_14_sub _ (List.mem_of_getElem? (i := 11) rfl)
theorem kw572 : Cond.selects "MeasureChoiceModel" ⟨"MeasureChoiceModel", "frontier", "(I)I"⟩ ⟨"MeasureChoiceModel", "frontier", "(I)I"⟩ ∈ mcB := mcB_14_sub _ (List.mem_of_getElem? (i := 12) rfl)
theorem kw573 : Cond.code ⟨"MeasureChoiceModel", "frontier", "(I)I"⟩ prog_6_method_24_code 4 (some FieldType.int) ∈ mcB := mcB_14_sub _ (List.mem_of_getElem? (i := 13) rfl)
theorem kw574 : Cond.methodLink "MeasureChoiceModel" 80 ⟨"MeasureChoiceModel", "dearer", "(II)I"⟩ ∈ mcB := mcB_14_sub _ (List.mem_of_getElem? (i := 14) rfl)
theorem kw575 : Cond.instanceMethod ⟨"MeasureChoiceModel", "dearer", "(II)I"⟩ ∈ mcB := mcB_14_sub _ (List.mem_of_getElem? (i := 15) rfl)
theorem kw576 : Cond.code ⟨"MeasureChoiceModel", "dearer", "(II)I"⟩ prog_6_method_23_code 11 (some FieldType.int) ∈ mcB := mcB_14_sub _ (List.mem_of_getElem? (i := 16) rfl)
theorem kw577 : Cond.methodLink "MeasureChoiceLaw" 115 ⟨"MeasureChoiceModel", "year", "(II)I"⟩ ∈ mcB := mcB_14_sub _ (List.mem_of_getElem? (i := 17) rfl)
theorem kw578 : Cond.instanceMethod ⟨"MeasureChoiceModel", "year", "(II)I"⟩ ∈ mcB := mcB_14_sub _ (List.mem_of_getElem? (i := 18) rfl)
theorem kw579 : Cond.selects "MeasureChoiceModel" ⟨"MeasureChoiceModel", "year", "(II)I"⟩ ⟨"MeasureChoiceModel", "year", "(II)I"⟩ ∈ mcB := mcB_14_sub _ (List.mem_of_getElem? (i := 19) rfl)
theorem kw580 : Cond.code ⟨"MeasureChoiceModel", "year", "(II)I"⟩ prog_6_method_25_code 4 (some FieldType.int) ∈ mcB := mcB_14_sub _ (List.mem_of_getElem? (i := 20) rfl)
theorem kw581 : Cond.constant "MeasureChoiceModel" 84 (100000 : Int32) ∈ mcB := mcB_14_sub _ (List.mem_of_getElem? (i := 21) rfl)
theorem kw582 : Cond.methodLink "MeasureChoiceLaw" 118 ⟨"MeasureChoiceModel", "plan", "(II)I"⟩ ∈ mcB := mcB_14_sub _ (List.mem_of_getElem? (i := 22) rfl)
theorem kw583 : Cond.instanceMethod ⟨"MeasureChoiceModel", "plan", "(II)I"⟩ ∈ mcB := mcB_14_sub _ (List.mem_of_getElem? (i := 23) rfl)
theorem kw584 : Cond.selects "MeasureChoiceModel" ⟨"MeasureChoiceModel", "plan", "(II)I"⟩ ⟨"MeasureChoiceModel", "plan", "(II)I"⟩ ∈ mcB := mcB_14_sub _ (List.mem_of_getElem? (i := 24) rfl)
theorem kw585 : Cond.code ⟨"MeasureChoiceModel", "plan", "(II)I"⟩ prog_6_method_28_code 5 (some FieldType.int) ∈ mcB := mcB_14_sub _ (List.mem_of_getElem? (i := 25) rfl)
theorem kw586 : Cond.methodLink "MeasureChoiceModel" 89 ⟨"MeasureChoiceModel", "work", "(I)V"⟩ ∈ mcB := mcB_14_sub _ (List.mem_of_getElem? (i := 26) rfl)
theorem kw587 : Cond.instanceMethod ⟨"MeasureChoiceModel", "work", "(I)V"⟩ ∈ mcB := mcB_14_sub _ (List.mem_of_getElem? (i := 27) rfl)
theorem kw588 : Cond.code ⟨"MeasureChoiceModel", "work", "(I)V"⟩ prog_6_method_26_code 6 none ∈ mcB := mcB_14_sub _ (List.mem_of_getElem? (i := 28) rfl)
theorem kw589 : Cond.methodLink "MeasureChoiceModel" 85 ⟨"MeasureChoiceModel", "workOf", "(IIII)V"⟩ ∈ mcB := mcB_14_sub _ (List.mem_of_getElem? (i := 29) rfl)
theorem kw590 : Cond.instanceMethod ⟨"MeasureChoiceModel", "workOf", "(IIII)V"⟩ ∈ mcB := mcB_14_sub _ (List.mem_of_getElem? (i := 30) rfl)
theorem kw591 : Cond.code ⟨"MeasureChoiceModel", "workOf", "(IIII)V"⟩ prog_6_method_27_code 11 none ∈ mcB := mcB_14_sub _ (List.mem_of_getElem? (i := 31) rfl)
theorem kw592 : Cond.methodLink "MeasureChoiceLaw" 121 ⟨"MeasureChoiceModel", "planned", "(I)I"⟩ ∈ mcB := mcB_14_sub _ (List.mem_of_getElem? (i := 32) rfl)
theorem kw593 : Cond.instanceMethod ⟨"MeasureChoiceModel", "planned", "(I)I"⟩ ∈ mcB := mcB_14_sub _ (List.mem_of_getElem? (i := 33) rfl)
theorem kw594 : Cond.selects "MeasureChoiceModel" ⟨"MeasureChoiceModel", "planned", "(I)I"⟩ ⟨"MeasureChoiceModel", "planned", "(I)I"⟩ ∈ mcB := mcB_14_sub _ (List.mem_of_getElem? (i := 34) rfl)
theorem kw595 : Cond.code ⟨"MeasureChoiceModel", "planned", "(I)I"⟩ prog_6_method_29_code 2 (some FieldType.int) ∈ mcB := mcB_14_sub _ (List.mem_of_getElem? (i := 35) rfl)
theorem kw596 : Cond.arrayClass FieldType.long ∈ mcB := mcB_14_sub _ (List.mem_of_getElem? (i := 36) rfl)
theorem kw597 : Cond.sameMethod "java/lang/Throwable" "java/lang/Throwable" "fillInStackTrace" "(I)Ljava/lang/Throwable;" ∈ mcB := mcB_14_sub _ (List.mem_of_getElem? (i := 37) rfl)
theorem inH : ∀ w ∈ wH0, w ∈ mcB := by decide +kernel
theorem inA : ∀ w ∈ wA0, w ∈ mcB := by decide +kernel
theorem inP : ∀ w ∈ wP0, w ∈ mcB := by decide +kernel
theorem inM : ∀ w ∈ wM0, w ∈ mcB := by decide +kernel
theorem inR : ∀ w ∈ wR0, w ∈ mcB := by decide +kernel
abbrev bM_init : ByteArray := prog_1_method_1_code
abbrev yM_init : MethodName := ⟨"MeasureChoice", "<init>", "()V"⟩
abbrev wdM_init : List Cond := Cond.code yM_init bM_init 1 none :: mcB
abbrev bM_measure : ByteArray := prog_1_method_2_code
abbrev yM_measure : MethodName := ⟨"MeasureChoice", "measure", "(II)I"⟩
abbrev wdM_measure : List Cond := Cond.code yM_measure bM_measure 3 (some FieldType.int) :: mcB
abbrev bM_change : ByteArray := prog_1_method_3_code
abbrev yM_change : MethodName := ⟨"MeasureChoice", "change", "(III)V"⟩
abbrev wdM_change : List Cond := Cond.code yM_change bM_change 4 none :: mcB
abbrev bM_exclude : ByteArray := prog_1_method_4_code
abbrev yM_exclude : MethodName := ⟨"MeasureChoice", "exclude", "(IIZ)Z"⟩
abbrev wdM_exclude : List Cond := Cond.code yM_exclude bM_exclude 5 (some FieldType.boolean) :: mcB
abbrev bM_needs : ByteArray := prog_1_method_5_code
abbrev yM_needs : MethodName := ⟨"MeasureChoice", "needs", "(IIZ)Z"⟩
abbrev wdM_needs : List Cond := Cond.code yM_needs bM_needs 5 (some FieldType.boolean) :: mcB
abbrev bM_bonus : ByteArray := prog_1_method_6_code
abbrev yM_bonus : MethodName := ⟨"MeasureChoice", "bonus", "(III)I"⟩
abbrev wdM_bonus : List Cond := Cond.code yM_bonus bM_bonus 5 (some FieldType.int) :: mcB
abbrev bM_lawful : ByteArray := prog_1_method_7_code
abbrev yM_lawful : MethodName := ⟨"MeasureChoice", "lawful", "(I)Z"⟩
abbrev wdM_lawful : List Cond := Cond.code yM_lawful bM_lawful 2 (some FieldType.boolean) :: mcB
abbrev bM_told : ByteArray := prog_1_method_8_code
abbrev yM_told : MethodName := ⟨"MeasureChoice", "told", "(II)I"⟩
abbrev wdM_told : List Cond := Cond.code yM_told bM_told 3 (some FieldType.int) :: mcB
abbrev bM_closure : ByteArray := prog_1_method_9_code
abbrev yM_closure : MethodName := ⟨"MeasureChoice", "closure", "(I)I"⟩
abbrev wdM_closure : List Cond := Cond.code yM_closure bM_closure 2 (some FieldType.int) :: mcB
abbrev bM_best : ByteArray := prog_1_method_10_code
abbrev yM_best : MethodName := ⟨"MeasureChoice", "best", "(I)I"⟩
abbrev wdM_best : List Cond := Cond.code yM_best bM_best 2 (some FieldType.int) :: mcB
abbrev bM_budget : ByteArray := prog_1_method_11_code
abbrev yM_budget : MethodName := ⟨"MeasureChoice", "budget", "(I)I"⟩
abbrev wdM_budget : List Cond := Cond.code yM_budget bM_budget 3 (some FieldType.int) :: mcB
abbrev bM_worth : ByteArray := prog_1_method_12_code
abbrev yM_worth : MethodName := ⟨"MeasureChoice", "worth", "(II)I"⟩
abbrev wdM_worth : List Cond := Cond.code yM_worth bM_worth 4 (some FieldType.int) :: mcB
abbrev bM_frontier : ByteArray := prog_1_method_13_code
abbrev yM_frontier : MethodName := ⟨"MeasureChoice", "frontier", "(I)I"⟩
abbrev wdM_frontier : List Cond := Cond.code yM_frontier bM_frontier 2 (some FieldType.int) :: mcB
abbrev bM_year : ByteArray := prog_1_method_14_code
abbrev yM_year : MethodName := ⟨"MeasureChoice", "year", "(II)I"⟩
abbrev wdM_year : List Cond := Cond.code yM_year bM_year 4 (some FieldType.int) :: mcB
abbrev bM_plan : ByteArray := prog_1_method_15_code
abbrev yM_plan : MethodName := ⟨"MeasureChoice", "plan", "(II)I"⟩
abbrev wdM_plan : List Cond := Cond.code yM_plan bM_plan 3 (some FieldType.int) :: mcB
abbrev bM_planned : ByteArray := prog_1_method_16_code
abbrev yM_planned : MethodName := ⟨"MeasureChoice", "planned", "(I)I"⟩
abbrev wdM_planned : List Cond := Cond.code yM_planned bM_planned 2 (some FieldType.int) :: mcB
abbrev bM_requireBetween : ByteArray := prog_1_method_17_code
abbrev yM_requireBetween : MethodName := ⟨"MeasureChoice", "requireBetween", "(III)V"⟩
abbrev wdM_requireBetween : List Cond := Cond.code yM_requireBetween bM_requireBetween 3 none :: mcB
abbrev bM_requireNotBelowZero : ByteArray := prog_1_method_18_code
abbrev yM_requireNotBelowZero : MethodName := ⟨"MeasureChoice", "requireNotBelowZero", "(I)V"⟩
abbrev wdM_requireNotBelowZero : List Cond := Cond.code yM_requireNotBelowZero bM_requireNotBelowZero 1 none :: mcB
abbrev bM_requireCostAndGain : ByteArray := prog_1_method_19_code
abbrev yM_requireCostAndGain : MethodName := ⟨"MeasureChoice", "requireCostAndGain", "(II)V"⟩
abbrev wdM_requireCostAndGain : List Cond := Cond.code yM_requireCostAndGain bM_requireCostAndGain 2 none :: mcB
abbrev bM_requireMeasure : ByteArray := prog_1_method_20_code
abbrev yM_requireMeasure : MethodName := ⟨"MeasureChoice", "requireMeasure", "(I)V"⟩
abbrev wdM_requireMeasure : List Cond := Cond.code yM_requireMeasure bM_requireMeasure 2 none :: mcB
abbrev bM_requirePair : ByteArray := prog_1_method_21_code
abbrev yM_requirePair : MethodName := ⟨"MeasureChoice", "requirePair", "(II)V"⟩
abbrev wdM_requirePair : List Cond := Cond.code yM_requirePair bM_requirePair 3 none :: mcB
abbrev bM_requireSet : ByteArray := prog_1_method_22_code
abbrev yM_requireSet : MethodName := ⟨"MeasureChoice", "requireSet", "(I)V"⟩
abbrev wdM_requireSet : List Cond := Cond.code yM_requireSet bM_requireSet 2 none :: mcB
abbrev bR_init : ByteArray := prog_6_method_1_code
abbrev yR_init : MethodName := ⟨"MeasureChoiceModel", "<init>", "()V"⟩
abbrev wdR_init : List Cond := Cond.code yR_init bR_init 1 none :: mcB
abbrev bR_thrown : ByteArray := prog_6_method_2_code
abbrev yR_thrown : MethodName := ⟨"MeasureChoiceModel", "thrown", "()I"⟩
abbrev wdR_thrown : List Cond := Cond.code yR_thrown bR_thrown 1 (some FieldType.int) :: mcB
abbrev bR_in : ByteArray := prog_6_method_3_code
abbrev yR_in : MethodName := ⟨"MeasureChoiceModel", "in", "(III)Z"⟩
abbrev wdR_in : List Cond := Cond.code yR_in bR_in 3 (some FieldType.boolean) :: mcB
abbrev bR_is : ByteArray := prog_6_method_4_code
abbrev yR_is : MethodName := ⟨"MeasureChoiceModel", "is", "(I)Z"⟩
abbrev wdR_is : List Cond := Cond.code yR_is bR_is 2 (some FieldType.boolean) :: mcB
abbrev bR_good : ByteArray := prog_6_method_5_code
abbrev yR_good : MethodName := ⟨"MeasureChoiceModel", "good", "(Z)Z"⟩
abbrev wdR_good : List Cond := Cond.code yR_good bR_good 2 (some FieldType.boolean) :: mcB
abbrev bR_measure : ByteArray := prog_6_method_6_code
abbrev yR_measure : MethodName := ⟨"MeasureChoiceModel", "measure", "(II)I"⟩
abbrev wdR_measure : List Cond := Cond.code yR_measure bR_measure 3 (some FieldType.int) :: mcB
abbrev bR_change : ByteArray := prog_6_method_7_code
abbrev yR_change : MethodName := ⟨"MeasureChoiceModel", "change", "(III)V"⟩
abbrev wdR_change : List Cond := Cond.code yR_change bR_change 4 none :: mcB
abbrev bR_exclude : ByteArray := prog_6_method_8_code
abbrev yR_exclude : MethodName := ⟨"MeasureChoiceModel", "exclude", "(IIZ)Z"⟩
abbrev wdR_exclude : List Cond := Cond.code yR_exclude bR_exclude 5 (some FieldType.boolean) :: mcB
abbrev bR_needs : ByteArray := prog_6_method_9_code
abbrev yR_needs : MethodName := ⟨"MeasureChoiceModel", "needs", "(IIZ)Z"⟩
abbrev wdR_needs : List Cond := Cond.code yR_needs bR_needs 5 (some FieldType.boolean) :: mcB
abbrev bR_bonus : ByteArray := prog_6_method_10_code
abbrev yR_bonus : MethodName := ⟨"MeasureChoiceModel", "bonus", "(III)I"⟩
abbrev wdR_bonus : List Cond := Cond.code yR_bonus bR_bonus 5 (some FieldType.int) :: mcB
abbrev bR_has : ByteArray := prog_6_method_11_code
abbrev yR_has : MethodName := ⟨"MeasureChoiceModel", "has", "(II)Z"⟩
abbrev wdR_has : List Cond := Cond.code yR_has bR_has 2 (some FieldType.boolean) :: mcB
abbrev bR_isSet : ByteArray := prog_6_method_12_code
abbrev yR_isSet : MethodName := ⟨"MeasureChoiceModel", "isSet", "(I)Z"⟩
abbrev wdR_isSet : List Cond := Cond.code yR_isSet bR_isSet 2 (some FieldType.boolean) :: mcB
abbrev bR_holds : ByteArray := prog_6_method_13_code
abbrev yR_holds : MethodName := ⟨"MeasureChoiceModel", "holds", "(I)Z"⟩
abbrev wdR_holds : List Cond := Cond.code yR_holds bR_holds 5 (some FieldType.boolean) :: mcB
abbrev bR_costOf : ByteArray := prog_6_method_14_code
abbrev yR_costOf : MethodName := ⟨"MeasureChoiceModel", "costOf", "(I)I"⟩
abbrev wdR_costOf : List Cond := Cond.code yR_costOf bR_costOf 4 (some FieldType.int) :: mcB
abbrev bR_gainOf : ByteArray := prog_6_method_15_code
abbrev yR_gainOf : MethodName := ⟨"MeasureChoiceModel", "gainOf", "(I)I"⟩
abbrev wdR_gainOf : List Cond := Cond.code yR_gainOf bR_gainOf 5 (some FieldType.int) :: mcB
abbrev bR_lawful : ByteArray := prog_6_method_16_code
abbrev yR_lawful : MethodName := ⟨"MeasureChoiceModel", "lawful", "(I)Z"⟩
abbrev wdR_lawful : List Cond := Cond.code yR_lawful bR_lawful 2 (some FieldType.boolean) :: mcB
abbrev bR_told : ByteArray := prog_6_method_17_code
abbrev yR_told : MethodName := ⟨"MeasureChoiceModel", "told", "(II)I"⟩
abbrev wdR_told : List Cond := Cond.code yR_told bR_told 3 (some FieldType.int) :: mcB
abbrev bR_closure : ByteArray := prog_6_method_18_code
abbrev yR_closure : MethodName := ⟨"MeasureChoiceModel", "closure", "(I)I"⟩
abbrev wdR_closure : List Cond := Cond.code yR_closure bR_closure 6 (some FieldType.int) :: mcB
abbrev bR_bestOf : ByteArray := prog_6_method_19_code
abbrev yR_bestOf : MethodName := ⟨"MeasureChoiceModel", "bestOf", "(J)I"⟩
abbrev wdR_bestOf : List Cond := Cond.code yR_bestOf bR_bestOf 10 (some FieldType.int) :: mcB
abbrev bR_best : ByteArray := prog_6_method_20_code
abbrev yR_best : MethodName := ⟨"MeasureChoiceModel", "best", "(I)I"⟩
abbrev wdR_best : List Cond := Cond.code yR_best bR_best 2 (some FieldType.int) :: mcB
abbrev bR_budget : ByteArray := prog_6_method_21_code
abbrev yR_budget : MethodName := ⟨"MeasureChoiceModel", "budget", "(I)I"⟩
abbrev wdR_budget : List Cond := Cond.code yR_budget bR_budget 6 (some FieldType.int) :: mcB
abbrev bR_worth : ByteArray := prog_6_method_22_code
abbrev yR_worth : MethodName := ⟨"MeasureChoiceModel", "worth", "(II)I"⟩
abbrev wdR_worth : List Cond := Cond.code yR_worth bR_worth 3 (some FieldType.int) :: mcB
abbrev bR_dearer : ByteArray := prog_6_method_23_code
abbrev yR_dearer : MethodName := ⟨"MeasureChoiceModel", "dearer", "(II)I"⟩
abbrev wdR_dearer : List Cond := Cond.code yR_dearer bR_dearer 11 (some FieldType.int) :: mcB
abbrev bR_frontier : ByteArray := prog_6_method_24_code
abbrev yR_frontier : MethodName := ⟨"MeasureChoiceModel", "frontier", "(I)I"⟩
abbrev wdR_frontier : List Cond := Cond.code yR_frontier bR_frontier 4 (some FieldType.int) :: mcB
abbrev bR_year : ByteArray := prog_6_method_25_code
abbrev yR_year : MethodName := ⟨"MeasureChoiceModel", "year", "(II)I"⟩
abbrev wdR_year : List Cond := Cond.code yR_year bR_year 4 (some FieldType.int) :: mcB
abbrev bR_work : ByteArray := prog_6_method_26_code
abbrev yR_work : MethodName := ⟨"MeasureChoiceModel", "work", "(I)V"⟩
abbrev wdR_work : List Cond := Cond.code yR_work bR_work 6 none :: mcB
abbrev bR_workOf : ByteArray := prog_6_method_27_code
abbrev yR_workOf : MethodName := ⟨"MeasureChoiceModel", "workOf", "(IIII)V"⟩
abbrev wdR_workOf : List Cond := Cond.code yR_workOf bR_workOf 11 none :: mcB
abbrev bR_plan : ByteArray := prog_6_method_28_code
abbrev yR_plan : MethodName := ⟨"MeasureChoiceModel", "plan", "(II)I"⟩
abbrev wdR_plan : List Cond := Cond.code yR_plan bR_plan 5 (some FieldType.int) :: mcB
abbrev bR_planned : ByteArray := prog_6_method_29_code
abbrev yR_planned : MethodName := ⟨"MeasureChoiceModel", "planned", "(I)I"⟩
abbrev wdR_planned : List Cond := Cond.code yR_planned bR_planned 2 (some FieldType.int) :: mcB
abbrev bH_init : ByteArray := prog_2_method_1_code
abbrev yH_init : MethodName := ⟨"MeasureChoice$House", "<init>", "()V"⟩
abbrev wdH_init : List Cond := Cond.code yH_init bH_init 1 none :: mcB
abbrev bH_add : ByteArray := prog_2_method_2_code
abbrev yH_add : MethodName := ⟨"MeasureChoice$House", "add", "(II)I"⟩
abbrev wdH_add : List Cond := Cond.code yH_add bH_add 4 (some FieldType.int) :: mcB
abbrev bH_put : ByteArray := prog_2_method_3_code
abbrev yH_put : MethodName := ⟨"MeasureChoice$House", "put", "(III)V"⟩
abbrev wdH_put : List Cond := Cond.code yH_put bH_put 4 none :: mcB
abbrev bH_putExcluded : ByteArray := prog_2_method_4_code
abbrev yH_putExcluded : MethodName := ⟨"MeasureChoice$House", "putExcluded", "(IIZ)V"⟩
abbrev wdH_putExcluded : List Cond := Cond.code yH_putExcluded bH_putExcluded 4 none :: mcB
abbrev bH_putNeeded : ByteArray := prog_2_method_5_code
abbrev yH_putNeeded : MethodName := ⟨"MeasureChoice$House", "putNeeded", "(IIZ)V"⟩
abbrev wdH_putNeeded : List Cond := Cond.code yH_putNeeded bH_putNeeded 4 none :: mcB
abbrev bH_putBonus : ByteArray := prog_2_method_6_code
abbrev yH_putBonus : MethodName := ⟨"MeasureChoice$House", "putBonus", "(III)V"⟩
abbrev wdH_putBonus : List Cond := Cond.code yH_putBonus bH_putBonus 4 none :: mcB
abbrev bH_allows : ByteArray := prog_2_method_7_code
abbrev yH_allows : MethodName := ⟨"MeasureChoice$House", "allows", "(I)Z"⟩
abbrev wdH_allows : List Cond := Cond.code yH_allows bH_allows 3 (some FieldType.boolean) :: mcB
abbrev bH_costOf : ByteArray := prog_2_method_8_code
abbrev yH_costOf : MethodName := ⟨"MeasureChoice$House", "costOf", "(I)I"⟩
abbrev wdH_costOf : List Cond := Cond.code yH_costOf bH_costOf 4 (some FieldType.int) :: mcB
abbrev bH_gainOf : ByteArray := prog_2_method_9_code
abbrev yH_gainOf : MethodName := ⟨"MeasureChoice$House", "gainOf", "(I)I"⟩
abbrev wdH_gainOf : List Cond := Cond.code yH_gainOf bH_gainOf 4 (some FieldType.int) :: mcB
abbrev bH_bonusWithEarlier : ByteArray := prog_2_method_10_code
abbrev yH_bonusWithEarlier : MethodName := ⟨"MeasureChoice$House", "bonusWithEarlier", "(II)I"⟩
abbrev wdH_bonusWithEarlier : List Cond := Cond.code yH_bonusWithEarlier bH_bonusWithEarlier 5 (some FieldType.int) :: mcB
abbrev bH_broughtBy : ByteArray := prog_2_method_11_code
abbrev yH_broughtBy : MethodName := ⟨"MeasureChoice$House", "broughtBy", "(I)I"⟩
abbrev wdH_broughtBy : List Cond := Cond.code yH_broughtBy bH_broughtBy 4 (some FieldType.int) :: mcB
abbrev bH_withItsNeeds : ByteArray := prog_2_method_12_code
abbrev yH_withItsNeeds : MethodName := ⟨"MeasureChoice$House", "withItsNeeds", "(I)I"⟩
abbrev wdH_withItsNeeds : List Cond := Cond.code yH_withItsNeeds bH_withItsNeeds 4 (some FieldType.int) :: mcB
abbrev bH_has : ByteArray := prog_2_method_13_code
abbrev yH_has : MethodName := ⟨"MeasureChoice$House", "has", "(II)Z"⟩
abbrev wdH_has : List Cond := Cond.code yH_has bH_has 2 (some FieldType.boolean) :: mcB
abbrev bH_with : ByteArray := prog_2_method_14_code
abbrev yH_with : MethodName := ⟨"MeasureChoice$House", "with", "(IIZ)I"⟩
abbrev wdH_with : List Cond := Cond.code yH_with bH_with 4 (some FieldType.int) :: mcB
abbrev bA_init : ByteArray := prog_3_method_1_code
abbrev yA_init : MethodName := ⟨"MeasureChoice$Ladder", "<init>", "()V"⟩
abbrev wdA_init : List Cond := Cond.code yA_init bA_init 1 none :: mcB
abbrev bA_setAt : ByteArray := prog_3_method_2_code
abbrev yA_setAt : MethodName := ⟨"MeasureChoice$Ladder", "setAt", "(I)I"⟩
abbrev wdA_setAt : List Cond := Cond.code yA_setAt bA_setAt 2 (some FieldType.int) :: mcB
abbrev bA_costAt : ByteArray := prog_3_method_3_code
abbrev yA_costAt : MethodName := ⟨"MeasureChoice$Ladder", "costAt", "(I)I"⟩
abbrev wdA_costAt : List Cond := Cond.code yA_costAt bA_costAt 2 (some FieldType.int) :: mcB
abbrev bA_gainAt : ByteArray := prog_3_method_4_code
abbrev yA_gainAt : MethodName := ⟨"MeasureChoice$Ladder", "gainAt", "(I)I"⟩
abbrev wdA_gainAt : List Cond := Cond.code yA_gainAt bA_gainAt 2 (some FieldType.int) :: mcB
abbrev bA_highestWithin : ByteArray := prog_3_method_5_code
abbrev yA_highestWithin : MethodName := ⟨"MeasureChoice$Ladder", "highestWithin", "(I)I"⟩
abbrev wdA_highestWithin : List Cond := Cond.code yA_highestWithin bA_highestWithin 4 (some FieldType.int) :: mcB
abbrev bA_lowestGaining : ByteArray := prog_3_method_6_code
abbrev yA_lowestGaining : MethodName := ⟨"MeasureChoice$Ladder", "lowestGaining", "(I)I"⟩
abbrev wdA_lowestGaining : List Cond := Cond.code yA_lowestGaining bA_lowestGaining 3 (some FieldType.int) :: mcB
abbrev bA_bringUpToDate : ByteArray := prog_3_method_7_code
abbrev yA_bringUpToDate : MethodName := ⟨"MeasureChoice$Ladder", "bringUpToDate", "(LMeasureChoice$House;)V"⟩
abbrev wdA_bringUpToDate : List Cond := Cond.code yA_bringUpToDate bA_bringUpToDate 3 none :: mcB
abbrev bA_addSteps : ByteArray := prog_3_method_8_code
abbrev yA_addSteps : MethodName := ⟨"MeasureChoice$Ladder", "addSteps", "(II)V"⟩
abbrev wdA_addSteps : List Cond := Cond.code yA_addSteps bA_addSteps 7 none :: mcB
abbrev bA_addGains : ByteArray := prog_3_method_9_code
abbrev yA_addGains : MethodName := ⟨"MeasureChoice$Ladder", "addGains", "(ILMeasureChoice$House;)V"⟩
abbrev wdA_addGains : List Cond := Cond.code yA_addGains bA_addGains 9 none :: mcB
abbrev bA_keepUnbeaten : ByteArray := prog_3_method_10_code
abbrev yA_keepUnbeaten : MethodName := ⟨"MeasureChoice$Ladder", "keepUnbeaten", "(LMeasureChoice$House;)V"⟩
abbrev wdA_keepUnbeaten : List Cond := Cond.code yA_keepUnbeaten bA_keepUnbeaten 4 none :: mcB
abbrev bP_init : ByteArray := prog_4_method_1_code
abbrev yP_init : MethodName := ⟨"MeasureChoice$Planner", "<init>", "()V"⟩
abbrev wdP_init : List Cond := Cond.code yP_init bP_init 1 none :: mcB
abbrev bP_work : ByteArray := prog_4_method_2_code
abbrev yP_work : MethodName := ⟨"MeasureChoice$Planner", "work", "(LMeasureChoice$House;I)V"⟩
abbrev wdP_work : List Cond := Cond.code yP_work bP_work 4 none :: mcB
abbrev bP_boughtUpTo : ByteArray := prog_4_method_3_code
abbrev yP_boughtUpTo : MethodName := ⟨"MeasureChoice$Planner", "boughtUpTo", "(I)I"⟩
abbrev wdP_boughtUpTo : List Cond := Cond.code yP_boughtUpTo bP_boughtUpTo 4 (some FieldType.int) :: mcB
abbrev bP_fillPurses : ByteArray := prog_4_method_4_code
abbrev yP_fillPurses : MethodName := ⟨"MeasureChoice$Planner", "fillPurses", "()V"⟩
abbrev wdP_fillPurses : List Cond := Cond.code yP_fillPurses bP_fillPurses 3 none :: mcB
abbrev bP_judgeSets : ByteArray := prog_4_method_5_code
abbrev yP_judgeSets : MethodName := ⟨"MeasureChoice$Planner", "judgeSets", "(LMeasureChoice$House;)V"⟩
abbrev wdP_judgeSets : List Cond := Cond.code yP_judgeSets bP_judgeSets 3 none :: mcB
abbrev bP_workYear : ByteArray := prog_4_method_6_code
abbrev yP_workYear : MethodName := ⟨"MeasureChoice$Planner", "workYear", "(IZ)V"⟩
abbrev wdP_workYear : List Cond := Cond.code yP_workYear bP_workYear 5 none :: mcB
abbrev bP_bestFrom : ByteArray := prog_4_method_7_code
abbrev yP_bestFrom : MethodName := ⟨"MeasureChoice$Planner", "bestFrom", "(II)I"⟩
abbrev wdP_bestFrom : List Cond := Cond.code yP_bestFrom bP_bestFrom 5 (some FieldType.int) :: mcB
abbrev bP_isBetter : ByteArray := prog_4_method_8_code
abbrev yP_isBetter : MethodName := ⟨"MeasureChoice$Planner", "isBetter", "(III)Z"⟩
abbrev wdP_isBetter : List Cond := Cond.code yP_isBetter bP_isBetter 4 (some FieldType.boolean) :: mcB
abbrev bL_measure : ByteArray := method_3_code
abbrev yL_measure : MethodName := ⟨"MeasureChoiceLaw", "measure", "(LMeasureChoice;II[J)I"⟩
abbrev wdL_measure : List Cond := Cond.codeWith yL_measure bL_measure 5 (some FieldType.int) [(0, 10, 13, 13), (0, 10, 17, 15)] :: mcB
abbrev bL_change : ByteArray := method_4_code
abbrev yL_change : MethodName := ⟨"MeasureChoiceLaw", "change", "(LMeasureChoice;III)I"⟩
abbrev wdL_change : List Cond := Cond.codeWith yL_change bL_change 5 (some FieldType.int) [(0, 7, 10, 13)] :: mcB
abbrev bL_exclude : ByteArray := method_5_code
abbrev yL_exclude : MethodName := ⟨"MeasureChoiceLaw", "exclude", "(LMeasureChoice;IIZ[J)I"⟩
abbrev wdL_exclude : List Cond := Cond.codeWith yL_exclude bL_exclude 6 (some FieldType.int) [(0, 19, 22, 13)] :: mcB
abbrev bL_needs : ByteArray := method_6_code
abbrev yL_needs : MethodName := ⟨"MeasureChoiceLaw", "needs", "(LMeasureChoice;IIZ[J)I"⟩
abbrev wdL_needs : List Cond := Cond.codeWith yL_needs bL_needs 6 (some FieldType.int) [(0, 19, 22, 13)] :: mcB
abbrev bL_bonus : ByteArray := method_7_code
abbrev yL_bonus : MethodName := ⟨"MeasureChoiceLaw", "bonus", "(LMeasureChoice;III[J)I"⟩
abbrev wdL_bonus : List Cond := Cond.codeWith yL_bonus bL_bonus 6 (some FieldType.int) [(0, 12, 15, 13)] :: mcB
abbrev bL_lawful : ByteArray := method_8_code
abbrev yL_lawful : MethodName := ⟨"MeasureChoiceLaw", "lawful", "(LMeasureChoice;I[J)I"⟩
abbrev wdL_lawful : List Cond := Cond.codeWith yL_lawful bL_lawful 4 (some FieldType.int) [(0, 16, 19, 13)] :: mcB
abbrev bL_told : ByteArray := method_9_code
abbrev yL_told : MethodName := ⟨"MeasureChoiceLaw", "told", "(LMeasureChoice;II[J)I"⟩
abbrev wdL_told : List Cond := Cond.codeWith yL_told bL_told 5 (some FieldType.int) [(0, 10, 13, 13)] :: mcB
abbrev bL_closure : ByteArray := method_10_code
abbrev yL_closure : MethodName := ⟨"MeasureChoiceLaw", "closure", "(LMeasureChoice;I[J)I"⟩
abbrev wdL_closure : List Cond := Cond.codeWith yL_closure bL_closure 4 (some FieldType.int) [(0, 9, 12, 13)] :: mcB
abbrev bL_best : ByteArray := method_11_code
abbrev yL_best : MethodName := ⟨"MeasureChoiceLaw", "best", "(LMeasureChoice;I[J)I"⟩
abbrev wdL_best : List Cond := Cond.codeWith yL_best bL_best 4 (some FieldType.int) [(0, 9, 12, 13)] :: mcB
abbrev bL_worth : ByteArray := method_12_code
abbrev yL_worth : MethodName := ⟨"MeasureChoiceLaw", "worth", "(LMeasureChoice;II[J)I"⟩
abbrev wdL_worth : List Cond := Cond.codeWith yL_worth bL_worth 5 (some FieldType.int) [(0, 10, 13, 13)] :: mcB
abbrev bL_frontier : ByteArray := method_13_code
abbrev yL_frontier : MethodName := ⟨"MeasureChoiceLaw", "frontier", "(LMeasureChoice;I[J)I"⟩
abbrev wdL_frontier : List Cond := Cond.codeWith yL_frontier bL_frontier 4 (some FieldType.int) [(0, 9, 12, 13)] :: mcB
abbrev bL_year : ByteArray := method_14_code
abbrev yL_year : MethodName := ⟨"MeasureChoiceLaw", "year", "(LMeasureChoice;II[J)I"⟩
abbrev wdL_year : List Cond := Cond.codeWith yL_year bL_year 5 (some FieldType.int) [(0, 10, 13, 13)] :: mcB
abbrev bL_plan : ByteArray := method_15_code
abbrev yL_plan : MethodName := ⟨"MeasureChoiceLaw", "plan", "(LMeasureChoice;II[J)I"⟩
abbrev wdL_plan : List Cond := Cond.codeWith yL_plan bL_plan 5 (some FieldType.int) [(0, 10, 13, 13)] :: mcB
abbrev bL_planned : ByteArray := method_16_code
abbrev yL_planned : MethodName := ⟨"MeasureChoiceLaw", "planned", "(LMeasureChoice;I[J)I"⟩
abbrev wdL_planned : List Cond := Cond.codeWith yL_planned bL_planned 4 (some FieldType.int) [(0, 9, 12, 13)] :: mcB
