section
/-! names, fields, words: by program out of the claim's listing and Statement -/
def ff_0 : u_T := fun k => match k with
  | 0 => ("WideMachine", "program", "[I", true)
  | 1 => ("WideMachine", "data", "[I", true)
  | 2 => ("WideMachine", "registers", "[I", true)
  | 3 => ("WideMachine", "writes", "LWideMachine$Writes;", true)
  | 4 => ("WideMachine", "branches", "LWideMachine$Branches;", true)
  | 5 => ("WideMachine", "state", "I", false)
  | 6 => ("WideMachine", "address", "I", false)
  | 7 => ("WideMachine", "cycles", "I", false)
  | 8 => ("WideMachine", "waits", "I", false)
  | 9 => ("WideMachine", "returnAddress", "I", false)
  | 10 => ("WideMachine", "raisedLines", "I", false)
  | _ => ("WideMachine", "letsIn", "Z", false)
def ft_0 : Nat → FieldType := fun k => match k with
  | 0 => .array .int
  | 1 => .array .int
  | 2 => .array .int
  | 3 => .object "WideMachine$Writes"
  | 4 => .object "WideMachine$Branches"
  | 5 => .int
  | 6 => .int
  | 7 => .int
  | 8 => .int
  | 9 => .int
  | 10 => .int
  | _ => .boolean
theorem fn_0 : ∀ a, a < 12 → ∀ b, b < 12 → a ≠ b → (ff_0 a).2.1 ≠ (ff_0 b).2.1 := by decide +kernel
theorem fo_0 : ∀ k, k < 12 → parseFieldDescriptor (ff_0 k).2.2.1 = some (ft_0 k) := by decide +kernel
def ff_1 : u_T := fun k => match k with
  | 0 => ("WideMachine$Writes", "targets", "[I", true)
  | 1 => ("WideMachine$Writes", "values", "[I", true)
  | 2 => ("WideMachine$Writes", "times", "[I", true)
  | _ => ("WideMachine$Writes", "count", "I", false)
def ft_1 : Nat → FieldType := fun k => match k with
  | 0 => .array .int
  | 1 => .array .int
  | 2 => .array .int
  | _ => .int
theorem fn_1 : ∀ a, a < 4 → ∀ b, b < 4 → a ≠ b → (ff_1 a).2.1 ≠ (ff_1 b).2.1 := by decide +kernel
theorem fo_1 : ∀ k, k < 4 → parseFieldDescriptor (ff_1 k).2.2.1 = some (ft_1 k) := by decide +kernel
def ff_2 : u_T := fun k => match k with
  | 0 => ("WideMachine$Branches", "targets", "[I", true)
  | 1 => ("WideMachine$Branches", "times", "[I", true)
  | _ => ("WideMachine$Branches", "count", "I", false)
def ft_2 : Nat → FieldType := fun k => match k with
  | 0 => .array .int
  | 1 => .array .int
  | _ => .int
theorem fn_2 : ∀ a, a < 3 → ∀ b, b < 3 → a ≠ b → (ff_2 a).2.1 ≠ (ff_2 b).2.1 := by decide +kernel
theorem fo_2 : ∀ k, k < 3 → parseFieldDescriptor (ff_2 k).2.2.1 = some (ft_2 k) := by decide +kernel
def ff_3 : u_T := fun k => match k with
  | 0 => ("WideMachineModel", "thrown", "I", false)
  | 1 => ("WideMachineModel", "words", "I", true)
  | 2 => ("WideMachineModel", "size", "I", true)
  | 3 => ("WideMachineModel", "program", "[I", true)
  | 4 => ("WideMachineModel", "data", "[I", true)
  | 5 => ("WideMachineModel", "registers", "[I", true)
  | 6 => ("WideMachineModel", "state", "I", false)
  | 7 => ("WideMachineModel", "address", "I", false)
  | 8 => ("WideMachineModel", "cycles", "I", false)
  | 9 => ("WideMachineModel", "wait", "I", false)
  | 10 => ("WideMachineModel", "back", "I", false)
  | 11 => ("WideMachineModel", "letIn", "Z", false)
  | 12 => ("WideMachineModel", "raised", "I", false)
  | 13 => ("WideMachineModel", "writes", "I", false)
  | 14 => ("WideMachineModel", "register", "[I", true)
  | 15 => ("WideMachineModel", "value", "[I", true)
  | 16 => ("WideMachineModel", "when", "[I", true)
  | 17 => ("WideMachineModel", "branches", "I", false)
  | 18 => ("WideMachineModel", "target", "[I", true)
  | 19 => ("WideMachineModel", "goes", "[I", true)
  | 20 => ("WideMachineModel", "stores", "I", false)
  | 21 => ("WideMachineModel", "where", "[I", true)
  | _ => ("WideMachineModel", "what", "[I", true)
def ft_3 : Nat → FieldType := fun k => match k with
  | 0 => .int
  | 1 => .int
  | 2 => .int
  | 3 => .array .int
  | 4 => .array .int
  | 5 => .array .int
  | 6 => .int
  | 7 => .int
  | 8 => .int
  | 9 => .int
  | 10 => .int
  | 11 => .boolean
  | 12 => .int
  | 13 => .int
  | 14 => .array .int
  | 15 => .array .int
  | 16 => .array .int
  | 17 => .int
  | 18 => .array .int
  | 19 => .array .int
  | 20 => .int
  | 21 => .array .int
  | _ => .array .int
theorem fn_3 : ∀ a, a < 23 → ∀ b, b < 23 → a ≠ b → (ff_3 a).2.1 ≠ (ff_3 b).2.1 := by decide +kernel
theorem fo_3 : ∀ k, k < 23 → parseFieldDescriptor (ff_3 k).2.2.1 = some (ft_3 k) := by decide +kernel
def vw_cl : List vw_C := [("WideMachine", ff_0, 12), ("WideMachine$Writes", ff_1, 4), ("WideMachine$Branches", ff_2, 3), ("WideMachineModel", ff_3, 23)]
abbrev b_xm_init : ByteArray := prog_1_method_1_code
def y_xm_init : MethodName := ⟨"WideMachine", "<init>", "(II)V"⟩
abbrev b_xm_word : ByteArray := prog_1_method_2_code
def y_xm_word : MethodName := ⟨"WideMachine", "word", "(II)Z"⟩
abbrev b_xm_poke : ByteArray := prog_1_method_3_code
def y_xm_poke : MethodName := ⟨"WideMachine", "poke", "(II)Z"⟩
abbrev b_xm_peek : ByteArray := prog_1_method_4_code
def y_xm_peek : MethodName := ⟨"WideMachine", "peek", "(I)I"⟩
abbrev b_xm_set : ByteArray := prog_1_method_5_code
def y_xm_set : MethodName := ⟨"WideMachine", "set", "(II)Z"⟩
abbrev b_xm_get : ByteArray := prog_1_method_6_code
def y_xm_get : MethodName := ⟨"WideMachine", "get", "(I)I"⟩
abbrev b_xm_run : ByteArray := prog_1_method_7_code
def y_xm_run : MethodName := ⟨"WideMachine", "run", "(I)I"⟩
abbrev b_xm_about : ByteArray := prog_1_method_8_code
def y_xm_about : MethodName := ⟨"WideMachine", "about", "(I)I"⟩
abbrev b_xm_due : ByteArray := prog_1_method_9_code
def y_xm_due : MethodName := ⟨"WideMachine", "due", "(II)I"⟩
abbrev b_xm_raise : ByteArray := prog_1_method_10_code
def y_xm_raise : MethodName := ⟨"WideMachine", "raise", "(I)Z"⟩
abbrev b_xm_letIn : ByteArray := prog_1_method_11_code
def y_xm_letIn : MethodName := ⟨"WideMachine", "letIn", "(Z)V"⟩
abbrev b_xm_start : ByteArray := prog_1_method_12_code
def y_xm_start : MethodName := ⟨"WideMachine", "start", "(I)Z"⟩
abbrev b_xm_nearestSize : ByteArray := prog_1_method_13_code
def y_xm_nearestSize : MethodName := ⟨"WideMachine", "nearestSize", "(I)I"⟩
abbrev b_xm_isInData : ByteArray := prog_1_method_14_code
def y_xm_isInData : MethodName := ⟨"WideMachine", "isInData", "(I)Z"⟩
abbrev b_xm_isRaised : ByteArray := prog_1_method_15_code
def y_xm_isRaised : MethodName := ⟨"WideMachine", "isRaised", "(I)Z"⟩
abbrev b_xm_doCycle : ByteArray := prog_1_method_16_code
def y_xm_doCycle : MethodName := ⟨"WideMachine", "doCycle", "()V"⟩
abbrev b_xm_landWrites : ByteArray := prog_1_method_17_code
def y_xm_landWrites : MethodName := ⟨"WideMachine", "landWrites", "()V"⟩
abbrev b_xm_takeBranch : ByteArray := prog_1_method_18_code
def y_xm_takeBranch : MethodName := ⟨"WideMachine", "takeBranch", "()V"⟩
abbrev b_xm_takeInterrupt : ByteArray := prog_1_method_19_code
def y_xm_takeInterrupt : MethodName := ⟨"WideMachine", "takeInterrupt", "()V"⟩
abbrev b_xm_endOfPacket : ByteArray := prog_1_method_20_code
def y_xm_endOfPacket : MethodName := ⟨"WideMachine", "endOfPacket", "()I"⟩
abbrev b_xm_faultOfPacket : ByteArray := prog_1_method_21_code
def y_xm_faultOfPacket : MethodName := ⟨"WideMachine", "faultOfPacket", "(I)I"⟩
abbrev b_xm_hasIllFormed : ByteArray := prog_1_method_22_code
def y_xm_hasIllFormed : MethodName := ⟨"WideMachine", "hasIllFormed", "(I)Z"⟩
abbrev b_xm_hasUnitTwice : ByteArray := prog_1_method_23_code
def y_xm_hasUnitTwice : MethodName := ⟨"WideMachine", "hasUnitTwice", "(I)Z"⟩
abbrev b_xm_hasCrossedTwice : ByteArray := prog_1_method_24_code
def y_xm_hasCrossedTwice : MethodName := ⟨"WideMachine", "hasCrossedTwice", "(I)Z"⟩
abbrev b_xm_goesBeyondData : ByteArray := prog_1_method_25_code
def y_xm_goesBeyondData : MethodName := ⟨"WideMachine", "goesBeyondData", "(I)Z"⟩
abbrev b_xm_isConditionTrue : ByteArray := prog_1_method_26_code
def y_xm_isConditionTrue : MethodName := ⟨"WideMachine", "isConditionTrue", "(I)Z"⟩
abbrev b_xm_dataAddress : ByteArray := prog_1_method_27_code
def y_xm_dataAddress : MethodName := ⟨"WideMachine", "dataAddress", "(I)I"⟩
abbrev b_xm_operandB : ByteArray := prog_1_method_28_code
def y_xm_operandB : MethodName := ⟨"WideMachine", "operandB", "(I)I"⟩
abbrev b_xm_doPacket : ByteArray := prog_1_method_29_code
def y_xm_doPacket : MethodName := ⟨"WideMachine", "doPacket", "(I)V"⟩
abbrev b_xm_doWord : ByteArray := prog_1_method_30_code
def y_xm_doWord : MethodName := ⟨"WideMachine", "doWord", "(I)V"⟩
abbrev b_xm_valueOf : ByteArray := prog_1_method_31_code
def y_xm_valueOf : MethodName := ⟨"WideMachine", "valueOf", "(I)I"⟩
abbrev b_xm_doStores : ByteArray := prog_1_method_32_code
def y_xm_doStores : MethodName := ⟨"WideMachine", "doStores", "(I)V"⟩
abbrev b_mm_init : ByteArray := prog_7_method_1_code
def y_mm_init : MethodName := ⟨"WideMachineModel", "<init>", "(II)V"⟩
abbrev b_mm_word : ByteArray := prog_7_method_3_code
def y_mm_word : MethodName := ⟨"WideMachineModel", "word", "(II)Z"⟩
abbrev b_mm_poke : ByteArray := prog_7_method_4_code
def y_mm_poke : MethodName := ⟨"WideMachineModel", "poke", "(II)Z"⟩
abbrev b_mm_peek : ByteArray := prog_7_method_5_code
def y_mm_peek : MethodName := ⟨"WideMachineModel", "peek", "(I)I"⟩
abbrev b_mm_set : ByteArray := prog_7_method_6_code
def y_mm_set : MethodName := ⟨"WideMachineModel", "set", "(II)Z"⟩
abbrev b_mm_get : ByteArray := prog_7_method_7_code
def y_mm_get : MethodName := ⟨"WideMachineModel", "get", "(I)I"⟩
abbrev b_mm_about : ByteArray := prog_7_method_8_code
def y_mm_about : MethodName := ⟨"WideMachineModel", "about", "(I)I"⟩
abbrev b_mm_due : ByteArray := prog_7_method_9_code
def y_mm_due : MethodName := ⟨"WideMachineModel", "due", "(II)I"⟩
abbrev b_mm_raise : ByteArray := prog_7_method_10_code
def y_mm_raise : MethodName := ⟨"WideMachineModel", "raise", "(I)Z"⟩
abbrev b_mm_letIn : ByteArray := prog_7_method_11_code
def y_mm_letIn : MethodName := ⟨"WideMachineModel", "letIn", "(Z)V"⟩
abbrev b_mm_start : ByteArray := prog_7_method_12_code
def y_mm_start : MethodName := ⟨"WideMachineModel", "start", "(I)Z"⟩
abbrev b_mm_run : ByteArray := prog_7_method_13_code
def y_mm_run : MethodName := ⟨"WideMachineModel", "run", "(I)I"⟩
abbrev b_mm_condition : ByteArray := prog_7_method_14_code
def y_mm_condition : MethodName := ⟨"WideMachineModel", "condition", "(I)I"⟩
abbrev b_mm_unit : ByteArray := prog_7_method_15_code
def y_mm_unit : MethodName := ⟨"WideMachineModel", "unit", "(I)I"⟩
abbrev b_mm_kind : ByteArray := prog_7_method_16_code
def y_mm_kind : MethodName := ⟨"WideMachineModel", "kind", "(I)I"⟩
abbrev b_mm_operation : ByteArray := prog_7_method_17_code
def y_mm_operation : MethodName := ⟨"WideMachineModel", "operation", "(I)I"⟩
abbrev b_mm_d : ByteArray := prog_7_method_18_code
def y_mm_d : MethodName := ⟨"WideMachineModel", "d", "(I)I"⟩
abbrev b_mm_a : ByteArray := prog_7_method_19_code
def y_mm_a : MethodName := ⟨"WideMachineModel", "a", "(I)I"⟩
abbrev b_mm_b : ByteArray := prog_7_method_20_code
def y_mm_b : MethodName := ⟨"WideMachineModel", "b", "(I)I"⟩
abbrev b_mm_isNumber : ByteArray := prog_7_method_21_code
def y_mm_isNumber : MethodName := ⟨"WideMachineModel", "isNumber", "(I)Z"⟩
abbrev b_mm_isS : ByteArray := prog_7_method_22_code
def y_mm_isS : MethodName := ⟨"WideMachineModel", "isS", "(III)Z"⟩
abbrev b_mm_hasD : ByteArray := prog_7_method_23_code
def y_mm_hasD : MethodName := ⟨"WideMachineModel", "hasD", "(I)Z"⟩
abbrev b_mm_hasA : ByteArray := prog_7_method_24_code
def y_mm_hasA : MethodName := ⟨"WideMachineModel", "hasA", "(I)Z"⟩
abbrev b_mm_hasB : ByteArray := prog_7_method_25_code
def y_mm_hasB : MethodName := ⟨"WideMachineModel", "hasB", "(I)Z"⟩
abbrev b_mm_isOther : ByteArray := prog_7_method_26_code
def y_mm_isOther : MethodName := ⟨"WideMachineModel", "isOther", "(II)Z"⟩
abbrev b_mm_isIll : ByteArray := prog_7_method_27_code
def y_mm_isIll : MethodName := ⟨"WideMachineModel", "isIll", "(I)Z"⟩
abbrev b_mm_isDone : ByteArray := prog_7_method_28_code
def y_mm_isDone : MethodName := ⟨"WideMachineModel", "isDone", "(I)Z"⟩
abbrev b_mm_cycle : ByteArray := prog_7_method_29_code
def y_mm_cycle : MethodName := ⟨"WideMachineModel", "cycle", "()V"⟩
abbrev b_mm_lands : ByteArray := prog_7_method_30_code
def y_mm_lands : MethodName := ⟨"WideMachineModel", "lands", "()I"⟩
abbrev b_mm_arrives : ByteArray := prog_7_method_31_code
def y_mm_arrives : MethodName := ⟨"WideMachineModel", "arrives", "()I"⟩
abbrev b_mm_interrupts : ByteArray := prog_7_method_32_code
def y_mm_interrupts : MethodName := ⟨"WideMachineModel", "interrupts", "()V"⟩
abbrev b_mm_wrong : ByteArray := prog_7_method_33_code
def y_mm_wrong : MethodName := ⟨"WideMachineModel", "wrong", "(I)I"⟩
abbrev b_mm_packet : ByteArray := prog_7_method_34_code
def y_mm_packet : MethodName := ⟨"WideMachineModel", "packet", "(I)V"⟩
abbrev b_mm_write : ByteArray := prog_7_method_35_code
def y_mm_write : MethodName := ⟨"WideMachineModel", "write", "(III)V"⟩
abbrev b_mm_second : ByteArray := prog_7_method_36_code
def y_mm_second : MethodName := ⟨"WideMachineModel", "second", "(I)I"⟩
abbrev b_mm_controls : ByteArray := prog_7_method_37_code
def y_mm_controls : MethodName := ⟨"WideMachineModel", "controls", "(I)V"⟩
abbrev b_mm_reaches : ByteArray := prog_7_method_38_code
def y_mm_reaches : MethodName := ⟨"WideMachineModel", "reaches", "(I)Z"⟩
abbrev b_mm_meets : ByteArray := prog_7_method_39_code
def y_mm_meets : MethodName := ⟨"WideMachineModel", "meets", "(I)V"⟩
abbrev b_mm_works : ByteArray := prog_7_method_40_code
def y_mm_works : MethodName := ⟨"WideMachineModel", "works", "(I)I"⟩
abbrev b_mm_logic : ByteArray := prog_7_method_41_code
def y_mm_logic : MethodName := ⟨"WideMachineModel", "logic", "(III)I"⟩
abbrev b_mm_shift : ByteArray := prog_7_method_42_code
def y_mm_shift : MethodName := ⟨"WideMachineModel", "shift", "(III)I"⟩
abbrev b_mm_product : ByteArray := prog_7_method_43_code
def y_mm_product : MethodName := ⟨"WideMachineModel", "product", "(III)I"⟩
abbrev b_xb_init : ByteArray := prog_2_method_1_code
def y_xb_init : MethodName := ⟨"WideMachine$Branches", "<init>", "()V"⟩
abbrev b_xb_add : ByteArray := prog_2_method_2_code
def y_xb_add : MethodName := ⟨"WideMachine$Branches", "add", "(I)V"⟩
abbrev b_xb_clear : ByteArray := prog_2_method_3_code
def y_xb_clear : MethodName := ⟨"WideMachine$Branches", "clear", "()V"⟩
abbrev b_xb_comeNearer : ByteArray := prog_2_method_4_code
def y_xb_comeNearer : MethodName := ⟨"WideMachine$Branches", "comeNearer", "()V"⟩
abbrev b_xb_arrived : ByteArray := prog_2_method_5_code
def y_xb_arrived : MethodName := ⟨"WideMachine$Branches", "arrived", "()I"⟩
abbrev b_xb_takeFirst : ByteArray := prog_2_method_6_code
def y_xb_takeFirst : MethodName := ⟨"WideMachine$Branches", "takeFirst", "()I"⟩
abbrev b_xv_ofL : ByteArray := prog_3_method_2_code
def y_xv_ofL : MethodName := ⟨"WideMachine$Values", "ofL", "(III)I"⟩
abbrev b_xv_ofS : ByteArray := prog_3_method_3_code
def y_xv_ofS : MethodName := ⟨"WideMachine$Values", "ofS", "(III)I"⟩
abbrev b_xv_ofM : ByteArray := prog_3_method_4_code
def y_xv_ofM : MethodName := ⟨"WideMachine$Values", "ofM", "(III)I"⟩
abbrev b_xv_ofD : ByteArray := prog_3_method_5_code
def y_xv_ofD : MethodName := ⟨"WideMachine$Values", "ofD", "(III)I"⟩
abbrev b_xv_nearestInt : ByteArray := prog_3_method_6_code
def y_xv_nearestInt : MethodName := ⟨"WideMachine$Values", "nearestInt", "(J)I"⟩
abbrev b_xv_bitsLikeHighest : ByteArray := prog_3_method_7_code
def y_xv_bitsLikeHighest : MethodName := ⟨"WideMachine$Values", "bitsLikeHighest", "(I)I"⟩
abbrev b_xw_goesOn : ByteArray := prog_4_method_2_code
def y_xw_goesOn : MethodName := ⟨"WideMachine$Word", "goesOn", "(I)Z"⟩
abbrev b_xw_isOnZero : ByteArray := prog_4_method_3_code
def y_xw_isOnZero : MethodName := ⟨"WideMachine$Word", "isOnZero", "(I)Z"⟩
abbrev b_xw_unit : ByteArray := prog_4_method_4_code
def y_xw_unit : MethodName := ⟨"WideMachine$Word", "unit", "(I)I"⟩
abbrev b_xw_kind : ByteArray := prog_4_method_5_code
def y_xw_kind : MethodName := ⟨"WideMachine$Word", "kind", "(I)I"⟩
abbrev b_xw_side : ByteArray := prog_4_method_6_code
def y_xw_side : MethodName := ⟨"WideMachine$Word", "side", "(I)I"⟩
abbrev b_xw_code : ByteArray := prog_4_method_7_code
def y_xw_code : MethodName := ⟨"WideMachine$Word", "code", "(I)I"⟩
abbrev b_xw_d : ByteArray := prog_4_method_8_code
def y_xw_d : MethodName := ⟨"WideMachine$Word", "d", "(I)I"⟩
abbrev b_xw_a : ByteArray := prog_4_method_9_code
def y_xw_a : MethodName := ⟨"WideMachine$Word", "a", "(I)I"⟩
abbrev b_xw_b : ByteArray := prog_4_method_10_code
def y_xw_b : MethodName := ⟨"WideMachine$Word", "b", "(I)I"⟩
abbrev b_xw_isNumberB : ByteArray := prog_4_method_11_code
def y_xw_isNumberB : MethodName := ⟨"WideMachine$Word", "isNumberB", "(I)Z"⟩
abbrev b_xw_numberB : ByteArray := prog_4_method_12_code
def y_xw_numberB : MethodName := ⟨"WideMachine$Word", "numberB", "(I)I"⟩
abbrev b_xw_number : ByteArray := prog_4_method_13_code
def y_xw_number : MethodName := ⟨"WideMachine$Word", "number", "(I)I"⟩
abbrev b_xw_target : ByteArray := prog_4_method_14_code
def y_xw_target : MethodName := ⟨"WideMachine$Word", "target", "(I)I"⟩
abbrev b_xw_timeOfWrite : ByteArray := prog_4_method_15_code
def y_xw_timeOfWrite : MethodName := ⟨"WideMachine$Word", "timeOfWrite", "(I)I"⟩
abbrev b_xw_conditionRegister : ByteArray := prog_4_method_16_code
def y_xw_conditionRegister : MethodName := ⟨"WideMachine$Word", "conditionRegister", "(I)I"⟩
abbrev b_xw_isIllFormed : ByteArray := prog_4_method_17_code
def y_xw_isIllFormed : MethodName := ⟨"WideMachine$Word", "isIllFormed", "(I)Z"⟩
abbrev b_xw_crosses : ByteArray := prog_4_method_18_code
def y_xw_crosses : MethodName := ⟨"WideMachine$Word", "crosses", "(I)Z"⟩
abbrev b_xw_isOperation : ByteArray := prog_4_method_19_code
def y_xw_isOperation : MethodName := ⟨"WideMachine$Word", "isOperation", "(I)Z"⟩
abbrev b_xw_hasLongNumber : ByteArray := prog_4_method_20_code
def y_xw_hasLongNumber : MethodName := ⟨"WideMachine$Word", "hasLongNumber", "(I)Z"⟩
abbrev b_xw_hasD : ByteArray := prog_4_method_21_code
def y_xw_hasD : MethodName := ⟨"WideMachine$Word", "hasD", "(I)Z"⟩
abbrev b_xw_hasA : ByteArray := prog_4_method_22_code
def y_xw_hasA : MethodName := ⟨"WideMachine$Word", "hasA", "(I)Z"⟩
abbrev b_xw_hasB : ByteArray := prog_4_method_23_code
def y_xw_hasB : MethodName := ⟨"WideMachine$Word", "hasB", "(I)Z"⟩
abbrev b_xq_init : ByteArray := prog_5_method_1_code
def y_xq_init : MethodName := ⟨"WideMachine$Writes", "<init>", "()V"⟩
abbrev b_xq_add : ByteArray := prog_5_method_2_code
def y_xq_add : MethodName := ⟨"WideMachine$Writes", "add", "(III)V"⟩
abbrev b_xq_clear : ByteArray := prog_5_method_3_code
def y_xq_clear : MethodName := ⟨"WideMachine$Writes", "clear", "()V"⟩
abbrev b_xq_comeNearer : ByteArray := prog_5_method_4_code
def y_xq_comeNearer : MethodName := ⟨"WideMachine$Writes", "comeNearer", "()V"⟩
abbrev b_xq_clash : ByteArray := prog_5_method_5_code
def y_xq_clash : MethodName := ⟨"WideMachine$Writes", "clash", "()Z"⟩
abbrev b_xq_land : ByteArray := prog_5_method_6_code
def y_xq_land : MethodName := ⟨"WideMachine$Writes", "land", "([I)V"⟩
def vw_T : List Cond := [
  .laysFinal "WideMachine" "WideMachine" "program" "[I",
  .laysFinal "WideMachine" "WideMachine" "data" "[I",
  .laysFinal "WideMachine" "WideMachine" "registers" "[I",
  .laysFinal "WideMachine" "WideMachine" "writes" "LWideMachine$Writes;",
  .laysFinal "WideMachine" "WideMachine" "branches" "LWideMachine$Branches;",
  .lays "WideMachine" "WideMachine" "state" "I",
  .lays "WideMachine" "WideMachine" "address" "I",
  .lays "WideMachine" "WideMachine" "cycles" "I",
  .lays "WideMachine" "WideMachine" "waits" "I",
  .lays "WideMachine" "WideMachine" "returnAddress" "I",
  .lays "WideMachine" "WideMachine" "raisedLines" "I",
  .lays "WideMachine" "WideMachine" "letsIn" "Z",
  .laysFinal "WideMachine$Writes" "WideMachine$Writes" "targets" "[I",
  .laysFinal "WideMachine$Writes" "WideMachine$Writes" "values" "[I",
  .laysFinal "WideMachine$Writes" "WideMachine$Writes" "times" "[I",
  .lays "WideMachine$Writes" "WideMachine$Writes" "count" "I",
  .laysFinal "WideMachine$Branches" "WideMachine$Branches" "targets" "[I",
  .laysFinal "WideMachine$Branches" "WideMachine$Branches" "times" "[I",
  .lays "WideMachine$Branches" "WideMachine$Branches" "count" "I",
  .lays "WideMachineModel" "WideMachineModel" "thrown" "I",
  .laysFinal "WideMachineModel" "WideMachineModel" "words" "I",
  .laysFinal "WideMachineModel" "WideMachineModel" "size" "I",
  .laysFinal "WideMachineModel" "WideMachineModel" "program" "[I",
  .laysFinal "WideMachineModel" "WideMachineModel" "data" "[I",
  .laysFinal "WideMachineModel" "WideMachineModel" "registers" "[I",
  .lays "WideMachineModel" "WideMachineModel" "state" "I",
  .lays "WideMachineModel" "WideMachineModel" "address" "I",
  .lays "WideMachineModel" "WideMachineModel" "cycles" "I",
  .lays "WideMachineModel" "WideMachineModel" "wait" "I",
  .lays "WideMachineModel" "WideMachineModel" "back" "I",
  .lays "WideMachineModel" "WideMachineModel" "letIn" "Z",
  .lays "WideMachineModel" "WideMachineModel" "raised" "I",
  .lays "WideMachineModel" "WideMachineModel" "writes" "I",
  .laysFinal "WideMachineModel" "WideMachineModel" "register" "[I",
  .laysFinal "WideMachineModel" "WideMachineModel" "value" "[I",
  .laysFinal "WideMachineModel" "WideMachineModel" "when" "[I",
  .lays "WideMachineModel" "WideMachineModel" "branches" "I",
  .laysFinal "WideMachineModel" "WideMachineModel" "target" "[I",
  .laysFinal "WideMachineModel" "WideMachineModel" "goes" "[I",
  .lays "WideMachineModel" "WideMachineModel" "stores" "I",
  .laysFinal "WideMachineModel" "WideMachineModel" "where" "[I",
  .laysFinal "WideMachineModel" "WideMachineModel" "what" "[I",
  .fieldLink "WideMachine" 13 "WideMachine" "program" "[I",
  .fieldLink "WideMachine" 17 "WideMachine" "data" "[I",
  .methodLink "WideMachine" 37 y_xm_isInData,
  .code y_xm_isInData b_xm_isInData 2 (some .boolean),
  .initialized "WideMachine",
  .instanceMethod y_xm_isInData,
  .selects "WideMachine" y_xm_isInData y_xm_isInData,
  .fieldLink "WideMachine" 20 "WideMachine" "registers" "[I",
  .fieldLink "WideMachine$Writes" 19 "WideMachine$Writes" "count" "I",
  .fieldLink "WideMachine$Writes" 16 "WideMachine$Writes" "times" "[I",
  .fieldLink "WideMachine$Writes" 9 "WideMachine$Writes" "targets" "[I",
  .fieldLink "WideMachine$Writes" 13 "WideMachine$Writes" "values" "[I",
  .fieldLink "WideMachine" 26 "WideMachine" "writes" "LWideMachine$Writes;",
  .methodLink "WideMachine" 116 y_xq_comeNearer,
  .code y_xq_comeNearer b_xq_comeNearer 2 none,
  .initialized "WideMachine$Writes",
  .instanceMethod y_xq_comeNearer,
  .selects "WideMachine$Writes" y_xq_comeNearer y_xq_comeNearer,
  .methodLink "WideMachine" 119 y_xq_clash,
  .code y_xq_clash b_xq_clash 4 (some .boolean),
  .instanceMethod y_xq_clash,
  .selects "WideMachine$Writes" y_xq_clash y_xq_clash,
  .fieldLink "WideMachine" 41 "WideMachine" "state" "I",
  .methodLink "WideMachine" 123 y_xq_land,
  .code y_xq_land b_xq_land 4 none,
  .instanceMethod y_xq_land,
  .selects "WideMachine$Writes" y_xq_land y_xq_land,
  .fieldLink "WideMachine$Branches" 16 "WideMachine$Branches" "count" "I",
  .fieldLink "WideMachine$Branches" 13 "WideMachine$Branches" "times" "[I",
  .fieldLink "WideMachine$Branches" 9 "WideMachine$Branches" "targets" "[I",
  .fieldLink "WideMachine" 33 "WideMachine" "branches" "LWideMachine$Branches;",
  .methodLink "WideMachine" 127 y_xb_comeNearer,
  .code y_xb_comeNearer b_xb_comeNearer 2 none,
  .initialized "WideMachine$Branches",
  .instanceMethod y_xb_comeNearer,
  .selects "WideMachine$Branches" y_xb_comeNearer y_xb_comeNearer,
  .methodLink "WideMachine" 128 y_xb_arrived,
  .code y_xb_arrived b_xb_arrived 2 (some .int),
  .instanceMethod y_xb_arrived,
  .selects "WideMachine$Branches" y_xb_arrived y_xb_arrived,
  .methodLink "WideMachine" 131 y_xb_takeFirst,
  .code y_xb_takeFirst b_xb_takeFirst 3 (some .int),
  .instanceMethod y_xb_takeFirst,
  .selects "WideMachine$Branches" y_xb_takeFirst y_xb_takeFirst,
  .fieldLink "WideMachine" 48 "WideMachine" "address" "I",
  .fieldLink "WideMachine" 68 "WideMachine" "raisedLines" "I",
  .fieldLink "WideMachine" 64 "WideMachine" "letsIn" "Z",
  .fieldLink "WideMachine" 57 "WideMachine$Branches" "count" "I",
  .methodLink "WideMachine" 80 y_xm_isRaised,
  .code y_xm_isRaised b_xm_isRaised 2 (some .boolean),
  .instanceMethod y_xm_isRaised,
  .selects "WideMachine" y_xm_isRaised y_xm_isRaised,
  .fieldLink "WideMachine" 61 "WideMachine" "returnAddress" "I",
  .methodLink "WideMachine" 134 y_xw_goesOn,
  .code y_xw_goesOn b_xw_goesOn 1 (some .boolean),
  .initialized "WideMachine$Word",
  .static y_xw_goesOn,
  .methodLink "WideMachine$Word" 9 y_xw_code,
  .code y_xw_code b_xw_code 1 (some .int),
  .static y_xw_code,
  .methodLink "WideMachine$Word" 18 y_xw_isOnZero,
  .code y_xw_isOnZero b_xw_isOnZero 1 (some .boolean),
  .static y_xw_isOnZero,
  .methodLink "WideMachine$Word" 22 y_xw_isOperation,
  .code y_xw_isOperation b_xw_isOperation 1 (some .boolean),
  .static y_xw_isOperation,
  .methodLink "WideMachine$Word" 25 y_xw_hasLongNumber,
  .code y_xw_hasLongNumber b_xw_hasLongNumber 1 (some .boolean),
  .static y_xw_hasLongNumber,
  .methodLink "WideMachine$Word" 28 y_xw_hasD,
  .code y_xw_hasD b_xw_hasD 1 (some .boolean),
  .static y_xw_hasD,
  .methodLink "WideMachine$Word" 31 y_xw_d,
  .code y_xw_d b_xw_d 1 (some .int),
  .static y_xw_d,
  .methodLink "WideMachine$Word" 34 y_xw_side,
  .code y_xw_side b_xw_side 1 (some .int),
  .static y_xw_side,
  .methodLink "WideMachine$Word" 37 y_xw_hasA,
  .code y_xw_hasA b_xw_hasA 1 (some .boolean),
  .static y_xw_hasA,
  .methodLink "WideMachine$Word" 40 y_xw_a,
  .code y_xw_a b_xw_a 1 (some .int),
  .static y_xw_a,
  .methodLink "WideMachine" 151 y_xw_isIllFormed,
  .code y_xw_isIllFormed b_xw_isIllFormed 3 (some .boolean),
  .static y_xw_isIllFormed,
  .methodLink "WideMachine" 154 y_xw_unit,
  .code y_xw_unit b_xw_unit 1 (some .int),
  .static y_xw_unit,
  .methodLink "WideMachine$Word" 43 y_xw_hasB,
  .code y_xw_hasB b_xw_hasB 1 (some .boolean),
  .static y_xw_hasB,
  .methodLink "WideMachine$Word" 46 y_xw_isNumberB,
  .code y_xw_isNumberB b_xw_isNumberB 1 (some .boolean),
  .static y_xw_isNumberB,
  .methodLink "WideMachine$Word" 49 y_xw_b,
  .code y_xw_b b_xw_b 1 (some .int),
  .static y_xw_b,
  .methodLink "WideMachine" 157 y_xw_crosses,
  .code y_xw_crosses b_xw_crosses 1 (some .boolean),
  .static y_xw_crosses,
  .methodLink "WideMachine" 160 y_xw_side,
  .methodLink "WideMachine" 172 y_xw_conditionRegister,
  .code y_xw_conditionRegister b_xw_conditionRegister 1 (some .int),
  .static y_xw_conditionRegister,
  .methodLink "WideMachine" 175 y_xw_isOnZero,
  .methodLink "WideMachine" 184 y_xw_isNumberB,
  .methodLink "WideMachine" 187 y_xw_numberB,
  .code y_xw_numberB b_xw_numberB 1 (some .int),
  .static y_xw_numberB,
  .methodLink "WideMachine" 190 y_xw_b,
  .methodLink "WideMachine" 178 y_xw_a,
  .methodLink "WideMachine" 181 y_xm_operandB,
  .code y_xm_operandB b_xm_operandB 2 (some .int),
  .instanceMethod y_xm_operandB,
  .selects "WideMachine" y_xm_operandB y_xm_operandB,
  .methodLink "WideMachine" 163 y_xw_code,
  .methodLink "WideMachine" 166 y_xm_isConditionTrue,
  .code y_xm_isConditionTrue b_xm_isConditionTrue 3 (some .boolean),
  .instanceMethod y_xm_isConditionTrue,
  .selects "WideMachine" y_xm_isConditionTrue y_xm_isConditionTrue,
  .methodLink "WideMachine" 169 y_xm_dataAddress,
  .code y_xm_dataAddress b_xm_dataAddress 2 (some .int),
  .instanceMethod y_xm_dataAddress,
  .selects "WideMachine" y_xm_dataAddress y_xm_dataAddress,
  .methodLink "WideMachine" 139 y_xm_hasIllFormed,
  .code y_xm_hasIllFormed b_xm_hasIllFormed 3 (some .boolean),
  .instanceMethod y_xm_hasIllFormed,
  .selects "WideMachine" y_xm_hasIllFormed y_xm_hasIllFormed,
  .methodLink "WideMachine" 142 y_xm_hasUnitTwice,
  .code y_xm_hasUnitTwice b_xm_hasUnitTwice 5 (some .boolean),
  .instanceMethod y_xm_hasUnitTwice,
  .selects "WideMachine" y_xm_hasUnitTwice y_xm_hasUnitTwice,
  .methodLink "WideMachine" 145 y_xm_hasCrossedTwice,
  .code y_xm_hasCrossedTwice b_xm_hasCrossedTwice 5 (some .boolean),
  .instanceMethod y_xm_hasCrossedTwice,
  .selects "WideMachine" y_xm_hasCrossedTwice y_xm_hasCrossedTwice,
  .methodLink "WideMachine" 148 y_xm_goesBeyondData,
  .code y_xm_goesBeyondData b_xm_goesBeyondData 6 (some .boolean),
  .instanceMethod y_xm_goesBeyondData,
  .selects "WideMachine" y_xm_goesBeyondData y_xm_goesBeyondData,
  .constantLong "WideMachine$Values" 20 2147483647,
  .constant "WideMachine$Values" 22 2147483647,
  .constantLong "WideMachine$Values" 23 (-2147483648),
  .constant "WideMachine$Values" 25 (-2147483648),
  .methodLink "WideMachine$Values" 7 y_xv_nearestInt,
  .code y_xv_nearestInt b_xv_nearestInt 2 (some .int),
  .initialized "WideMachine$Values",
  .static y_xv_nearestInt,
  .methodLink "WideMachine$Values" 13 y_xv_bitsLikeHighest,
  .code y_xv_bitsLikeHighest b_xv_bitsLikeHighest 4 (some .int),
  .static y_xv_bitsLikeHighest,
  .constant "WideMachine$Values" 17 65535,
  .constantLong "WideMachine$Values" 18 2,
  .methodLink "WideMachine" 217 y_xw_number,
  .code y_xw_number b_xw_number 1 (some .int),
  .static y_xw_number,
  .constant "WideMachine" 220 65536,
  .methodLink "WideMachine" 205 y_xw_d,
  .constant "WideMachine" 221 65535,
  .methodLink "WideMachine" 222 y_xm_peek,
  .code y_xm_peek b_xm_peek 2 (some .int),
  .instanceMethod y_xm_peek,
  .selects "WideMachine" y_xm_peek y_xm_peek,
  .methodLink "WideMachine" 225 y_xw_kind,
  .code y_xw_kind b_xw_kind 1 (some .int),
  .static y_xw_kind,
  .methodLink "WideMachine" 228 y_xv_ofL,
  .code y_xv_ofL b_xv_ofL 3 (some .int),
  .static y_xv_ofL,
  .methodLink "WideMachine" 234 y_xv_ofS,
  .code y_xv_ofS b_xv_ofS 3 (some .int),
  .static y_xv_ofS,
  .methodLink "WideMachine" 237 y_xv_ofM,
  .code y_xv_ofM b_xv_ofM 3 (some .int),
  .static y_xv_ofM,
  .methodLink "WideMachine" 240 y_xv_ofD,
  .code y_xv_ofD b_xv_ofD 3 (some .int),
  .static y_xv_ofD,
  .methodLink "WideMachine$Word" 15 y_xw_kind,
  .methodLink "WideMachine" 199 y_xw_target,
  .code y_xw_target b_xw_target 1 (some .int),
  .static y_xw_target,
  .methodLink "WideMachine" 202 y_xb_add,
  .code y_xb_add b_xb_add 2 none,
  .instanceMethod y_xb_add,
  .selects "WideMachine$Branches" y_xb_add y_xb_add,
  .fieldLink "WideMachine" 58 "WideMachine" "waits" "I",
  .methodLink "WideMachine" 93 Lib.Math.max.name,
  .static Lib.Math.max.name,
  .initialized "java/lang/Math",
  .code Lib.Math.max.name Lib.Math.max.code 2 (some .int),
  .methodLink "WideMachine" 208 y_xm_valueOf,
  .code y_xm_valueOf b_xm_valueOf 5 (some .int),
  .instanceMethod y_xm_valueOf,
  .selects "WideMachine" y_xm_valueOf y_xm_valueOf,
  .methodLink "WideMachine" 211 y_xw_timeOfWrite,
  .code y_xw_timeOfWrite b_xw_timeOfWrite 1 (some .int),
  .static y_xw_timeOfWrite,
  .methodLink "WideMachine" 214 y_xq_add,
  .code y_xq_add b_xq_add 4 none,
  .instanceMethod y_xq_add,
  .selects "WideMachine$Writes" y_xq_add y_xq_add,
  .methodLink "WideMachine" 243 y_xm_poke,
  .code y_xm_poke b_xm_poke 3 (some .boolean),
  .instanceMethod y_xm_poke,
  .selects "WideMachine" y_xm_poke y_xm_poke,
  .methodLink "WideMachine" 193 y_xm_doWord,
  .code y_xm_doWord b_xm_doWord 2 none,
  .instanceMethod y_xm_doWord,
  .selects "WideMachine" y_xm_doWord y_xm_doWord,
  .methodLink "WideMachine" 196 y_xm_doStores,
  .code y_xm_doStores b_xm_doStores 4 none,
  .instanceMethod y_xm_doStores,
  .selects "WideMachine" y_xm_doStores y_xm_doStores,
  .fieldLink "WideMachine" 51 "WideMachine" "cycles" "I",
  .methodLink "WideMachine" 96 y_xm_landWrites,
  .code y_xm_landWrites b_xm_landWrites 1 none,
  .instanceMethod y_xm_landWrites,
  .selects "WideMachine" y_xm_landWrites y_xm_landWrites,
  .methodLink "WideMachine" 99 y_xm_takeBranch,
  .code y_xm_takeBranch b_xm_takeBranch 2 none,
  .instanceMethod y_xm_takeBranch,
  .selects "WideMachine" y_xm_takeBranch y_xm_takeBranch,
  .methodLink "WideMachine" 102 y_xm_takeInterrupt,
  .code y_xm_takeInterrupt b_xm_takeInterrupt 2 none,
  .instanceMethod y_xm_takeInterrupt,
  .selects "WideMachine" y_xm_takeInterrupt y_xm_takeInterrupt,
  .methodLink "WideMachine" 105 y_xm_endOfPacket,
  .code y_xm_endOfPacket b_xm_endOfPacket 3 (some .int),
  .instanceMethod y_xm_endOfPacket,
  .selects "WideMachine" y_xm_endOfPacket y_xm_endOfPacket,
  .methodLink "WideMachine" 109 y_xm_faultOfPacket,
  .code y_xm_faultOfPacket b_xm_faultOfPacket 3 (some .int),
  .instanceMethod y_xm_faultOfPacket,
  .selects "WideMachine" y_xm_faultOfPacket y_xm_faultOfPacket,
  .methodLink "WideMachine" 112 y_xm_doPacket,
  .code y_xm_doPacket b_xm_doPacket 3 none,
  .instanceMethod y_xm_doPacket,
  .selects "WideMachine" y_xm_doPacket y_xm_doPacket,
  .methodLink "WideMachine" 45 y_xm_doCycle,
  .code y_xm_doCycle b_xm_doCycle 2 none,
  .instanceMethod y_xm_doCycle,
  .selects "WideMachine" y_xm_doCycle y_xm_doCycle,
  .fieldLink "WideMachine" 54 "WideMachine$Writes" "count" "I",
  .fieldLink "WideMachine" 71 "WideMachine$Writes" "targets" "[I",
  .fieldLink "WideMachine" 74 "WideMachine$Writes" "values" "[I",
  .fieldLink "WideMachine" 77 "WideMachine$Writes" "times" "[I",
  .methodLink "WideMachine" 83 y_xq_clear,
  .code y_xq_clear b_xq_clear 1 none,
  .instanceMethod y_xq_clear,
  .selects "WideMachine$Writes" y_xq_clear y_xq_clear,
  .methodLink "WideMachine" 86 y_xb_clear,
  .code y_xb_clear b_xb_clear 1 none,
  .instanceMethod y_xb_clear,
  .selects "WideMachine$Branches" y_xb_clear y_xb_clear,
  .methodLink "WideMachine" 87 Lib.Math.min.name,
  .static Lib.Math.min.name,
  .code Lib.Math.min.name Lib.Math.min.code 2 (some .int),
  .fieldLink "WideMachineModel" 47 "WideMachineModel" "thrown" "I",
  .fieldLink "WideMachineModel" 40 "WideMachineModel" "words" "I",
  .fieldLink "WideMachineModel" 7 "WideMachineModel" "program" "[I",
  .fieldLink "WideMachineModel" 44 "WideMachineModel" "size" "I",
  .fieldLink "WideMachineModel" 13 "WideMachineModel" "data" "[I",
  .fieldLink "WideMachineModel" 16 "WideMachineModel" "registers" "[I",
  .fieldLink "WideMachineModel" 50 "WideMachineModel" "state" "I",
  .fieldLink "WideMachineModel" 53 "WideMachineModel" "address" "I",
  .fieldLink "WideMachineModel" 56 "WideMachineModel" "cycles" "I",
  .fieldLink "WideMachineModel" 59 "WideMachineModel" "writes" "I",
  .fieldLink "WideMachineModel" 62 "WideMachineModel" "branches" "I",
  .fieldLink "WideMachineModel" 65 "WideMachineModel" "wait" "I",
  .fieldLink "WideMachineModel" 68 "WideMachineModel" "back" "I",
  .fieldLink "WideMachineModel" 71 "WideMachineModel" "letIn" "Z",
  .fieldLink "WideMachineModel" 75 "WideMachineModel" "raised" "I",
  .fieldLink "WideMachineModel" 19 "WideMachineModel" "register" "[I",
  .fieldLink "WideMachineModel" 22 "WideMachineModel" "value" "[I",
  .fieldLink "WideMachineModel" 25 "WideMachineModel" "when" "[I",
  .fieldLink "WideMachineModel" 31 "WideMachineModel" "goes" "[I",
  .fieldLink "WideMachineModel" 28 "WideMachineModel" "target" "[I",
  .methodLink "WideMachineModel" 81 y_mm_kind,
  .code y_mm_kind b_mm_kind 1 (some .int),
  .initialized "WideMachineModel",
  .static y_mm_kind,
  .methodLink "WideMachineModel" 85 y_mm_operation,
  .code y_mm_operation b_mm_operation 1 (some .int),
  .static y_mm_operation,
  .methodLink "WideMachineModel" 88 y_mm_isS,
  .code y_mm_isS b_mm_isS 3 (some .boolean),
  .static y_mm_isS,
  .methodLink "WideMachineModel" 92 y_mm_unit,
  .code y_mm_unit b_mm_unit 1 (some .int),
  .static y_mm_unit,
  .methodLink "WideMachineModel" 95 y_mm_condition,
  .code y_mm_condition b_mm_condition 1 (some .int),
  .static y_mm_condition,
  .methodLink "WideMachineModel" 98 y_mm_hasD,
  .code y_mm_hasD b_mm_hasD 1 (some .boolean),
  .static y_mm_hasD,
  .methodLink "WideMachineModel" 102 y_mm_d,
  .code y_mm_d b_mm_d 1 (some .int),
  .static y_mm_d,
  .methodLink "WideMachineModel" 105 y_mm_isOther,
  .code y_mm_isOther b_mm_isOther 2 (some .boolean),
  .static y_mm_isOther,
  .methodLink "WideMachineModel" 109 y_mm_hasA,
  .code y_mm_hasA b_mm_hasA 1 (some .boolean),
  .static y_mm_hasA,
  .methodLink "WideMachineModel" 112 y_mm_a,
  .code y_mm_a b_mm_a 1 (some .int),
  .static y_mm_a,
  .methodLink "WideMachineModel" 138 y_mm_isNumber,
  .code y_mm_isNumber b_mm_isNumber 1 (some .boolean),
  .static y_mm_isNumber,
  .methodLink "WideMachineModel" 141 y_mm_b,
  .code y_mm_b b_mm_b 1 (some .int),
  .static y_mm_b,
  .methodLink "WideMachineModel" 166 y_mm_second,
  .code y_mm_second b_mm_second 2 (some .int),
  .instanceMethod y_mm_second,
  .selects "WideMachineModel" y_mm_second y_mm_second,
  .methodLink "WideMachineModel" 132 y_mm_isIll,
  .code y_mm_isIll b_mm_isIll 4 (some .boolean),
  .static y_mm_isIll,
  .methodLink "WideMachineModel" 135 y_mm_hasB,
  .code y_mm_hasB b_mm_hasB 1 (some .boolean),
  .static y_mm_hasB,
  .methodLink "WideMachineModel" 144 y_mm_isDone,
  .code y_mm_isDone b_mm_isDone 4 (some .boolean),
  .instanceMethod y_mm_isDone,
  .selects "WideMachineModel" y_mm_isDone y_mm_isDone,
  .methodLink "WideMachineModel" 147 y_mm_reaches,
  .code y_mm_reaches b_mm_reaches 3 (some .boolean),
  .instanceMethod y_mm_reaches,
  .selects "WideMachineModel" y_mm_reaches y_mm_reaches,
  .methodLink "WideMachineModel" 162 y_mm_write,
  .code y_mm_write b_mm_write 4 none,
  .instanceMethod y_mm_write,
  .selects "WideMachineModel" y_mm_write y_mm_write,
  .fieldLink "WideMachineModel" 34 "WideMachineModel" "where" "[I",
  .fieldLink "WideMachineModel" 150 "WideMachineModel" "stores" "I",
  .fieldLink "WideMachineModel" 37 "WideMachineModel" "what" "[I",
  .constantLong "WideMachineModel" 179 2147483647,
  .constant "WideMachineModel" 181 2147483647,
  .constantLong "WideMachineModel" 182 (-2147483648),
  .constant "WideMachineModel" 184 (-2147483648),
  .constant "WideMachineModel" 185 65535,
  .constant "WideMachineModel" 186 1073741824,
  .methodLink "WideMachineModel" 169 y_mm_logic,
  .code y_mm_logic b_mm_logic 5 (some .int),
  .static y_mm_logic,
  .methodLink "WideMachineModel" 173 y_mm_shift,
  .code y_mm_shift b_mm_shift 5 (some .int),
  .instanceMethod y_mm_shift,
  .selects "WideMachineModel" y_mm_shift y_mm_shift,
  .methodLink "WideMachineModel" 176 y_mm_product,
  .code y_mm_product b_mm_product 4 (some .int),
  .static y_mm_product,
  .methodLink "WideMachineModel" 153 y_mm_controls,
  .code y_mm_controls b_mm_controls 4 none,
  .instanceMethod y_mm_controls,
  .selects "WideMachineModel" y_mm_controls y_mm_controls,
  .methodLink "WideMachineModel" 156 y_mm_meets,
  .code y_mm_meets b_mm_meets 3 none,
  .instanceMethod y_mm_meets,
  .selects "WideMachineModel" y_mm_meets y_mm_meets,
  .methodLink "WideMachineModel" 159 y_mm_works,
  .code y_mm_works b_mm_works 5 (some .int),
  .instanceMethod y_mm_works,
  .selects "WideMachineModel" y_mm_works y_mm_works,
  .methodLink "WideMachineModel" 115 y_mm_lands,
  .code y_mm_lands b_mm_lands 3 (some .int),
  .instanceMethod y_mm_lands,
  .selects "WideMachineModel" y_mm_lands y_mm_lands,
  .methodLink "WideMachineModel" 119 y_mm_arrives,
  .code y_mm_arrives b_mm_arrives 3 (some .int),
  .instanceMethod y_mm_arrives,
  .selects "WideMachineModel" y_mm_arrives y_mm_arrives,
  .methodLink "WideMachineModel" 122 y_mm_interrupts,
  .code y_mm_interrupts b_mm_interrupts 2 none,
  .instanceMethod y_mm_interrupts,
  .selects "WideMachineModel" y_mm_interrupts y_mm_interrupts,
  .methodLink "WideMachineModel" 125 y_mm_wrong,
  .code y_mm_wrong b_mm_wrong 6 (some .int),
  .instanceMethod y_mm_wrong,
  .selects "WideMachineModel" y_mm_wrong y_mm_wrong,
  .methodLink "WideMachineModel" 128 y_mm_packet,
  .code y_mm_packet b_mm_packet 5 none,
  .instanceMethod y_mm_packet,
  .selects "WideMachineModel" y_mm_packet y_mm_packet,
  .methodLink "WideMachineModel" 78 y_mm_cycle,
  .code y_mm_cycle b_mm_cycle 3 none,
  .instanceMethod y_mm_cycle,
  .selects "WideMachineModel" y_mm_cycle y_mm_cycle]
theorem vm_0 : Cond.laysFinal "WideMachine" "WideMachine" "program" "[I" ∈ vw_T := List.mem_of_getElem? (i := 0) rfl
theorem vm_1 : Cond.laysFinal "WideMachine" "WideMachine" "data" "[I" ∈ vw_T := List.mem_of_getElem? (i := 1) rfl
theorem vm_2 : Cond.laysFinal "WideMachine" "WideMachine" "registers" "[I" ∈ vw_T := List.mem_of_getElem? (i := 2) rfl
theorem vm_3 : Cond.laysFinal "WideMachine" "WideMachine" "writes" "LWideMachine$Writes;" ∈ vw_T := List.mem_of_getElem? (i := 3) rfl
theorem vm_4 : Cond.laysFinal "WideMachine" "WideMachine" "branches" "LWideMachine$Branches;" ∈ vw_T := List.mem_of_getElem? (i := 4) rfl
theorem vm_5 : Cond.lays "WideMachine" "WideMachine" "state" "I" ∈ vw_T := List.mem_of_getElem? (i := 5) rfl
theorem vm_6 : Cond.lays "WideMachine" "WideMachine" "address" "I" ∈ vw_T := List.mem_of_getElem? (i := 6) rfl
theorem vm_7 : Cond.lays "WideMachine" "WideMachine" "cycles" "I" ∈ vw_T := List.mem_of_getElem? (i := 7) rfl
theorem vm_8 : Cond.lays "WideMachine" "WideMachine" "waits" "I" ∈ vw_T := List.mem_of_getElem? (i := 8) rfl
theorem vm_9 : Cond.lays "WideMachine" "WideMachine" "returnAddress" "I" ∈ vw_T := List.mem_of_getElem? (i := 9) rfl
theorem vm_10 : Cond.lays "WideMachine" "WideMachine" "raisedLines" "I" ∈ vw_T := List.mem_of_getElem? (i := 10) rfl
theorem vm_11 : Cond.lays "WideMachine" "WideMachine" "letsIn" "Z" ∈ vw_T := List.mem_of_getElem? (i := 11) rfl
theorem vm_12 : Cond.laysFinal "WideMachine$Writes" "WideMachine$Writes" "targets" "[I" ∈ vw_T := List.mem_of_getElem? (i := 12) rfl
theorem vm_13 : Cond.laysFinal "WideMachine$Writes" "WideMachine$Writes" "values" "[I" ∈ vw_T := List.mem_of_getElem? (i := 13) rfl
theorem vm_14 : Cond.laysFinal "WideMachine$Writes" "WideMachine$Writes" "times" "[I" ∈ vw_T := List.mem_of_getElem? (i := 14) rfl
theorem vm_15 : Cond.lays "WideMachine$Writes" "WideMachine$Writes" "count" "I" ∈ vw_T := List.mem_of_getElem? (i := 15) rfl
theorem vm_16 : Cond.laysFinal "WideMachine$Branches" "WideMachine$Branches" "targets" "[I" ∈ vw_T := List.mem_of_getElem? (i := 16) rfl
theorem vm_17 : Cond.laysFinal "WideMachine$Branches" "WideMachine$Branches" "times" "[I" ∈ vw_T := List.mem_of_getElem? (i := 17) rfl
theorem vm_18 : Cond.lays "WideMachine$Branches" "WideMachine$Branches" "count" "I" ∈ vw_T := List.mem_of_getElem? (i := 18) rfl
theorem vm_19 : Cond.lays "WideMachineModel" "WideMachineModel" "thrown" "I" ∈ vw_T := List.mem_of_getElem? (i := 19) rfl
theorem vm_20 : Cond.laysFinal "WideMachineModel" "WideMachineModel" "words" "I" ∈ vw_T := List.mem_of_getElem? (i := 20) rfl
theorem vm_21 : Cond.laysFinal "WideMachineModel" "WideMachineModel" "size" "I" ∈ vw_T := List.mem_of_getElem? (i := 21) rfl
theorem vm_22 : Cond.laysFinal "WideMachineModel" "WideMachineModel" "program" "[I" ∈ vw_T := List.mem_of_getElem? (i := 22) rfl
theorem vm_23 : Cond.laysFinal "WideMachineModel" "WideMachineModel" "data" "[I" ∈ vw_T := List.mem_of_getElem? (i := 23) rfl
theorem vm_24 : Cond.laysFinal "WideMachineModel" "WideMachineModel" "registers" "[I" ∈ vw_T := List.mem_of_getElem? (i := 24) rfl
theorem vm_25 : Cond.lays "WideMachineModel" "WideMachineModel" "state" "I" ∈ vw_T := List.mem_of_getElem? (i := 25) rfl
theorem vm_26 : Cond.lays "WideMachineModel" "WideMachineModel" "address" "I" ∈ vw_T := List.mem_of_getElem? (i := 26) rfl
theorem vm_27 : Cond.lays "WideMachineModel" "WideMachineModel" "cycles" "I" ∈ vw_T := List.mem_of_getElem? (i := 27) rfl
theorem vm_28 : Cond.lays "WideMachineModel" "WideMachineModel" "wait" "I" ∈ vw_T := List.mem_of_getElem? (i := 28) rfl
theorem vm_29 : Cond.lays "WideMachineModel" "WideMachineModel" "back" "I" ∈ vw_T := List.mem_of_getElem? (i := 29) rfl
theorem vm_30 : Cond.lays "WideMachineModel" "WideMachineModel" "letIn" "Z" ∈ vw_T := List.mem_of_getElem? (i := 30) rfl
theorem vm_31 : Cond.lays "WideMachineModel" "WideMachineModel" "raised" "I" ∈ vw_T := List.mem_of_getElem? (i := 31) rfl
theorem vm_32 : Cond.lays "WideMachineModel" "WideMachineModel" "writes" "I" ∈ vw_T := List.mem_of_getElem? (i := 32) rfl
theorem vm_33 : Cond.laysFinal "WideMachineModel" "WideMachineModel" "register" "[I" ∈ vw_T := List.mem_of_getElem? (i := 33) rfl
theorem vm_34 : Cond.laysFinal "WideMachineModel" "WideMachineModel" "value" "[I" ∈ vw_T := List.mem_of_getElem? (i := 34) rfl
theorem vm_35 : Cond.laysFinal "WideMachineModel" "WideMachineModel" "when" "[I" ∈ vw_T := List.mem_of_getElem? (i := 35) rfl
theorem vm_36 : Cond.lays "WideMachineModel" "WideMachineModel" "branches" "I" ∈ vw_T := List.mem_of_getElem? (i := 36) rfl
theorem vm_37 : Cond.laysFinal "WideMachineModel" "WideMachineModel" "target" "[I" ∈ vw_T := List.mem_of_getElem? (i := 37) rfl
theorem vm_38 : Cond.laysFinal "WideMachineModel" "WideMachineModel" "goes" "[I" ∈ vw_T := List.mem_of_getElem? (i := 38) rfl
theorem vm_39 : Cond.lays "WideMachineModel" "WideMachineModel" "stores" "I" ∈ vw_T := List.mem_of_getElem? (i := 39) rfl
theorem vm_40 : Cond.laysFinal "WideMachineModel" "WideMachineModel" "where" "[I" ∈ vw_T := List.mem_of_getElem? (i := 40) rfl
theorem vm_41 : Cond.laysFinal "WideMachineModel" "WideMachineModel" "what" "[I" ∈ vw_T := List.mem_of_getElem? (i := 41) rfl
theorem vm_42 : Cond.fieldLink "WideMachine" 13 "WideMachine" "program" "[I" ∈ vw_T := List.mem_of_getElem? (i := 42) rfl
theorem vm_43 : Cond.fieldLink "WideMachine" 17 "WideMachine" "data" "[I" ∈ vw_T := List.mem_of_getElem? (i := 43) rfl
theorem vm_44 : Cond.methodLink "WideMachine" 37 y_xm_isInData ∈ vw_T := List.mem_of_getElem? (i := 44) rfl
theorem vm_45 : Cond.code y_xm_isInData b_xm_isInData 2 (some .boolean) ∈ vw_T := List.mem_of_getElem? (i := 45) rfl
theorem vm_46 : Cond.initialized "WideMachine" ∈ vw_T := List.mem_of_getElem? (i := 46) rfl
theorem vm_47 : Cond.instanceMethod y_xm_isInData ∈ vw_T := List.mem_of_getElem? (i := 47) rfl
theorem vm_48 : Cond.selects "WideMachine" y_xm_isInData y_xm_isInData ∈ vw_T := List.mem_of_getElem? (i := 48) rfl
theorem vm_49 : Cond.fieldLink "WideMachine" 20 "WideMachine" "registers" "[I" ∈ vw_T := List.mem_of_getElem? (i := 49) rfl
theorem vm_50 : Cond.fieldLink "WideMachine$Writes" 19 "WideMachine$Writes" "count" "I" ∈ vw_T := List.mem_of_getElem? (i := 50) rfl
theorem vm_51 : Cond.fieldLink "WideMachine$Writes" 16 "WideMachine$Writes" "times" "[I" ∈ vw_T := List.mem_of_getElem? (i := 51) rfl
theorem vm_52 : Cond.fieldLink "WideMachine$Writes" 9 "WideMachine$Writes" "targets" "[I" ∈ vw_T := List.mem_of_getElem? (i := 52) rfl
theorem vm_53 : Cond.fieldLink "WideMachine$Writes" 13 "WideMachine$Writes" "values" "[I" ∈ vw_T := List.mem_of_getElem? (i := 53) rfl
theorem vm_54 : Cond.fieldLink "WideMachine" 26 "WideMachine" "writes" "LWideMachine$Writes;" ∈ vw_T := List.mem_of_getElem? (i := 54) rfl
theorem vm_55 : Cond.methodLink "WideMachine" 116 y_xq_comeNearer ∈ vw_T := List.mem_of_getElem? (i := 55) rfl
theorem vm_56 : Cond.code y_xq_comeNearer b_xq_comeNearer 2 none ∈ vw_T := List.mem_of_getElem? (i := 56) rfl
theorem vm_57 : Cond.initialized "WideMachine$Writes" ∈ vw_T := List.mem_of_getElem? (i := 57) rfl
theorem vm_58 : Cond.instanceMethod y_xq_comeNearer ∈ vw_T := List.mem_of_getElem? (i := 58) rfl
theorem vm_59 : Cond.selects "WideMachine$Writes" y_xq_comeNearer y_xq_comeNearer ∈ vw_T := List.mem_of_getElem? (i := 59) rfl
theorem vm_60 : Cond.methodLink "WideMachine" 119 y_xq_clash ∈ vw_T := List.mem_of_getElem? (i := 60) rfl
theorem vm_61 : Cond.code y_xq_clash b_xq_clash 4 (some .boolean) ∈ vw_T := List.mem_of_getElem? (i := 61) rfl
theorem vm_62 : Cond.instanceMethod y_xq_clash ∈ vw_T := List.mem_of_getElem? (i := 62) rfl
theorem vm_63 : Cond.selects "WideMachine$Writes" y_xq_clash y_xq_clash ∈ vw_T := List.mem_of_getElem? (i := 63) rfl
theorem vm_64 : Cond.fieldLink "WideMachine" 41 "WideMachine" "state" "I" ∈ vw_T := List.mem_of_getElem? (i := 64) rfl
theorem vm_65 : Cond.methodLink "WideMachine" 123 y_xq_land ∈ vw_T := List.mem_of_getElem? (i := 65) rfl
theorem vm_66 : Cond.code y_xq_land b_xq_land 4 none ∈ vw_T := List.mem_of_getElem? (i := 66) rfl
theorem vm_67 : Cond.instanceMethod y_xq_land ∈ vw_T := List.mem_of_getElem? (i := 67) rfl
theorem vm_68 : Cond.selects "WideMachine$Writes" y_xq_land y_xq_land ∈ vw_T := List.mem_of_getElem? (i := 68) rfl
theorem vm_69 : Cond.fieldLink "WideMachine$Branches" 16 "WideMachine$Branches" "count" "I" ∈ vw_T := List.mem_of_getElem? (i := 69) rfl
theorem vm_70 : Cond.fieldLink "WideMachine$Branches" 13 "WideMachine$Branches" "times" "[I" ∈ vw_T := List.mem_of_getElem? (i := 70) rfl
theorem vm_71 : Cond.fieldLink "WideMachine$Branches" 9 "WideMachine$Branches" "targets" "[I" ∈ vw_T := List.mem_of_getElem? (i := 71) rfl
theorem vm_72 : Cond.fieldLink "WideMachine" 33 "WideMachine" "branches" "LWideMachine$Branches;" ∈ vw_T := List.mem_of_getElem? (i := 72) rfl
theorem vm_73 : Cond.methodLink "WideMachine" 127 y_xb_comeNearer ∈ vw_T := List.mem_of_getElem? (i := 73) rfl
theorem vm_74 : Cond.code y_xb_comeNearer b_xb_comeNearer 2 none ∈ vw_T := List.mem_of_getElem? (i := 74) rfl
theorem vm_75 : Cond.initialized "WideMachine$Branches" ∈ vw_T := List.mem_of_getElem? (i := 75) rfl
theorem vm_76 : Cond.instanceMethod y_xb_comeNearer ∈ vw_T := List.mem_of_getElem? (i := 76) rfl
theorem vm_77 : Cond.selects "WideMachine$Branches" y_xb_comeNearer y_xb_comeNearer ∈ vw_T := List.mem_of_getElem? (i := 77) rfl
theorem vm_78 : Cond.methodLink "WideMachine" 128 y_xb_arrived ∈ vw_T := List.mem_of_getElem? (i := 78) rfl
theorem vm_79 : Cond.code y_xb_arrived b_xb_arrived 2 (some .int) ∈ vw_T := List.mem_of_getElem? (i := 79) rfl
theorem vm_80 : Cond.instanceMethod y_xb_arrived ∈ vw_T := List.mem_of_getElem? (i := 80) rfl
theorem vm_81 : Cond.selects "WideMachine$Branches" y_xb_arrived y_xb_arrived ∈ vw_T := List.mem_of_getElem? (i := 81) rfl
theorem vm_82 : Cond.methodLink "WideMachine" 131 y_xb_takeFirst ∈ vw_T := List.mem_of_getElem? (i := 82) rfl
theorem vm_83 : Cond.code y_xb_takeFirst b_xb_takeFirst 3 (some .int) ∈ vw_T := List.mem_of_getElem? (i := 83) rfl
theorem vm_84 : Cond.instanceMethod y_xb_takeFirst ∈ vw_T := List.mem_of_getElem? (i := 84) rfl
theorem vm_85 : Cond.selects "WideMachine$Branches" y_xb_takeFirst y_xb_takeFirst ∈ vw_T := List.mem_of_getElem? (i := 85) rfl
theorem vm_86 : Cond.fieldLink "WideMachine" 48 "WideMachine" "address" "I" ∈ vw_T := List.mem_of_getElem? (i := 86) rfl
theorem vm_87 : Cond.fieldLink "WideMachine" 68 "WideMachine" "raisedLines" "I" ∈ vw_T := List.mem_of_getElem? (i := 87) rfl
theorem vm_88 : Cond.fieldLink "WideMachine" 64 "WideMachine" "letsIn" "Z" ∈ vw_T := List.mem_of_getElem? (i := 88) rfl
theorem vm_89 : Cond.fieldLink "WideMachine" 57 "WideMachine$Branches" "count" "I" ∈ vw_T := List.mem_of_getElem? (i := 89) rfl
theorem vm_90 : Cond.methodLink "WideMachine" 80 y_xm_isRaised ∈ vw_T := List.mem_of_getElem? (i := 90) rfl
theorem vm_91 : Cond.code y_xm_isRaised b_xm_isRaised 2 (some .boolean) ∈ vw_T := List.mem_of_getElem? (i := 91) rfl
theorem vm_92 : Cond.instanceMethod y_xm_isRaised ∈ vw_T := List.mem_of_getElem? (i := 92) rfl
theorem vm_93 : Cond.selects "WideMachine" y_xm_isRaised y_xm_isRaised ∈ vw_T := List.mem_of_getElem? (i := 93) rfl
theorem vm_94 : Cond.fieldLink "WideMachine" 61 "WideMachine" "returnAddress" "I" ∈ vw_T := List.mem_of_getElem? (i := 94) rfl
theorem vm_95 : Cond.methodLink "WideMachine" 134 y_xw_goesOn ∈ vw_T := List.mem_of_getElem? (i := 95) rfl
theorem vm_96 : Cond.code y_xw_goesOn b_xw_goesOn 1 (some .boolean) ∈ vw_T := List.mem_of_getElem? (i := 96) rfl
theorem vm_97 : Cond.initialized "WideMachine$Word" ∈ vw_T := List.mem_of_getElem? (i := 97) rfl
theorem vm_98 : Cond.static y_xw_goesOn ∈ vw_T := List.mem_of_getElem? (i := 98) rfl
theorem vm_99 : Cond.methodLink "WideMachine$Word" 9 y_xw_code ∈ vw_T := List.mem_of_getElem? (i := 99) rfl
theorem vm_100 : Cond.code y_xw_code b_xw_code 1 (some .int) ∈ vw_T := List.mem_of_getElem? (i := 100) rfl
theorem vm_101 : Cond.static y_xw_code ∈ vw_T := List.mem_of_getElem? (i := 101) rfl
theorem vm_102 : Cond.methodLink "WideMachine$Word" 18 y_xw_isOnZero ∈ vw_T := List.mem_of_getElem? (i := 102) rfl
theorem vm_103 : Cond.code y_xw_isOnZero b_xw_isOnZero 1 (some .boolean) ∈ vw_T := List.mem_of_getElem? (i := 103) rfl
theorem vm_104 : Cond.static y_xw_isOnZero ∈ vw_T := List.mem_of_getElem? (i := 104) rfl
theorem vm_105 : Cond.methodLink "WideMachine$Word" 22 y_xw_isOperation ∈ vw_T := List.mem_of_getElem? (i := 105) rfl
theorem vm_106 : Cond.code y_xw_isOperation b_xw_isOperation 1 (some .boolean) ∈ vw_T := List.mem_of_getElem? (i := 106) rfl
theorem vm_107 : Cond.static y_xw_isOperation ∈ vw_T := List.mem_of_getElem? (i := 107) rfl
theorem vm_108 : Cond.methodLink "WideMachine$Word" 25 y_xw_hasLongNumber ∈ vw_T := List.mem_of_getElem? (i := 108) rfl
theorem vm_109 : Cond.code y_xw_hasLongNumber b_xw_hasLongNumber 1 (some .boolean) ∈ vw_T := List.mem_of_getElem? (i := 109) rfl
theorem vm_110 : Cond.static y_xw_hasLongNumber ∈ vw_T := List.mem_of_getElem? (i := 110) rfl
theorem vm_111 : Cond.methodLink "WideMachine$Word" 28 y_xw_hasD ∈ vw_T := List.mem_of_getElem? (i := 111) rfl
theorem vm_112 : Cond.code y_xw_hasD b_xw_hasD 1 (some .boolean) ∈ vw_T := List.mem_of_getElem? (i := 112) rfl
theorem vm_113 : Cond.static y_xw_hasD ∈ vw_T := List.mem_of_getElem? (i := 113) rfl
theorem vm_114 : Cond.methodLink "WideMachine$Word" 31 y_xw_d ∈ vw_T := List.mem_of_getElem? (i := 114) rfl
theorem vm_115 : Cond.code y_xw_d b_xw_d 1 (some .int) ∈ vw_T := List.mem_of_getElem? (i := 115) rfl
theorem vm_116 : Cond.static y_xw_d ∈ vw_T := List.mem_of_getElem? (i := 116) rfl
theorem vm_117 : Cond.methodLink "WideMachine$Word" 34 y_xw_side ∈ vw_T := List.mem_of_getElem? (i := 117) rfl
theorem vm_118 : Cond.code y_xw_side b_xw_side 1 (some .int) ∈ vw_T := List.mem_of_getElem? (i := 118) rfl
theorem vm_119 : Cond.static y_xw_side ∈ vw_T := List.mem_of_getElem? (i := 119) rfl
theorem vm_120 : Cond.methodLink "WideMachine$Word" 37 y_xw_hasA ∈ vw_T := List.mem_of_getElem? (i := 120) rfl
theorem vm_121 : Cond.code y_xw_hasA b_xw_hasA 1 (some .boolean) ∈ vw_T := List.mem_of_getElem? (i := 121) rfl
theorem vm_122 : Cond.static y_xw_hasA ∈ vw_T := List.mem_of_getElem? (i := 122) rfl
theorem vm_123 : Cond.methodLink "WideMachine$Word" 40 y_xw_a ∈ vw_T := List.mem_of_getElem? (i := 123) rfl
theorem vm_124 : Cond.code y_xw_a b_xw_a 1 (some .int) ∈ vw_T := List.mem_of_getElem? (i := 124) rfl
theorem vm_125 : Cond.static y_xw_a ∈ vw_T := List.mem_of_getElem? (i := 125) rfl
theorem vm_126 : Cond.methodLink "WideMachine" 151 y_xw_isIllFormed ∈ vw_T := List.mem_of_getElem? (i := 126) rfl
theorem vm_127 : Cond.code y_xw_isIllFormed b_xw_isIllFormed 3 (some .boolean) ∈ vw_T := List.mem_of_getElem? (i := 127) rfl
theorem vm_128 : Cond.static y_xw_isIllFormed ∈ vw_T := List.mem_of_getElem? (i := 128) rfl
theorem vm_129 : Cond.methodLink "WideMachine" 154 y_xw_unit ∈ vw_T := List.mem_of_getElem? (i := 129) rfl
theorem vm_130 : Cond.code y_xw_unit b_xw_unit 1 (some .int) ∈ vw_T := List.mem_of_getElem? (i := 130) rfl
theorem vm_131 : Cond.static y_xw_unit ∈ vw_T := List.mem_of_getElem? (i := 131) rfl
theorem vm_132 : Cond.methodLink "WideMachine$Word" 43 y_xw_hasB ∈ vw_T := List.mem_of_getElem? (i := 132) rfl
theorem vm_133 : Cond.code y_xw_hasB b_xw_hasB 1 (some .boolean) ∈ vw_T := List.mem_of_getElem? (i := 133) rfl
theorem vm_134 : Cond.static y_xw_hasB ∈ vw_T := List.mem_of_getElem? (i := 134) rfl
theorem vm_135 : Cond.methodLink "WideMachine$Word" 46 y_xw_isNumberB ∈ vw_T := List.mem_of_getElem? (i := 135) rfl
theorem vm_136 : Cond.code y_xw_isNumberB b_xw_isNumberB 1 (some .boolean) ∈ vw_T := List.mem_of_getElem? (i := 136) rfl
theorem vm_137 : Cond.static y_xw_isNumberB ∈ vw_T := List.mem_of_getElem? (i := 137) rfl
theorem vm_138 : Cond.methodLink "WideMachine$Word" 49 y_xw_b ∈ vw_T := List.mem_of_getElem? (i := 138) rfl
theorem vm_139 : Cond.code y_xw_b b_xw_b 1 (some .int) ∈ vw_T := List.mem_of_getElem? (i := 139) rfl
theorem vm_140 : Cond.static y_xw_b ∈ vw_T := List.mem_of_getElem? (i := 140) rfl
theorem vm_141 : Cond.methodLink "WideMachine" 157 y_xw_crosses ∈ vw_T := List.mem_of_getElem? (i := 141) rfl
theorem vm_142 : Cond.code y_xw_crosses b_xw_crosses 1 (some .boolean) ∈ vw_T := List.mem_of_getElem? (i := 142) rfl
theorem vm_143 : Cond.static y_xw_crosses ∈ vw_T := List.mem_of_getElem? (i := 143) rfl
theorem vm_144 : Cond.methodLink "WideMachine" 160 y_xw_side ∈ vw_T := List.mem_of_getElem? (i := 144) rfl
theorem vm_145 : Cond.methodLink "WideMachine" 172 y_xw_conditionRegister ∈ vw_T := List.mem_of_getElem? (i := 145) rfl
theorem vm_146 : Cond.code y_xw_conditionRegister b_xw_conditionRegister 1 (some .int) ∈ vw_T := List.mem_of_getElem? (i := 146) rfl
theorem vm_147 : Cond.static y_xw_conditionRegister ∈ vw_T := List.mem_of_getElem? (i := 147) rfl
theorem vm_148 : Cond.methodLink "WideMachine" 175 y_xw_isOnZero ∈ vw_T := List.mem_of_getElem? (i := 148) rfl
theorem vm_149 : Cond.methodLink "WideMachine" 184 y_xw_isNumberB ∈ vw_T := List.mem_of_getElem? (i := 149) rfl
theorem vm_150 : Cond.methodLink "WideMachine" 187 y_xw_numberB ∈ vw_T := List.mem_of_getElem? (i := 150) rfl
theorem vm_151 : Cond.code y_xw_numberB b_xw_numberB 1 (some .int) ∈ vw_T := List.mem_of_getElem? (i := 151) rfl
theorem vm_152 : Cond.static y_xw_numberB ∈ vw_T := List.mem_of_getElem? (i := 152) rfl
theorem vm_153 : Cond.methodLink "WideMachine" 190 y_xw_b ∈ vw_T := List.mem_of_getElem? (i := 153) rfl
theorem vm_154 : Cond.methodLink "WideMachine" 178 y_xw_a ∈ vw_T := List.mem_of_getElem? (i := 154) rfl
theorem vm_155 : Cond.methodLink "WideMachine" 181 y_xm_operandB ∈ vw_T := List.mem_of_getElem? (i := 155) rfl
theorem vm_156 : Cond.code y_xm_operandB b_xm_operandB 2 (some .int) ∈ vw_T := List.mem_of_getElem? (i := 156) rfl
theorem vm_157 : Cond.instanceMethod y_xm_operandB ∈ vw_T := List.mem_of_getElem? (i := 157) rfl
theorem vm_158 : Cond.selects "WideMachine" y_xm_operandB y_xm_operandB ∈ vw_T := List.mem_of_getElem? (i := 158) rfl
theorem vm_159 : Cond.methodLink "WideMachine" 163 y_xw_code ∈ vw_T := List.mem_of_getElem? (i := 159) rfl
theorem vm_160 : Cond.methodLink "WideMachine" 166 y_xm_isConditionTrue ∈ vw_T := List.mem_of_getElem? (i := 160) rfl
theorem vm_161 : Cond.code y_xm_isConditionTrue b_xm_isConditionTrue 3 (some .boolean) ∈ vw_T := List.mem_of_getElem? (i := 161) rfl
theorem vm_162 : Cond.instanceMethod y_xm_isConditionTrue ∈ vw_T := List.mem_of_getElem? (i := 162) rfl
theorem vm_163 : Cond.selects "WideMachine" y_xm_isConditionTrue y_xm_isConditionTrue ∈ vw_T := List.mem_of_getElem? (i := 163) rfl
theorem vm_164 : Cond.methodLink "WideMachine" 169 y_xm_dataAddress ∈ vw_T := List.mem_of_getElem? (i := 164) rfl
theorem vm_165 : Cond.code y_xm_dataAddress b_xm_dataAddress 2 (some .int) ∈ vw_T := List.mem_of_getElem? (i := 165) rfl
theorem vm_166 : Cond.instanceMethod y_xm_dataAddress ∈ vw_T := List.mem_of_getElem? (i := 166) rfl
theorem vm_167 : Cond.selects "WideMachine" y_xm_dataAddress y_xm_dataAddress ∈ vw_T := List.mem_of_getElem? (i := 167) rfl
theorem vm_168 : Cond.methodLink "WideMachine" 139 y_xm_hasIllFormed ∈ vw_T := List.mem_of_getElem? (i := 168) rfl
theorem vm_169 : Cond.code y_xm_hasIllFormed b_xm_hasIllFormed 3 (some .boolean) ∈ vw_T := List.mem_of_getElem? (i := 169) rfl
theorem vm_170 : Cond.instanceMethod y_xm_hasIllFormed ∈ vw_T := List.mem_of_getElem? (i := 170) rfl
theorem vm_171 : Cond.selects "WideMachine" y_xm_hasIllFormed y_xm_hasIllFormed ∈ vw_T := List.mem_of_getElem? (i := 171) rfl
theorem vm_172 : Cond.methodLink "WideMachine" 142 y_xm_hasUnitTwice ∈ vw_T := List.mem_of_getElem? (i := 172) rfl
theorem vm_173 : Cond.code y_xm_hasUnitTwice b_xm_hasUnitTwice 5 (some .boolean) ∈ vw_T := List.mem_of_getElem? (i := 173) rfl
theorem vm_174 : Cond.instanceMethod y_xm_hasUnitTwice ∈ vw_T := List.mem_of_getElem? (i := 174) rfl
theorem vm_175 : Cond.selects "WideMachine" y_xm_hasUnitTwice y_xm_hasUnitTwice ∈ vw_T := List.mem_of_getElem? (i := 175) rfl
theorem vm_176 : Cond.methodLink "WideMachine" 145 y_xm_hasCrossedTwice ∈ vw_T := List.mem_of_getElem? (i := 176) rfl
theorem vm_177 : Cond.code y_xm_hasCrossedTwice b_xm_hasCrossedTwice 5 (some .boolean) ∈ vw_T := List.mem_of_getElem? (i := 177) rfl
theorem vm_178 : Cond.instanceMethod y_xm_hasCrossedTwice ∈ vw_T := List.mem_of_getElem? (i := 178) rfl
theorem vm_179 : Cond.selects "WideMachine" y_xm_hasCrossedTwice y_xm_hasCrossedTwice ∈ vw_T := List.mem_of_getElem? (i := 179) rfl
theorem vm_180 : Cond.methodLink "WideMachine" 148 y_xm_goesBeyondData ∈ vw_T := List.mem_of_getElem? (i := 180) rfl
theorem vm_181 : Cond.code y_xm_goesBeyondData b_xm_goesBeyondData 6 (some .boolean) ∈ vw_T := List.mem_of_getElem? (i := 181) rfl
theorem vm_182 : Cond.instanceMethod y_xm_goesBeyondData ∈ vw_T := List.mem_of_getElem? (i := 182) rfl
theorem vm_183 : Cond.selects "WideMachine" y_xm_goesBeyondData y_xm_goesBeyondData ∈ vw_T := List.mem_of_getElem? (i := 183) rfl
theorem vm_184 : Cond.constantLong "WideMachine$Values" 20 2147483647 ∈ vw_T := List.mem_of_getElem? (i := 184) rfl
theorem vm_185 : Cond.constant "WideMachine$Values" 22 2147483647 ∈ vw_T := List.mem_of_getElem? (i := 185) rfl
theorem vm_186 : Cond.constantLong "WideMachine$Values" 23 (-2147483648) ∈ vw_T := List.mem_of_getElem? (i := 186) rfl
theorem vm_187 : Cond.constant "WideMachine$Values" 25 (-2147483648) ∈ vw_T := List.mem_of_getElem? (i := 187) rfl
theorem vm_188 : Cond.methodLink "WideMachine$Values" 7 y_xv_nearestInt ∈ vw_T := List.mem_of_getElem? (i := 188) rfl
theorem vm_189 : Cond.code y_xv_nearestInt b_xv_nearestInt 2 (some .int) ∈ vw_T := List.mem_of_getElem? (i := 189) rfl
theorem vm_190 : Cond.initialized "WideMachine$Values" ∈ vw_T := List.mem_of_getElem? (i := 190) rfl
theorem vm_191 : Cond.static y_xv_nearestInt ∈ vw_T := List.mem_of_getElem? (i := 191) rfl
theorem vm_192 : Cond.methodLink "WideMachine$Values" 13 y_xv_bitsLikeHighest ∈ vw_T := List.mem_of_getElem? (i := 192) rfl
theorem vm_193 : Cond.code y_xv_bitsLikeHighest b_xv_bitsLikeHighest 4 (some .int) ∈ vw_T := List.mem_of_getElem? (i := 193) rfl
theorem vm_194 : Cond.static y_xv_bitsLikeHighest ∈ vw_T := List.mem_of_getElem? (i := 194) rfl
theorem vm_195 : Cond.constant "WideMachine$Values" 17 65535 ∈ vw_T := List.mem_of_getElem? (i := 195) rfl
theorem vm_196 : Cond.constantLong "WideMachine$Values" 18 2 ∈ vw_T := List.mem_of_getElem? (i := 196) rfl
theorem vm_197 : Cond.methodLink "WideMachine" 217 y_xw_number ∈ vw_T := List.mem_of_getElem? (i := 197) rfl
theorem vm_198 : Cond.code y_xw_number b_xw_number 1 (some .int) ∈ vw_T := List.mem_of_getElem? (i := 198) rfl
theorem vm_199 : Cond.static y_xw_number ∈ vw_T := List.mem_of_getElem? (i := 199) rfl
theorem vm_200 : Cond.constant "WideMachine" 220 65536 ∈ vw_T := List.mem_of_getElem? (i := 200) rfl
theorem vm_201 : Cond.methodLink "WideMachine" 205 y_xw_d ∈ vw_T := List.mem_of_getElem? (i := 201) rfl
theorem vm_202 : Cond.constant "WideMachine" 221 65535 ∈ vw_T := List.mem_of_getElem? (i := 202) rfl
theorem vm_203 : Cond.methodLink "WideMachine" 222 y_xm_peek ∈ vw_T := List.mem_of_getElem? (i := 203) rfl
theorem vm_204 : Cond.code y_xm_peek b_xm_peek 2 (some .int) ∈ vw_T := List.mem_of_getElem? (i := 204) rfl
theorem vm_205 : Cond.instanceMethod y_xm_peek ∈ vw_T := List.mem_of_getElem? (i := 205) rfl
theorem vm_206 : Cond.selects "WideMachine" y_xm_peek y_xm_peek ∈ vw_T := List.mem_of_getElem? (i := 206) rfl
theorem vm_207 : Cond.methodLink "WideMachine" 225 y_xw_kind ∈ vw_T := List.mem_of_getElem? (i := 207) rfl
theorem vm_208 : Cond.code y_xw_kind b_xw_kind 1 (some .int) ∈ vw_T := List.mem_of_getElem? (i := 208) rfl
theorem vm_209 : Cond.static y_xw_kind ∈ vw_T := List.mem_of_getElem? (i := 209) rfl
theorem vm_210 : Cond.methodLink "WideMachine" 228 y_xv_ofL ∈ vw_T := List.mem_of_getElem? (i := 210) rfl
theorem vm_211 : Cond.code y_xv_ofL b_xv_ofL 3 (some .int) ∈ vw_T := List.mem_of_getElem? (i := 211) rfl
theorem vm_212 : Cond.static y_xv_ofL ∈ vw_T := List.mem_of_getElem? (i := 212) rfl
theorem vm_213 : Cond.methodLink "WideMachine" 234 y_xv_ofS ∈ vw_T := List.mem_of_getElem? (i := 213) rfl
theorem vm_214 : Cond.code y_xv_ofS b_xv_ofS 3 (some .int) ∈ vw_T := List.mem_of_getElem? (i := 214) rfl
theorem vm_215 : Cond.static y_xv_ofS ∈ vw_T := List.mem_of_getElem? (i := 215) rfl
theorem vm_216 : Cond.methodLink "WideMachine" 237 y_xv_ofM ∈ vw_T := List.mem_of_getElem? (i := 216) rfl
theorem vm_217 : Cond.code y_xv_ofM b_xv_ofM 3 (some .int) ∈ vw_T := List.mem_of_getElem? (i := 217) rfl
theorem vm_218 : Cond.static y_xv_ofM ∈ vw_T := List.mem_of_getElem? (i := 218) rfl
theorem vm_219 : Cond.methodLink "WideMachine" 240 y_xv_ofD ∈ vw_T := List.mem_of_getElem? (i := 219) rfl
theorem vm_220 : Cond.code y_xv_ofD b_xv_ofD 3 (some .int) ∈ vw_T := List.mem_of_getElem? (i := 220) rfl
theorem vm_221 : Cond.static y_xv_ofD ∈ vw_T := List.mem_of_getElem? (i := 221) rfl
theorem vm_222 : Cond.methodLink "WideMachine$Word" 15 y_xw_kind ∈ vw_T := List.mem_of_getElem? (i := 222) rfl
theorem vm_223 : Cond.methodLink "WideMachine" 199 y_xw_target ∈ vw_T := List.mem_of_getElem? (i := 223) rfl
theorem vm_224 : Cond.code y_xw_target b_xw_target 1 (some .int) ∈ vw_T := List.mem_of_getElem? (i := 224) rfl
theorem vm_225 : Cond.static y_xw_target ∈ vw_T := List.mem_of_getElem? (i := 225) rfl
theorem vm_226 : Cond.methodLink "WideMachine" 202 y_xb_add ∈ vw_T := List.mem_of_getElem? (i := 226) rfl
theorem vm_227 : Cond.code y_xb_add b_xb_add 2 none ∈ vw_T := List.mem_of_getElem? (i := 227) rfl
theorem vm_228 : Cond.instanceMethod y_xb_add ∈ vw_T := List.mem_of_getElem? (i := 228) rfl
theorem vm_229 : Cond.selects "WideMachine$Branches" y_xb_add y_xb_add ∈ vw_T := List.mem_of_getElem? (i := 229) rfl
theorem vm_230 : Cond.fieldLink "WideMachine" 58 "WideMachine" "waits" "I" ∈ vw_T := List.mem_of_getElem? (i := 230) rfl
theorem vm_231 : Cond.methodLink "WideMachine" 93 Lib.Math.max.name ∈ vw_T := List.mem_of_getElem? (i := 231) rfl
theorem vm_232 : Cond.static Lib.Math.max.name ∈ vw_T := List.mem_of_getElem? (i := 232) rfl
theorem vm_233 : Cond.initialized "java/lang/Math" ∈ vw_T := List.mem_of_getElem? (i := 233) rfl
theorem vm_234 : Cond.code Lib.Math.max.name Lib.Math.max.code 2 (some .int) ∈ vw_T := List.mem_of_getElem? (i := 234) rfl
theorem vm_235 : Cond.methodLink "WideMachine" 208 y_xm_valueOf ∈ vw_T := List.mem_of_getElem? (i := 235) rfl
theorem vm_236 : Cond.code y_xm_valueOf b_xm_valueOf 5 (some .int) ∈ vw_T := List.mem_of_getElem? (i := 236) rfl
theorem vm_237 : Cond.instanceMethod y_xm_valueOf ∈ vw_T := List.mem_of_getElem? (i := 237) rfl
theorem vm_238 : Cond.selects "WideMachine" y_xm_valueOf y_xm_valueOf ∈ vw_T := List.mem_of_getElem? (i := 238) rfl
theorem vm_239 : Cond.methodLink "WideMachine" 211 y_xw_timeOfWrite ∈ vw_T := List.mem_of_getElem? (i := 239) rfl
theorem vm_240 : Cond.code y_xw_timeOfWrite b_xw_timeOfWrite 1 (some .int) ∈ vw_T := List.mem_of_getElem? (i := 240) rfl
theorem vm_241 : Cond.static y_xw_timeOfWrite ∈ vw_T := List.mem_of_getElem? (i := 241) rfl
theorem vm_242 : Cond.methodLink "WideMachine" 214 y_xq_add ∈ vw_T := List.mem_of_getElem? (i := 242) rfl
theorem vm_243 : Cond.code y_xq_add b_xq_add 4 none ∈ vw_T := List.mem_of_getElem? (i := 243) rfl
theorem vm_244 : Cond.instanceMethod y_xq_add ∈ vw_T := List.mem_of_getElem? (i := 244) rfl
theorem vm_245 : Cond.selects "WideMachine$Writes" y_xq_add y_xq_add ∈ vw_T := List.mem_of_getElem? (i := 245) rfl
theorem vm_246 : Cond.methodLink "WideMachine" 243 y_xm_poke ∈ vw_T := List.mem_of_getElem? (i := 246) rfl
theorem vm_247 : Cond.code y_xm_poke b_xm_poke 3 (some .boolean) ∈ vw_T := List.mem_of_getElem? (i := 247) rfl
theorem vm_248 : Cond.instanceMethod y_xm_poke ∈ vw_T := List.mem_of_getElem? (i := 248) rfl
theorem vm_249 : Cond.selects "WideMachine" y_xm_poke y_xm_poke ∈ vw_T := List.mem_of_getElem? (i := 249) rfl
theorem vm_250 : Cond.methodLink "WideMachine" 193 y_xm_doWord ∈ vw_T := List.mem_of_getElem? (i := 250) rfl
theorem vm_251 : Cond.code y_xm_doWord b_xm_doWord 2 none ∈ vw_T := List.mem_of_getElem? (i := 251) rfl
theorem vm_252 : Cond.instanceMethod y_xm_doWord ∈ vw_T := List.mem_of_getElem? (i := 252) rfl
theorem vm_253 : Cond.selects "WideMachine" y_xm_doWord y_xm_doWord ∈ vw_T := List.mem_of_getElem? (i := 253) rfl
theorem vm_254 : Cond.methodLink "WideMachine" 196 y_xm_doStores ∈ vw_T := List.mem_of_getElem? (i := 254) rfl
theorem vm_255 : Cond.code y_xm_doStores b_xm_doStores 4 none ∈ vw_T := List.mem_of_getElem? (i := 255) rfl
theorem vm_256 : Cond.instanceMethod y_xm_doStores ∈ vw_T := List.mem_of_getElem? (i := 256) rfl
theorem vm_257 : Cond.selects "WideMachine" y_xm_doStores y_xm_doStores ∈ vw_T := List.mem_of_getElem? (i := 257) rfl
theorem vm_258 : Cond.fieldLink "WideMachine" 51 "WideMachine" "cycles" "I" ∈ vw_T := List.mem_of_getElem? (i := 258) rfl
theorem vm_259 : Cond.methodLink "WideMachine" 96 y_xm_landWrites ∈ vw_T := List.mem_of_getElem? (i := 259) rfl
theorem vm_260 : Cond.code y_xm_landWrites b_xm_landWrites 1 none ∈ vw_T := List.mem_of_getElem? (i := 260) rfl
theorem vm_261 : Cond.instanceMethod y_xm_landWrites ∈ vw_T := List.mem_of_getElem? (i := 261) rfl
theorem vm_262 : Cond.selects "WideMachine" y_xm_landWrites y_xm_landWrites ∈ vw_T := List.mem_of_getElem? (i := 262) rfl
theorem vm_263 : Cond.methodLink "WideMachine" 99 y_xm_takeBranch ∈ vw_T := List.mem_of_getElem? (i := 263) rfl
theorem vm_264 : Cond.code y_xm_takeBranch b_xm_takeBranch 2 none ∈ vw_T := List.mem_of_getElem? (i := 264) rfl
theorem vm_265 : Cond.instanceMethod y_xm_takeBranch ∈ vw_T := List.mem_of_getElem? (i := 265) rfl
theorem vm_266 : Cond.selects "WideMachine" y_xm_takeBranch y_xm_takeBranch ∈ vw_T := List.mem_of_getElem? (i := 266) rfl
theorem vm_267 : Cond.methodLink "WideMachine" 102 y_xm_takeInterrupt ∈ vw_T := List.mem_of_getElem? (i := 267) rfl
theorem vm_268 : Cond.code y_xm_takeInterrupt b_xm_takeInterrupt 2 none ∈ vw_T := List.mem_of_getElem? (i := 268) rfl
theorem vm_269 : Cond.instanceMethod y_xm_takeInterrupt ∈ vw_T := List.mem_of_getElem? (i := 269) rfl
theorem vm_270 : Cond.selects "WideMachine" y_xm_takeInterrupt y_xm_takeInterrupt ∈ vw_T := List.mem_of_getElem? (i := 270) rfl
theorem vm_271 : Cond.methodLink "WideMachine" 105 y_xm_endOfPacket ∈ vw_T := List.mem_of_getElem? (i := 271) rfl
theorem vm_272 : Cond.code y_xm_endOfPacket b_xm_endOfPacket 3 (some .int) ∈ vw_T := List.mem_of_getElem? (i := 272) rfl
theorem vm_273 : Cond.instanceMethod y_xm_endOfPacket ∈ vw_T := List.mem_of_getElem? (i := 273) rfl
theorem vm_274 : Cond.selects "WideMachine" y_xm_endOfPacket y_xm_endOfPacket ∈ vw_T := List.mem_of_getElem? (i := 274) rfl
theorem vm_275 : Cond.methodLink "WideMachine" 109 y_xm_faultOfPacket ∈ vw_T := List.mem_of_getElem? (i := 275) rfl
theorem vm_276 : Cond.code y_xm_faultOfPacket b_xm_faultOfPacket 3 (some .int) ∈ vw_T := List.mem_of_getElem? (i := 276) rfl
theorem vm_277 : Cond.instanceMethod y_xm_faultOfPacket ∈ vw_T := List.mem_of_getElem? (i := 277) rfl
theorem vm_278 : Cond.selects "WideMachine" y_xm_faultOfPacket y_xm_faultOfPacket ∈ vw_T := List.mem_of_getElem? (i := 278) rfl
theorem vm_279 : Cond.methodLink "WideMachine" 112 y_xm_doPacket ∈ vw_T := List.mem_of_getElem? (i := 279) rfl
theorem vm_280 : Cond.code y_xm_doPacket b_xm_doPacket 3 none ∈ vw_T := List.mem_of_getElem? (i := 280) rfl
theorem vm_281 : Cond.instanceMethod y_xm_doPacket ∈ vw_T := List.mem_of_getElem? (i := 281) rfl
theorem vm_282 : Cond.selects "WideMachine" y_xm_doPacket y_xm_doPacket ∈ vw_T := List.mem_of_getElem? (i := 282) rfl
theorem vm_283 : Cond.methodLink "WideMachine" 45 y_xm_doCycle ∈ vw_T := List.mem_of_getElem? (i := 283) rfl
theorem vm_284 : Cond.code y_xm_doCycle b_xm_doCycle 2 none ∈ vw_T := List.mem_of_getElem? (i := 284) rfl
theorem vm_285 : Cond.instanceMethod y_xm_doCycle ∈ vw_T := List.mem_of_getElem? (i := 285) rfl
theorem vm_286 : Cond.selects "WideMachine" y_xm_doCycle y_xm_doCycle ∈ vw_T := List.mem_of_getElem? (i := 286) rfl
theorem vm_287 : Cond.fieldLink "WideMachine" 54 "WideMachine$Writes" "count" "I" ∈ vw_T := List.mem_of_getElem? (i := 287) rfl
theorem vm_288 : Cond.fieldLink "WideMachine" 71 "WideMachine$Writes" "targets" "[I" ∈ vw_T := List.mem_of_getElem? (i := 288) rfl
theorem vm_289 : Cond.fieldLink "WideMachine" 74 "WideMachine$Writes" "values" "[I" ∈ vw_T := List.mem_of_getElem? (i := 289) rfl
theorem vm_290 : Cond.fieldLink "WideMachine" 77 "WideMachine$Writes" "times" "[I" ∈ vw_T := List.mem_of_getElem? (i := 290) rfl
theorem vm_291 : Cond.methodLink "WideMachine" 83 y_xq_clear ∈ vw_T := List.mem_of_getElem? (i := 291) rfl
theorem vm_292 : Cond.code y_xq_clear b_xq_clear 1 none ∈ vw_T := List.mem_of_getElem? (i := 292) rfl
theorem vm_293 : Cond.instanceMethod y_xq_clear ∈ vw_T := List.mem_of_getElem? (i := 293) rfl
theorem vm_294 : Cond.selects "WideMachine$Writes" y_xq_clear y_xq_clear ∈ vw_T := List.mem_of_getElem? (i := 294) rfl
theorem vm_295 : Cond.methodLink "WideMachine" 86 y_xb_clear ∈ vw_T := List.mem_of_getElem? (i := 295) rfl
theorem vm_296 : Cond.code y_xb_clear b_xb_clear 1 none ∈ vw_T := List.mem_of_getElem? (i := 296) rfl
theorem vm_297 : Cond.instanceMethod y_xb_clear ∈ vw_T := List.mem_of_getElem? (i := 297) rfl
theorem vm_298 : Cond.selects "WideMachine$Branches" y_xb_clear y_xb_clear ∈ vw_T := List.mem_of_getElem? (i := 298) rfl
theorem vm_299 : Cond.methodLink "WideMachine" 87 Lib.Math.min.name ∈ vw_T := List.mem_of_getElem? (i := 299) rfl
theorem vm_300 : Cond.static Lib.Math.min.name ∈ vw_T := List.mem_of_getElem? (i := 300) rfl
theorem vm_301 : Cond.code Lib.Math.min.name Lib.Math.min.code 2 (some .int) ∈ vw_T := List.mem_of_getElem? (i := 301) rfl
theorem vm_302 : Cond.fieldLink "WideMachineModel" 47 "WideMachineModel" "thrown" "I" ∈ vw_T := List.mem_of_getElem? (i := 302) rfl
theorem vm_303 : Cond.fieldLink "WideMachineModel" 40 "WideMachineModel" "words" "I" ∈ vw_T := List.mem_of_getElem? (i := 303) rfl
theorem vm_304 : Cond.fieldLink "WideMachineModel" 7 "WideMachineModel" "program" "[I" ∈ vw_T := List.mem_of_getElem? (i := 304) rfl
theorem vm_305 : Cond.fieldLink "WideMachineModel" 44 "WideMachineModel" "size" "I" ∈ vw_T := List.mem_of_getElem? (i := 305) rfl
theorem vm_306 : Cond.fieldLink "WideMachineModel" 13 "WideMachineModel" "data" "[I" ∈ vw_T := List.mem_of_getElem? (i := 306) rfl
theorem vm_307 : Cond.fieldLink "WideMachineModel" 16 "WideMachineModel" "registers" "[I" ∈ vw_T := List.mem_of_getElem? (i := 307) rfl
theorem vm_308 : Cond.fieldLink "WideMachineModel" 50 "WideMachineModel" "state" "I" ∈ vw_T := List.mem_of_getElem? (i := 308) rfl
theorem vm_309 : Cond.fieldLink "WideMachineModel" 53 "WideMachineModel" "address" "I" ∈ vw_T := List.mem_of_getElem? (i := 309) rfl
theorem vm_310 : Cond.fieldLink "WideMachineModel" 56 "WideMachineModel" "cycles" "I" ∈ vw_T := List.mem_of_getElem? (i := 310) rfl
theorem vm_311 : Cond.fieldLink "WideMachineModel" 59 "WideMachineModel" "writes" "I" ∈ vw_T := List.mem_of_getElem? (i := 311) rfl
theorem vm_312 : Cond.fieldLink "WideMachineModel" 62 "WideMachineModel" "branches" "I" ∈ vw_T := List.mem_of_getElem? (i := 312) rfl
theorem vm_313 : Cond.fieldLink "WideMachineModel" 65 "WideMachineModel" "wait" "I" ∈ vw_T := List.mem_of_getElem? (i := 313) rfl
theorem vm_314 : Cond.fieldLink "WideMachineModel" 68 "WideMachineModel" "back" "I" ∈ vw_T := List.mem_of_getElem? (i := 314) rfl
theorem vm_315 : Cond.fieldLink "WideMachineModel" 71 "WideMachineModel" "letIn" "Z" ∈ vw_T := List.mem_of_getElem? (i := 315) rfl
theorem vm_316 : Cond.fieldLink "WideMachineModel" 75 "WideMachineModel" "raised" "I" ∈ vw_T := List.mem_of_getElem? (i := 316) rfl
theorem vm_317 : Cond.fieldLink "WideMachineModel" 19 "WideMachineModel" "register" "[I" ∈ vw_T := List.mem_of_getElem? (i := 317) rfl
theorem vm_318 : Cond.fieldLink "WideMachineModel" 22 "WideMachineModel" "value" "[I" ∈ vw_T := List.mem_of_getElem? (i := 318) rfl
theorem vm_319 : Cond.fieldLink "WideMachineModel" 25 "WideMachineModel" "when" "[I" ∈ vw_T := List.mem_of_getElem? (i := 319) rfl
theorem vm_320 : Cond.fieldLink "WideMachineModel" 31 "WideMachineModel" "goes" "[I" ∈ vw_T := List.mem_of_getElem? (i := 320) rfl
theorem vm_321 : Cond.fieldLink "WideMachineModel" 28 "WideMachineModel" "target" "[I" ∈ vw_T := List.mem_of_getElem? (i := 321) rfl
theorem vm_322 : Cond.methodLink "WideMachineModel" 81 y_mm_kind ∈ vw_T := List.mem_of_getElem? (i := 322) rfl
theorem vm_323 : Cond.code y_mm_kind b_mm_kind 1 (some .int) ∈ vw_T := List.mem_of_getElem? (i := 323) rfl
theorem vm_324 : Cond.initialized "WideMachineModel" ∈ vw_T := List.mem_of_getElem? (i := 324) rfl
theorem vm_325 : Cond.static y_mm_kind ∈ vw_T := List.mem_of_getElem? (i := 325) rfl
theorem vm_326 : Cond.methodLink "WideMachineModel" 85 y_mm_operation ∈ vw_T := List.mem_of_getElem? (i := 326) rfl
theorem vm_327 : Cond.code y_mm_operation b_mm_operation 1 (some .int) ∈ vw_T := List.mem_of_getElem? (i := 327) rfl
theorem vm_328 : Cond.static y_mm_operation ∈ vw_T := List.mem_of_getElem? (i := 328) rfl
theorem vm_329 : Cond.methodLink "WideMachineModel" 88 y_mm_isS ∈ vw_T := List.mem_of_getElem? (i := 329) rfl
theorem vm_330 : Cond.code y_mm_isS b_mm_isS 3 (some .boolean) ∈ vw_T := List.mem_of_getElem? (i := 330) rfl
theorem vm_331 : Cond.static y_mm_isS ∈ vw_T := List.mem_of_getElem? (i := 331) rfl
theorem vm_332 : Cond.methodLink "WideMachineModel" 92 y_mm_unit ∈ vw_T := List.mem_of_getElem? (i := 332) rfl
theorem vm_333 : Cond.code y_mm_unit b_mm_unit 1 (some .int) ∈ vw_T := List.mem_of_getElem? (i := 333) rfl
theorem vm_334 : Cond.static y_mm_unit ∈ vw_T := List.mem_of_getElem? (i := 334) rfl
theorem vm_335 : Cond.methodLink "WideMachineModel" 95 y_mm_condition ∈ vw_T := List.mem_of_getElem? (i := 335) rfl
theorem vm_336 : Cond.code y_mm_condition b_mm_condition 1 (some .int) ∈ vw_T := List.mem_of_getElem? (i := 336) rfl
theorem vm_337 : Cond.static y_mm_condition ∈ vw_T := List.mem_of_getElem? (i := 337) rfl
theorem vm_338 : Cond.methodLink "WideMachineModel" 98 y_mm_hasD ∈ vw_T := List.mem_of_getElem? (i := 338) rfl
theorem vm_339 : Cond.code y_mm_hasD b_mm_hasD 1 (some .boolean) ∈ vw_T := List.mem_of_getElem? (i := 339) rfl
theorem vm_340 : Cond.static y_mm_hasD ∈ vw_T := List.mem_of_getElem? (i := 340) rfl
theorem vm_341 : Cond.methodLink "WideMachineModel" 102 y_mm_d ∈ vw_T := List.mem_of_getElem? (i := 341) rfl
theorem vm_342 : Cond.code y_mm_d b_mm_d 1 (some .int) ∈ vw_T := List.mem_of_getElem? (i := 342) rfl
theorem vm_343 : Cond.static y_mm_d ∈ vw_T := List.mem_of_getElem? (i := 343) rfl
theorem vm_344 : Cond.methodLink "WideMachineModel" 105 y_mm_isOther ∈ vw_T := List.mem_of_getElem? (i := 344) rfl
theorem vm_345 : Cond.code y_mm_isOther b_mm_isOther 2 (some .boolean) ∈ vw_T := List.mem_of_getElem? (i := 345) rfl
theorem vm_346 : Cond.static y_mm_isOther ∈ vw_T := List.mem_of_getElem? (i := 346) rfl
theorem vm_347 : Cond.methodLink "WideMachineModel" 109 y_mm_hasA ∈ vw_T := List.mem_of_getElem? (i := 347) rfl
theorem vm_348 : Cond.code y_mm_hasA b_mm_hasA 1 (some .boolean) ∈ vw_T := List.mem_of_getElem? (i := 348) rfl
theorem vm_349 : Cond.static y_mm_hasA ∈ vw_T := List.mem_of_getElem? (i := 349) rfl
theorem vm_350 : Cond.methodLink "WideMachineModel" 112 y_mm_a ∈ vw_T := List.mem_of_getElem? (i := 350) rfl
theorem vm_351 : Cond.code y_mm_a b_mm_a 1 (some .int) ∈ vw_T := List.mem_of_getElem? (i := 351) rfl
theorem vm_352 : Cond.static y_mm_a ∈ vw_T := List.mem_of_getElem? (i := 352) rfl
theorem vm_353 : Cond.methodLink "WideMachineModel" 138 y_mm_isNumber ∈ vw_T := List.mem_of_getElem? (i := 353) rfl
theorem vm_354 : Cond.code y_mm_isNumber b_mm_isNumber 1 (some .boolean) ∈ vw_T := List.mem_of_getElem? (i := 354) rfl
theorem vm_355 : Cond.static y_mm_isNumber ∈ vw_T := List.mem_of_getElem? (i := 355) rfl
theorem vm_356 : Cond.methodLink "WideMachineModel" 141 y_mm_b ∈ vw_T := List.mem_of_getElem? (i := 356) rfl
theorem vm_357 : Cond.code y_mm_b b_mm_b 1 (some .int) ∈ vw_T := List.mem_of_getElem? (i := 357) rfl
theorem vm_358 : Cond.static y_mm_b ∈ vw_T := List.mem_of_getElem? (i := 358) rfl
theorem vm_359 : Cond.methodLink "WideMachineModel" 166 y_mm_second ∈ vw_T := List.mem_of_getElem? (i := 359) rfl
theorem vm_360 : Cond.code y_mm_second b_mm_second 2 (some .int) ∈ vw_T := List.mem_of_getElem? (i := 360) rfl
theorem vm_361 : Cond.instanceMethod y_mm_second ∈ vw_T := List.mem_of_getElem? (i := 361) rfl
theorem vm_362 : Cond.selects "WideMachineModel" y_mm_second y_mm_second ∈ vw_T := List.mem_of_getElem? (i := 362) rfl
theorem vm_363 : Cond.methodLink "WideMachineModel" 132 y_mm_isIll ∈ vw_T := List.mem_of_getElem? (i := 363) rfl
theorem vm_364 : Cond.code y_mm_isIll b_mm_isIll 4 (some .boolean) ∈ vw_T := List.mem_of_getElem? (i := 364) rfl
theorem vm_365 : Cond.static y_mm_isIll ∈ vw_T := List.mem_of_getElem? (i := 365) rfl
theorem vm_366 : Cond.methodLink "WideMachineModel" 135 y_mm_hasB ∈ vw_T := List.mem_of_getElem? (i := 366) rfl
theorem vm_367 : Cond.code y_mm_hasB b_mm_hasB 1 (some .boolean) ∈ vw_T := List.mem_of_getElem? (i := 367) rfl
theorem vm_368 : Cond.static y_mm_hasB ∈ vw_T := List.mem_of_getElem? (i := 368) rfl
theorem vm_369 : Cond.methodLink "WideMachineModel" 144 y_mm_isDone ∈ vw_T := List.mem_of_getElem? (i := 369) rfl
theorem vm_370 : Cond.code y_mm_isDone b_mm_isDone 4 (some .boolean) ∈ vw_T := List.mem_of_getElem? (i := 370) rfl
theorem vm_371 : Cond.instanceMethod y_mm_isDone ∈ vw_T := List.mem_of_getElem? (i := 371) rfl
theorem vm_372 : Cond.selects "WideMachineModel" y_mm_isDone y_mm_isDone ∈ vw_T := List.mem_of_getElem? (i := 372) rfl
theorem vm_373 : Cond.methodLink "WideMachineModel" 147 y_mm_reaches ∈ vw_T := List.mem_of_getElem? (i := 373) rfl
theorem vm_374 : Cond.code y_mm_reaches b_mm_reaches 3 (some .boolean) ∈ vw_T := List.mem_of_getElem? (i := 374) rfl
theorem vm_375 : Cond.instanceMethod y_mm_reaches ∈ vw_T := List.mem_of_getElem? (i := 375) rfl
theorem vm_376 : Cond.selects "WideMachineModel" y_mm_reaches y_mm_reaches ∈ vw_T := List.mem_of_getElem? (i := 376) rfl
theorem vm_377 : Cond.methodLink "WideMachineModel" 162 y_mm_write ∈ vw_T := List.mem_of_getElem? (i := 377) rfl
theorem vm_378 : Cond.code y_mm_write b_mm_write 4 none ∈ vw_T := List.mem_of_getElem? (i := 378) rfl
theorem vm_379 : Cond.instanceMethod y_mm_write ∈ vw_T := List.mem_of_getElem? (i := 379) rfl
theorem vm_380 : Cond.selects "WideMachineModel" y_mm_write y_mm_write ∈ vw_T := List.mem_of_getElem? (i := 380) rfl
theorem vm_381 : Cond.fieldLink "WideMachineModel" 34 "WideMachineModel" "where" "[I" ∈ vw_T := List.mem_of_getElem? (i := 381) rfl
theorem vm_382 : Cond.fieldLink "WideMachineModel" 150 "WideMachineModel" "stores" "I" ∈ vw_T := List.mem_of_getElem? (i := 382) rfl
theorem vm_383 : Cond.fieldLink "WideMachineModel" 37 "WideMachineModel" "what" "[I" ∈ vw_T := List.mem_of_getElem? (i := 383) rfl
theorem vm_384 : Cond.constantLong "WideMachineModel" 179 2147483647 ∈ vw_T := List.mem_of_getElem? (i := 384) rfl
theorem vm_385 : Cond.constant "WideMachineModel" 181 2147483647 ∈ vw_T := List.mem_of_getElem? (i := 385) rfl
theorem vm_386 : Cond.constantLong "WideMachineModel" 182 (-2147483648) ∈ vw_T := List.mem_of_getElem? (i := 386) rfl
theorem vm_387 : Cond.constant "WideMachineModel" 184 (-2147483648) ∈ vw_T := List.mem_of_getElem? (i := 387) rfl
theorem vm_388 : Cond.constant "WideMachineModel" 185 65535 ∈ vw_T := List.mem_of_getElem? (i := 388) rfl
theorem vm_389 : Cond.constant "WideMachineModel" 186 1073741824 ∈ vw_T := List.mem_of_getElem? (i := 389) rfl
theorem vm_390 : Cond.methodLink "WideMachineModel" 169 y_mm_logic ∈ vw_T := List.mem_of_getElem? (i := 390) rfl
theorem vm_391 : Cond.code y_mm_logic b_mm_logic 5 (some .int) ∈ vw_T := List.mem_of_getElem? (i := 391) rfl
theorem vm_392 : Cond.static y_mm_logic ∈ vw_T := List.mem_of_getElem? (i := 392) rfl
theorem vm_393 : Cond.methodLink "WideMachineModel" 173 y_mm_shift ∈ vw_T := List.mem_of_getElem? (i := 393) rfl
theorem vm_394 : Cond.code y_mm_shift b_mm_shift 5 (some .int) ∈ vw_T := List.mem_of_getElem? (i := 394) rfl
theorem vm_395 : Cond.instanceMethod y_mm_shift ∈ vw_T := List.mem_of_getElem? (i := 395) rfl
theorem vm_396 : Cond.selects "WideMachineModel" y_mm_shift y_mm_shift ∈ vw_T := List.mem_of_getElem? (i := 396) rfl
theorem vm_397 : Cond.methodLink "WideMachineModel" 176 y_mm_product ∈ vw_T := List.mem_of_getElem? (i := 397) rfl
theorem vm_398 : Cond.code y_mm_product b_mm_product 4 (some .int) ∈ vw_T := List.mem_of_getElem? (i := 398) rfl
theorem vm_399 : Cond.static y_mm_product ∈ vw_T := List.mem_of_getElem? (i := 399) rfl
theorem vm_400 : Cond.methodLink "WideMachineModel" 153 y_mm_controls ∈ vw_T := List.mem_of_getElem? (i := 400) rfl
theorem vm_401 : Cond.code y_mm_controls b_mm_controls 4 none ∈ vw_T := List.mem_of_getElem? (i := 401) rfl
theorem vm_402 : Cond.instanceMethod y_mm_controls ∈ vw_T := List.mem_of_getElem? (i := 402) rfl
theorem vm_403 : Cond.selects "WideMachineModel" y_mm_controls y_mm_controls ∈ vw_T := List.mem_of_getElem? (i := 403) rfl
theorem vm_404 : Cond.methodLink "WideMachineModel" 156 y_mm_meets ∈ vw_T := List.mem_of_getElem? (i := 404) rfl
theorem vm_405 : Cond.code y_mm_meets b_mm_meets 3 none ∈ vw_T := List.mem_of_getElem? (i := 405) rfl
theorem vm_406 : Cond.instanceMethod y_mm_meets ∈ vw_T := List.mem_of_getElem? (i := 406) rfl
theorem vm_407 : Cond.selects "WideMachineModel" y_mm_meets y_mm_meets ∈ vw_T := List.mem_of_getElem? (i := 407) rfl
theorem vm_408 : Cond.methodLink "WideMachineModel" 159 y_mm_works ∈ vw_T := List.mem_of_getElem? (i := 408) rfl
theorem vm_409 : Cond.code y_mm_works b_mm_works 5 (some .int) ∈ vw_T := List.mem_of_getElem? (i := 409) rfl
theorem vm_410 : Cond.instanceMethod y_mm_works ∈ vw_T := List.mem_of_getElem? (i := 410) rfl
theorem vm_411 : Cond.selects "WideMachineModel" y_mm_works y_mm_works ∈ vw_T := List.mem_of_getElem? (i := 411) rfl
theorem vm_412 : Cond.methodLink "WideMachineModel" 115 y_mm_lands ∈ vw_T := List.mem_of_getElem? (i := 412) rfl
theorem vm_413 : Cond.code y_mm_lands b_mm_lands 3 (some .int) ∈ vw_T := List.mem_of_getElem? (i := 413) rfl
theorem vm_414 : Cond.instanceMethod y_mm_lands ∈ vw_T := List.mem_of_getElem? (i := 414) rfl
theorem vm_415 : Cond.selects "WideMachineModel" y_mm_lands y_mm_lands ∈ vw_T := List.mem_of_getElem? (i := 415) rfl
theorem vm_416 : Cond.methodLink "WideMachineModel" 119 y_mm_arrives ∈ vw_T := List.mem_of_getElem? (i := 416) rfl
theorem vm_417 : Cond.code y_mm_arrives b_mm_arrives 3 (some .int) ∈ vw_T := List.mem_of_getElem? (i := 417) rfl
theorem vm_418 : Cond.instanceMethod y_mm_arrives ∈ vw_T := List.mem_of_getElem? (i := 418) rfl
theorem vm_419 : Cond.selects "WideMachineModel" y_mm_arrives y_mm_arrives ∈ vw_T := List.mem_of_getElem? (i := 419) rfl
theorem vm_420 : Cond.methodLink "WideMachineModel" 122 y_mm_interrupts ∈ vw_T := List.mem_of_getElem? (i := 420) rfl
theorem vm_421 : Cond.code y_mm_interrupts b_mm_interrupts 2 none ∈ vw_T := List.mem_of_getElem? (i := 421) rfl
theorem vm_422 : Cond.instanceMethod y_mm_interrupts ∈ vw_T := List.mem_of_getElem? (i := 422) rfl
theorem vm_423 : Cond.selects "WideMachineModel" y_mm_interrupts y_mm_interrupts ∈ vw_T := List.mem_of_getElem? (i := 423) rfl
theorem vm_424 : Cond.methodLink "WideMachineModel" 125 y_mm_wrong ∈ vw_T := List.mem_of_getElem? (i := 424) rfl
theorem vm_425 : Cond.code y_mm_wrong b_mm_wrong 6 (some .int) ∈ vw_T := List.mem_of_getElem? (i := 425) rfl
theorem vm_426 : Cond.instanceMethod y_mm_wrong ∈ vw_T := List.mem_of_getElem? (i := 426) rfl
theorem vm_427 : Cond.selects "WideMachineModel" y_mm_wrong y_mm_wrong ∈ vw_T := List.mem_of_getElem? (i := 427) rfl
theorem vm_428 : Cond.methodLink "WideMachineModel" 128 y_mm_packet ∈ vw_T := List.mem_of_getElem? (i := 428) rfl
theorem vm_429 : Cond.code y_mm_packet b_mm_packet 5 none ∈ vw_T := List.mem_of_getElem? (i := 429) rfl
theorem vm_430 : Cond.instanceMethod y_mm_packet ∈ vw_T := List.mem_of_getElem? (i := 430) rfl
theorem vm_431 : Cond.selects "WideMachineModel" y_mm_packet y_mm_packet ∈ vw_T := List.mem_of_getElem? (i := 431) rfl
theorem vm_432 : Cond.methodLink "WideMachineModel" 78 y_mm_cycle ∈ vw_T := List.mem_of_getElem? (i := 432) rfl
theorem vm_433 : Cond.code y_mm_cycle b_mm_cycle 3 none ∈ vw_T := List.mem_of_getElem? (i := 433) rfl
theorem vm_434 : Cond.instanceMethod y_mm_cycle ∈ vw_T := List.mem_of_getElem? (i := 434) rfl
theorem vm_435 : Cond.selects "WideMachineModel" y_mm_cycle y_mm_cycle ∈ vw_T := List.mem_of_getElem? (i := 435) rfl
theorem vw_G : GoodIn vw_T vw_T := fun w hw => ⟨hw, Or.inl (List.all_eq_true.mp (by decide +kernel : vw_T.all (fun w => w.onTables && w.keeps) = true) w hw)⟩
theorem ui_0 : ∀ w ∈ u_ws "WideMachine" ff_0 12, w ∈ vw_T := by decide +kernel
theorem ui_1 : ∀ w ∈ u_ws "WideMachine$Writes" ff_1 4, w ∈ vw_T := by decide +kernel
theorem ui_2 : ∀ w ∈ u_ws "WideMachine$Branches" ff_2 3, w ∈ vw_T := by decide +kernel
theorem ui_3 : ∀ w ∈ u_ws "WideMachineModel" ff_3 23, w ∈ vw_T := by decide +kernel
end
section
/-! a small machine: values, worlds, transformers; each instruction's soundness by the kit's rows -/
abbrev mx_V : Type := Int32 ⊕ Int64 ⊕ Nat
abbrev mx_S : Type := (Nat → Nat → Int32) × (Nat → Nat → Int32)
abbrev mx_K : Type := List ((Nat × List (Option Nat)) ⊕ Nat)
abbrev mx_PG (σ : Type) : Type := Nat → List (Nat × mx_V) → List mx_V → σ → Prop
abbrev mx_RG (σ : Type) : Type := Option mx_V → σ → Prop
abbrev mx_TG (σ : Type) : Type := List (Nat × mx_V) → List mx_V → σ → mx_PG σ → mx_RG σ → Prop
abbrev mx_FG (σ : Type) : Type := List mx_V → σ → Option mx_V × σ
abbrev mx_P : Type := mx_PG mx_S
abbrev mx_R : Type := mx_RG mx_S
abbrev mx_T : Type := mx_TG mx_S
abbrev mx_F : Type := mx_FG mx_S
def mx_c (ad : Nat → Nat) (v : mx_V) : Value := match v with
  | .inl x => .int x
  | .inr (.inl y) => .long y
  | .inr (.inr k) => .ref (ad k)
def mx_cat (v : mx_V) : Nat := match v with
  | .inl _ => 1
  | .inr (.inl _) => 2
  | .inr (.inr _) => 1
theorem mx_cat_eq (ad : Nat → Nat) (v : mx_V) : (mx_c ad v).category = mx_cat v := by
  rcases v with x | y | k <;> rfl
def mx_lc (ad : Nat → Nat) (q : Nat × mx_V) : Nat × Value := (q.1, mx_c ad q.2)
/-- a state's reads and writes: an int field j of the cell k; the place i of the array k -/
def mx_gf (u : mx_S) (k j : Nat) : Int32 := u.1 k j
def mx_ga (u : mx_S) (k i : Nat) : Int32 := u.2 k i
def mx_sf (u : mx_S) (k j : Nat) (v : Int32) : mx_S := (fun a b => if a = k then (if b = j then v else u.1 a b) else u.1 a b, u.2)
def mx_sa (u : mx_S) (k i : Nat) (v : Int32) : mx_S := (u.1, fun a b => if a = k then (if b = i then v else u.2 a b) else u.2 a b)
def mx_fs (ad : Nat → Nat) (g : Nat → Int32) : Nat → List (Option Nat) → List Value
  | _, [] => []
  | j, some k :: r => .ref (ad k) :: mx_fs ad g (j + 1) r
  | j, none :: r => .int (g j) :: mx_fs ad g (j + 1) r
def mx_cell (ad : Nat → Nat) (cA : ClassId) (u : mx_S) (k : Nat) (q : (Nat × List (Option Nat)) ⊕ Nat) : Nat × va_E := (ad k, match q with
  | .inl q => .inr (q.1, mx_fs ad (u.1 k) 0 q.2)
  | .inr n => .inl (cA, n, .inl (u.2 k)))
def mx_w (ad : Nat → Nat) (cA : ClassId) (u : mx_S) : Nat → mx_K → va_W
  | _, [] => []
  | k, q :: r => mx_cell ad cA u k q :: mx_w ad cA u (k + 1) r
theorem mx_fs_len (ad : Nat → Nat) (g : Nat → Int32) : ∀ (fs : List (Option Nat)) (i : Nat), (mx_fs ad g i fs).length = fs.length
  | [], _ => rfl
  | some _ :: r, i => by simp [mx_fs, mx_fs_len ad g r (i + 1)]
  | none :: r, i => by simp [mx_fs, mx_fs_len ad g r (i + 1)]
theorem mx_fs_int (ad : Nat → Nat) (g : Nat → Int32) : ∀ (fs : List (Option Nat)) (i j : Nat), fs[j]? = some none → (mx_fs ad g i fs)[j]? = some (.int (g (i + j)))
  | [], _, _, h => by simp at h
  | a :: r, i, 0, h => by
    simp at h
    subst h
    rfl
  | a :: r, i, j + 1, h => by
    have h1 := mx_fs_int ad g r (i + 1) j (by simpa using h)
    rw [show i + 1 + j = i + (j + 1) by omega] at h1
    cases a <;> simpa [mx_fs] using h1
theorem mx_fs_ref (ad : Nat → Nat) (g : Nat → Int32) : ∀ (fs : List (Option Nat)) (i j k : Nat), fs[j]? = some (some k) → (mx_fs ad g i fs)[j]? = some (.ref (ad k))
  | [], _, _, _, h => by simp at h
  | a :: r, i, 0, k, h => by
    simp at h
    subst h
    rfl
  | a :: r, i, j + 1, k, h => by
    have h1 := mx_fs_ref ad g r (i + 1) j k (by simpa using h)
    cases a <;> simpa [mx_fs] using h1
theorem mx_fs_set (ad : Nat → Nat) (g : Nat → Int32) (fs : List (Option Nat)) (j : Nat) (v : Int32) (h : fs[j]? = some none) : (mx_fs ad g 0 fs).set j (.int v) = mx_fs ad (fun b => if b = j then v else g b) 0 fs := by
  have hl := (List.getElem?_eq_some_iff.mp h).1
  apply List.ext_getElem?
  intro n
  by_cases hn : n = j
  · subst hn
    rw [List.getElem?_set_self (by rw [mx_fs_len]; exact hl), mx_fs_int ad _ fs 0 n h, if_pos (Nat.zero_add n)]
  · rw [List.getElem?_set_ne (Ne.symm hn)]
    cases ho : fs[n]? with
    | none =>
      have h2 := List.getElem?_eq_none_iff.mp ho
      rw [List.getElem?_eq_none (by rw [mx_fs_len]; exact h2), List.getElem?_eq_none (by rw [mx_fs_len]; exact h2)]
    | some o =>
      cases o with
      | none => rw [mx_fs_int ad _ fs 0 n ho, mx_fs_int ad _ fs 0 n ho, if_neg (by rw [Nat.zero_add]; exact hn)]
      | some k => rw [mx_fs_ref ad _ fs 0 n k ho, mx_fs_ref ad _ fs 0 n k ho]
theorem mx_w_len (ad : Nat → Nat) (cA : ClassId) (u : mx_S) : ∀ (sk : mx_K) (i : Nat), (mx_w ad cA u i sk).length = sk.length
  | [], _ => rfl
  | _ :: r, i => by simp [mx_w, mx_w_len ad cA u r (i + 1)]
theorem mx_w_get (ad : Nat → Nat) (cA : ClassId) (u : mx_S) : ∀ (sk : mx_K) (i k : Nat) (q : (Nat × List (Option Nat)) ⊕ Nat), sk[k]? = some q → (mx_w ad cA u i sk)[k]? = some (mx_cell ad cA u (i + k) q)
  | [], _, _, _, h => by simp at h
  | a :: r, i, 0, q, h => by
    simp at h
    subst h
    rfl
  | a :: r, i, k + 1, q, h => by
    have h1 := mx_w_get ad cA u r (i + 1) k q (by simpa using h)
    rw [show i + 1 + k = i + (k + 1) by omega] at h1
    simpa [mx_w] using h1
theorem mx_w_at (ad : Nat → Nat) (cA : ClassId) (u : mx_S) (sk : mx_K) {k : Nat} {q : (Nat × List (Option Nat)) ⊕ Nat} (h : sk[k]? = some q) : (mx_w ad cA u 0 sk)[k]? = some (mx_cell ad cA u k q) := by
  have h1 := mx_w_get ad cA u sk 0 k q h
  rwa [Nat.zero_add] at h1
theorem mx_w_inv (ad : Nat → Nat) (cA : ClassId) (u : mx_S) (sk : mx_K) {k : Nat} {q : Nat × va_E} (h : (mx_w ad cA u 0 sk)[k]? = some q) : ∃ x, sk[k]? = some x ∧ q = mx_cell ad cA u k x := by
  have hl := (List.getElem?_eq_some_iff.mp h).1
  rw [mx_w_len] at hl
  refine ⟨sk[k], List.getElem?_eq_getElem hl, ?_⟩
  rw [mx_w_at ad cA u sk (List.getElem?_eq_getElem hl)] at h
  exact (Option.some.inj h).symm
theorem mx_w_sf (ad : Nat → Nat) (cA : ClassId) (u : mx_S) (sk : mx_K) {k j : Nat} (v : Int32) {q : Nat × List (Option Nat)} (h : sk[k]? = some (.inl q)) (hj : q.2[j]? = some none) :
    (mx_w ad cA u 0 sk).set k (ad k, .inr (q.1, (mx_fs ad (u.1 k) 0 q.2).set j (.int v))) = mx_w ad cA (mx_sf u k j v) 0 sk := by
  have hl := (List.getElem?_eq_some_iff.mp h).1
  apply List.ext_getElem?
  intro n
  by_cases hn : n = k
  · subst hn
    rw [List.getElem?_set_self (by rw [mx_w_len]; exact hl), mx_w_at ad cA _ sk h, mx_fs_set ad _ _ _ v hj]
    have e : (mx_sf u n j v).1 n = fun b => if b = j then v else u.1 n b := by
      funext b
      simp [mx_sf]
    simp only [mx_cell, e]
  · rw [List.getElem?_set_ne (Ne.symm hn)]
    cases ho : sk[n]? with
    | none =>
      have h2 := List.getElem?_eq_none_iff.mp ho
      rw [List.getElem?_eq_none (by rw [mx_w_len]; exact h2), List.getElem?_eq_none (by rw [mx_w_len]; exact h2)]
    | some o =>
      rw [mx_w_at ad cA _ sk ho, mx_w_at ad cA _ sk ho]
      have e : (mx_sf u k j v).1 n = u.1 n := by
        funext b
        simp [mx_sf, hn]
      cases o with
      | inl x => simp only [mx_cell, e]
      | inr x => simp only [mx_cell, mx_sf]
theorem mx_w_sa (ad : Nat → Nat) (cA : ClassId) (u : mx_S) (sk : mx_K) {k i n0 : Nat} (v : Int32) (h : sk[k]? = some (.inr n0)) :
    (mx_w ad cA u 0 sk).set k (ad k, .inl (cA, n0, .inl (upd (u.2 k) i v))) = mx_w ad cA (mx_sa u k i v) 0 sk := by
  have hl := (List.getElem?_eq_some_iff.mp h).1
  apply List.ext_getElem?
  intro n
  by_cases hn : n = k
  · subst hn
    rw [List.getElem?_set_self (by rw [mx_w_len]; exact hl), mx_w_at ad cA _ sk h]
    have e : (mx_sa u n i v).2 n = upd (u.2 n) i v := by
      funext b
      simp [mx_sa, upd]
    simp only [mx_cell, e]
  · rw [List.getElem?_set_ne (Ne.symm hn)]
    cases ho : sk[n]? with
    | none =>
      have h2 := List.getElem?_eq_none_iff.mp ho
      rw [List.getElem?_eq_none (by rw [mx_w_len]; exact h2), List.getElem?_eq_none (by rw [mx_w_len]; exact h2)]
    | some o =>
      rw [mx_w_at ad cA _ sk ho, mx_w_at ad cA _ sk ho]
      have e : (mx_sa u k i v).2 n = u.2 n := by
        funext b
        simp [mx_sa, hn]
      cases o with
      | inl x => simp only [mx_cell, mx_sa]
      | inr x => simp only [mx_cell, e]
/-- the cells that a method may change: the world's, and new ones -/
def mx_A (ad : Nat → Nat) (n sz : Nat) : Nat → Prop := fun q => (∃ k, k < n ∧ q = ad k) ∨ sz ≤ q
theorem mx_D {A : Nat → Prop} {ad : Nat → Nat} {cA : ClassId} {u : mx_S} (u' : mx_S) {sk : mx_K} (h : va_D A (mx_w ad cA u 0 sk)) : va_D A (mx_w ad cA u' 0 sk) := by
  refine ⟨fun i j x y hi hj hxy => ?_, fun k q hk => ?_⟩
  · obtain ⟨a, ha, rfl⟩ := mx_w_inv ad cA u' sk hi
    obtain ⟨b, hb, rfl⟩ := mx_w_inv ad cA u' sk hj
    exact h.1 i j _ _ (mx_w_at ad cA u sk ha) (mx_w_at ad cA u sk hb) hxy
  · obtain ⟨a, ha, rfl⟩ := mx_w_inv ad cA u' sk hk
    exact h.2 k (mx_cell ad cA u k a) (mx_w_at ad cA u sk ha)
theorem mx_Dz {A : Nat → Prop} {ad : Nat → Nat} {cA : ClassId} {u : mx_S} {sk : mx_K} (sz : Nat) (h : va_D A (mx_w ad cA u 0 sk)) : va_D (mx_A ad sk.length sz) (mx_w ad cA u 0 sk) := by
  refine ⟨h.1, fun k q hk => ?_⟩
  have hl := (List.getElem?_eq_some_iff.mp hk).1
  rw [mx_w_len] at hl
  obtain ⟨a, ha, rfl⟩ := mx_w_inv ad cA u sk hk
  exact Or.inl ⟨k, hl, rfl⟩
def mx_lk : List (Nat × mx_V) → Nat → Option mx_V
  | [], _ => none
  | q :: r, i => bif Nat.beq q.1 i then some q.2 else mx_lk r i
theorem mx_lk_mem : ∀ {L : List (Nat × mx_V)} {i : Nat} {v : mx_V}, mx_lk L i = some v → (i, v) ∈ L
  | [], _, _, h => by simp [mx_lk] at h
  | q :: r, i, v, h => by
    unfold mx_lk at h
    cases hq : Nat.beq q.1 i with
    | true =>
      rw [hq] at h
      have e := Nat.eq_of_beq_eq_true hq
      have e2 : q.2 = v := Option.some.inj h
      subst e
      subst e2
      exact List.mem_cons_self
    | false =>
      rw [hq] at h
      exact List.mem_cons_of_mem _ (mx_lk_mem h)
theorem mx_lv {ls : Array Slot} {nL : Nat} {ad : Nat → Nat} {L : List (Nat × mx_V)} (hl : lv_has ls nL (L.map (mx_lc ad))) {i : Nat} {v : mx_V} (h : mx_lk L i = some v) : ls[i]? = some (.val (mx_c ad v)) :=
  hl.2.2 (i, mx_c ad v) (List.mem_map.mpr ⟨(i, v), mx_lk_mem h, rfl⟩)
def mx_st (L : List (Nat × mx_V)) (i : Nat) (v : mx_V) : List (Nat × mx_V) := (i, v) :: L.filter (fun q => !(q.1 == i) && !(q.1 + 1 == i && mx_cat q.2 == 2))
theorem mx_st_eq (ad : Nat → Nat) (L : List (Nat × mx_V)) (i : Nat) (v : mx_V) : (i, mx_c ad v) :: (L.map (mx_lc ad)).filter (fun q => !(q.1 == i) && !(q.1 + 1 == i && q.2.category == 2)) = (mx_st L i v).map (mx_lc ad) := by
  rw [List.filter_map]
  show _ = mx_lc ad (i, v) :: _
  have e : ((fun q : Nat × Value => !(q.1 == i) && !(q.1 + 1 == i && q.2.category == 2)) ∘ mx_lc ad) = fun q : Nat × mx_V => !(q.1 == i) && !(q.1 + 1 == i && mx_cat q.2 == 2) := by
    funext q
    simp [mx_lc, mx_cat_eq]
  rw [e]
  rfl
def mx_st2 (L : List (Nat × mx_V)) (i : Nat) (v : mx_V) : List (Nat × mx_V) := (i, v) :: L.filter (fun q => !(q.1 == i) && (!(q.1 == i + 1) && !(q.1 + 1 == i && mx_cat q.2 == 2)))
theorem mx_st2_eq (ad : Nat → Nat) (L : List (Nat × mx_V)) (i : Nat) (v : mx_V) : (i, mx_c ad v) :: (L.map (mx_lc ad)).filter (fun q => !(q.1 == i) && (!(q.1 == i + 1) && !(q.1 + 1 == i && q.2.category == 2))) = (mx_st2 L i v).map (mx_lc ad) := by
  rw [List.filter_map]
  show _ = mx_lc ad (i, v) :: _
  have e : ((fun q : Nat × Value => !(q.1 == i) && (!(q.1 == i + 1) && !(q.1 + 1 == i && q.2.category == 2))) ∘ mx_lc ad) = fun q : Nat × mx_V => !(q.1 == i) && (!(q.1 == i + 1) && !(q.1 + 1 == i && mx_cat q.2 == 2)) := by
    funext q
    simp [mx_lc, mx_cat_eq]
  rw [e]
  rfl
/-- what holds of the machine while one method runs; G: what else its own words say of the start -/
def mx_Cx (G : State → (Nat → Nat) → Prop) (R : Room) (cells slots : Nat) (cc : ByteArray) (nL : Nat) (own : String) (ret : Option FieldType) (Ts : List Cond) (cl : List vw_C) (p : Program) (s : State) (m : MethodId) (args : Array Value) (meth : Method) (c : Code) (D : va_G) (cA : ClassId) (ad : Nat → Nat) : Prop :=
  p.tables.exec = Jvm.exec ∧ c.code = cc ∧ c.maxLocals = nL ∧ s.vm.findClass own = some m.cls ∧ (∀ w ∈ Ts, w.before args s = true) ∧ va_K D cl [(cA, .int)] s ∧ (cells ≤ R.cells ∧ slots ≤ R.slots) ∧ G s ad
abbrev mx_WG (σ : Type) : Type := (Nat → Nat) → ClassId → σ → va_W
/-- the machine comes, from this place with these locals, stack and world, to an end with Qf -/
def mx_AtG {σ : Type} (wd : mx_WG σ) (nc : Nat) (l : Launch) (R : Room) (cells slots : Nat) (nL : Nat) (cl : List vw_C) (p : Program) (e : Env) (s : State) (m : MethodId) (args : Array Value) (below : List Frame) (meth : Method) (c : Code) (D : va_G) (cA : ClassId) (ad : Nat → Nat) (Qf : State → Prop) : mx_PG σ := fun pc L st u =>
  ∀ (ls : Array Slot) (H : Heap) (locs : List Loc), lv_has ls nL (L.map (mx_lc ad)) → va_P D cl (wd ad cA u) H → va_D (mx_A ad nc s.heap.size) (wd ad cA u) → va_S (mx_A ad nc s.heap.size) s.heap H locs →
    W p l e R s m args below meth c H locs cells slots Qf (F0 m pc ls (st.map (mx_c ad)))
/-- a place where the method ends, and what it may answer there -/
def mx_rk (cc : ByteArray) (ret : Option FieldType) (pc : Nat) (v : Option mx_V) : Prop :=
  (decode cc pc = .ok (.ireturn, 1) ∧ ∃ x : Int32, v = some (.inl x) ∧ (ret = some .int ∨ (ret = some .boolean ∧ (x = 0 ∨ x = 1)))) ∨ (decode cc pc = .ok (.return_, 1) ∧ v = none ∧ ret = none)
def mx_EndG {σ : Type} (wd : mx_WG σ) (nc : Nat) (l : Launch) (R : Room) (cells slots : Nat) (cc : ByteArray) (ret : Option FieldType) (cl : List vw_C) (p : Program) (e : Env) (s : State) (m : MethodId) (args : Array Value) (below : List Frame) (meth : Method) (c : Code) (D : va_G) (cA : ClassId) (ad : Nat → Nat) (Qf : State → Prop) (Rr : mx_RG σ) : Prop :=
  ∀ (pc : Nat) (v : Option mx_V) (u : σ) (ls : Array Slot) (H : Heap) (locs : List Loc), mx_rk cc ret pc v → Rr v u → va_P D cl (wd ad cA u) H → va_S (mx_A ad nc s.heap.size) s.heap H locs → W p l e R s m args below meth c H locs cells slots Qf (F0 m pc ls (v.toList.map (mx_c ad)))
/-- an instruction at pc keeps to its transformer -/
def mx_OkG {σ : Type} (wd : mx_WG σ) (nc : Nat) (G : State → (Nat → Nat) → Prop) (l : Launch) (R : Room) (cc : ByteArray) (nL : Nat) (own : String) (ret : Option FieldType) (Ts : List Cond) (cl : List vw_C) (pc : Nat) (T : mx_TG σ) : Prop :=
  ∀ (p : Program) (e : Env) (s : State) (m : MethodId) (args : Array Value) (below : List Frame) (meth : Method) (c : Code) (D : va_G) (cA : ClassId) (ad : Nat → Nat) (cells slots : Nat) (Qf : State → Prop),
    mx_Cx G R cells slots cc nL own ret Ts cl p s m args meth c D cA ad → ∀ Rr : mx_RG σ, mx_EndG wd nc l R cells slots cc ret cl p e s m args below meth c D cA ad Qf Rr → ∀ (L : List (Nat × mx_V)) (st : List mx_V) (u : σ) (K : mx_PG σ), T L st u K Rr →
      (∀ (pc' : Nat) (L' : List (Nat × mx_V)) (st' : List mx_V) (u' : σ), K pc' L' st' u' → mx_AtG wd nc l R cells slots nL cl p e s m args below meth c D cA ad Qf pc' L' st' u') → mx_AtG wd nc l R cells slots nL cl p e s m args below meth c D cA ad Qf pc L st u
def mx_wd (sk : mx_K) : mx_WG mx_S := fun ad cA u => mx_w ad cA u 0 sk
abbrev mx_Ok (l : Launch) (R : Room) (cc : ByteArray) (nL : Nat) (own : String) (ret : Option FieldType) (Ts : List Cond) (cl : List vw_C) (sk : mx_K) (pc : Nat) (T : mx_T) : Prop := mx_OkG (mx_wd sk) sk.length (fun _ _ => True) l R cc nL own ret Ts cl pc T
section MXO
variable {σ : Type} {wd : mx_WG σ} {nc : Nat} {G : State → (Nat → Nat) → Prop} {l : Launch} {R : Room} {cc : ByteArray} {nL : Nat} {own : String} {ret : Option FieldType} {Ts : List Cond} {cl : List vw_C} {sk : mx_K} {pc : Nat}

def mx_iload_n {σ : Type} (i : Nat) (pc : Nat) : mx_TG σ := fun L st u K Rr => match mx_lk L i with
  | some v => match v with
    | .inl x => K (pc + 1) L (.inl x :: st) u
    | _ => False
  | none => False
theorem mx_ok_iload_n {k : Fin 4} {i : Nat} (hdg : decode cc pc = .ok (.iload_n k, 1)) (hi : (k : Nat) = i) : mx_OkG wd nc G l R cc nL own ret Ts cl pc (mx_iload_n i pc) := by
  intro p e s m args below meth c D cA ad cells slots Qf ⟨hx, hb, hml, hown, hts, hK, hcs, hG0⟩ Rr hE L st u K h hk ls H locs hl hP hD hS
  unfold mx_iload_n at h
  split at h
  · rename_i v hv
    split at h
    · exact lv_iload_n hx hb hdg hi (mx_lv hl hv) (hk _ _ _ _ h ls H locs hl hP hD hS)
    · exact h.elim
  · exact h.elim
def mx_iload {σ : Type} (i : Nat) (pc : Nat) : mx_TG σ := fun L st u K Rr => match mx_lk L i with
  | some v => match v with
    | .inl x => K (pc + 2) L (.inl x :: st) u
    | _ => False
  | none => False
theorem mx_ok_iload {i : Nat} (hdg : decode cc pc = .ok (.iload i, 2)) : mx_OkG wd nc G l R cc nL own ret Ts cl pc (mx_iload i pc) := by
  intro p e s m args below meth c D cA ad cells slots Qf ⟨hx, hb, hml, hown, hts, hK, hcs, hG0⟩ Rr hE L st u K h hk ls H locs hl hP hD hS
  unfold mx_iload at h
  split at h
  · rename_i v hv
    split at h
    · exact lv_iload hx hb hdg (mx_lv hl hv) (hk _ _ _ _ h ls H locs hl hP hD hS)
    · exact h.elim
  · exact h.elim
def mx_aload_n {σ : Type} (i : Nat) (pc : Nat) : mx_TG σ := fun L st u K Rr => match mx_lk L i with
  | some v => match v with
    | .inr (.inr x) => K (pc + 1) L (.inr (.inr x) :: st) u
    | _ => False
  | none => False
theorem mx_ok_aload_n {k : Fin 4} {i : Nat} (hdg : decode cc pc = .ok (.aload_n k, 1)) (hi : (k : Nat) = i) : mx_OkG wd nc G l R cc nL own ret Ts cl pc (mx_aload_n i pc) := by
  intro p e s m args below meth c D cA ad cells slots Qf ⟨hx, hb, hml, hown, hts, hK, hcs, hG0⟩ Rr hE L st u K h hk ls H locs hl hP hD hS
  unfold mx_aload_n at h
  split at h
  · rename_i v hv
    split at h
    · exact lv_aload_n hx hb hdg hi (mx_lv hl hv) (hk _ _ _ _ h ls H locs hl hP hD hS)
    · exact h.elim
  · exact h.elim
def mx_lload_n {σ : Type} (i : Nat) (pc : Nat) : mx_TG σ := fun L st u K Rr => match mx_lk L i with
  | some v => match v with
    | .inr (.inl x) => K (pc + 1) L (.inr (.inl x) :: st) u
    | _ => False
  | none => False
theorem mx_ok_lload_n {k : Fin 4} {i : Nat} (hdg : decode cc pc = .ok (.lload_n k, 1)) (hi : (k : Nat) = i) : mx_OkG wd nc G l R cc nL own ret Ts cl pc (mx_lload_n i pc) := by
  intro p e s m args below meth c D cA ad cells slots Qf ⟨hx, hb, hml, hown, hts, hK, hcs, hG0⟩ Rr hE L st u K h hk ls H locs hl hP hD hS
  unfold mx_lload_n at h
  split at h
  · rename_i v hv
    split at h
    · exact lv_lload_n hx hb hdg hi (mx_lv hl hv) (hk _ _ _ _ h ls H locs hl hP hD hS)
    · exact h.elim
  · exact h.elim
def mx_istore_n {σ : Type} (i : Nat) (pc : Nat) : mx_TG σ := fun L st u K Rr => match st with
  | .inl x :: r => K (pc + 1) (mx_st L i (.inl x)) r u
  | _ => False
theorem mx_ok_istore_n {k : Fin 4} {i : Nat} (hdg : decode cc pc = .ok (.istore_n k, 1)) (hi : (k : Nat) = i) (hn : i < nL) : mx_OkG wd nc G l R cc nL own ret Ts cl pc (mx_istore_n i pc) := by
  intro p e s m args below meth c D cA ad cells slots Qf ⟨hx, hb, hml, hown, hts, hK, hcs, hG0⟩ Rr hE L st u K h hk ls H locs hl hP hD hS
  unfold mx_istore_n at h
  split at h
  · rename_i x r
    exact lv_istore_n hx hb hdg hi hl hn (mx_st_eq ad L i (.inl x)) (fun ls' hl' => hk _ _ _ _ h ls' H locs hl' hP hD hS)
  · exact h.elim
def mx_istore {σ : Type} (i : Nat) (pc : Nat) : mx_TG σ := fun L st u K Rr => match st with
  | .inl x :: r => K (pc + 2) (mx_st L i (.inl x)) r u
  | _ => False
theorem mx_ok_istore {i : Nat} (hdg : decode cc pc = .ok (.istore i, 2)) (hn : i < nL) : mx_OkG wd nc G l R cc nL own ret Ts cl pc (mx_istore i pc) := by
  intro p e s m args below meth c D cA ad cells slots Qf ⟨hx, hb, hml, hown, hts, hK, hcs, hG0⟩ Rr hE L st u K h hk ls H locs hl hP hD hS
  unfold mx_istore at h
  split at h
  · rename_i x r
    exact lv_istore hx hb hdg hl hn (mx_st_eq ad L i (.inl x)) (fun ls' hl' => hk _ _ _ _ h ls' H locs hl' hP hD hS)
  · exact h.elim
def mx_lstore_n {σ : Type} (i : Nat) (pc : Nat) : mx_TG σ := fun L st u K Rr => match st with
  | .inr (.inl x) :: r => K (pc + 1) (mx_st2 L i (.inr (.inl x))) r u
  | _ => False
theorem mx_ok_lstore_n {k : Fin 4} {i : Nat} (hdg : decode cc pc = .ok (.lstore_n k, 1)) (hi : (k : Nat) = i) (hn : i + 1 < nL) : mx_OkG wd nc G l R cc nL own ret Ts cl pc (mx_lstore_n i pc) := by
  intro p e s m args below meth c D cA ad cells slots Qf ⟨hx, hb, hml, hown, hts, hK, hcs, hG0⟩ Rr hE L st u K h hk ls H locs hl hP hD hS
  unfold mx_lstore_n at h
  split at h
  · rename_i x r
    exact lv_lstore_n hx hb hdg hi hl hn (mx_st2_eq ad L i (.inr (.inl x))) (fun ls' hl' => hk _ _ _ _ h ls' H locs hl' hP hD hS)
  · exact h.elim
def mx_iinc {σ : Type} (i : Nat) (n : Int32) (pc : Nat) : mx_TG σ := fun L st u K Rr => match mx_lk L i with
  | some v => match v with
    | .inl x => K (pc + 3) (mx_st L i (.inl (x + n))) st u
    | _ => False
  | none => False
theorem mx_ok_iinc {i : Nat} {n : Int} {n' : Int32} (hdg : decode cc pc = .ok (.iinc i n, 3)) (hn' : Int32.ofInt n = n') (hn : i < nL) : mx_OkG wd nc G l R cc nL own ret Ts cl pc (mx_iinc i n' pc) := by
  intro p e s m args below meth c D cA ad cells slots Qf ⟨hx, hb, hml, hown, hts, hK, hcs, hG0⟩ Rr hE L st u K h hk ls H locs hl hP hD hS
  subst hn'
  unfold mx_iinc at h
  split at h
  · rename_i v hv
    split at h
    · rename_i x
      obtain ⟨k, hk2⟩ := List.getElem?_of_mem (List.mem_map.mpr ⟨(i, Sum.inl x), mx_lk_mem hv, rfl⟩ : mx_lc ad (i, Sum.inl x) ∈ L.map (mx_lc ad))
      exact lv_iinc hx hb hdg hl hk2 rfl hn (mx_st_eq ad _ _ (.inl _)) (fun ls' hl' => hk _ _ _ _ h ls' H locs hl' hP hD hS)
    · exact h.elim
  · exact h.elim
def mx_iconst {σ : Type} (v : Int32) (pc : Nat) : mx_TG σ := fun L st u K Rr => K (pc + 1) L (.inl v :: st) u
theorem mx_ok_iconst {n : Int} {v : Int32} (hdg : decode cc pc = .ok (.iconst n, 1)) (hv : Int32.ofInt n = v) : mx_OkG wd nc G l R cc nL own ret Ts cl pc (mx_iconst v pc) := by
  intro p e s m args below meth c D cA ad cells slots Qf ⟨hx, hb, hml, hown, hts, hK, hcs, hG0⟩ Rr hE L st u K h hk ls H locs hl hP hD hS
  exact lv_iconst hx hb hdg hv (hk _ _ _ _ h ls H locs hl hP hD hS)
def mx_bipush {σ : Type} (v : Int32) (pc : Nat) : mx_TG σ := fun L st u K Rr => K (pc + 2) L (.inl v :: st) u
theorem mx_ok_bipush {n : Int} {v : Int32} (hdg : decode cc pc = .ok (.bipush n, 2)) (hv : (Int8.ofInt n).toInt32 = v) : mx_OkG wd nc G l R cc nL own ret Ts cl pc (mx_bipush v pc) := by
  intro p e s m args below meth c D cA ad cells slots Qf ⟨hx, hb, hml, hown, hts, hK, hcs, hG0⟩ Rr hE L st u K h hk ls H locs hl hP hD hS
  exact lv_bipush hx hb hdg hv (hk _ _ _ _ h ls H locs hl hP hD hS)
def mx_sipush {σ : Type} (v : Int32) (pc : Nat) : mx_TG σ := fun L st u K Rr => K (pc + 3) L (.inl v :: st) u
theorem mx_ok_sipush {n : Int} {v : Int32} (hdg : decode cc pc = .ok (.sipush n, 3)) (hv : (Int16.ofInt n).toInt32 = v) : mx_OkG wd nc G l R cc nL own ret Ts cl pc (mx_sipush v pc) := by
  intro p e s m args below meth c D cA ad cells slots Qf ⟨hx, hb, hml, hown, hts, hK, hcs, hG0⟩ Rr hE L st u K h hk ls H locs hl hP hD hS
  exact lv_sipush hx hb hdg hv (hk _ _ _ _ h ls H locs hl hP hD hS)
def mx_ldc {σ : Type} (v : Int32) (pc : Nat) : mx_TG σ := fun L st u K Rr => K (pc + 2) L (.inl v :: st) u
theorem mx_ok_ldc {index : Nat} {v : Int32} (hdg : decode cc pc = .ok (.ldc index, 2)) (hc : Cond.constant own index v ∈ Ts) : mx_OkG wd nc G l R cc nL own ret Ts cl pc (mx_ldc v pc) := by
  intro p e s m args below meth c D cA ad cells slots Qf ⟨hx, hb, hml, hown, hts, hK, hcs, hG0⟩ Rr hE L st u K h hk ls H locs hl hP hD hS
  exact lv_ldc hx hb hown (hts _ hc) hdg (hk _ _ _ _ h ls H locs hl hP hD hS)
def mx_ldc2 {σ : Type} (v : Int64) (pc : Nat) : mx_TG σ := fun L st u K Rr => K (pc + 3) L (.inr (.inl v) :: st) u
theorem mx_ok_ldc2 {index : Nat} {v : Int64} (hdg : decode cc pc = .ok (.ldc2_w index, 3)) (hc : Cond.constantLong own index v ∈ Ts) : mx_OkG wd nc G l R cc nL own ret Ts cl pc (mx_ldc2 v pc) := by
  intro p e s m args below meth c D cA ad cells slots Qf ⟨hx, hb, hml, hown, hts, hK, hcs, hG0⟩ Rr hE L st u K h hk ls H locs hl hP hD hS
  exact lv_ldc2 hx hb hown (hts _ hc) hdg (hk _ _ _ _ h ls H locs hl hP hD hS)
def mx_iadd {σ : Type} (pc : Nat) : mx_TG σ := fun L st u K Rr => match st with
  | .inl y :: .inl x :: r => K (pc + 1) L (.inl (x + y) :: r) u
  | _ => False
theorem mx_ok_iadd (hdg : decode cc pc = .ok (.iadd, 1)) : mx_OkG wd nc G l R cc nL own ret Ts cl pc (mx_iadd pc) := by
  intro p e s m args below meth c D cA ad cells slots Qf ⟨hx, hb, hml, hown, hts, hK, hcs, hG0⟩ Rr hE L st u K h hk ls H locs hl hP hD hS
  unfold mx_iadd at h
  split at h
  · exact lv_iadd hx hb hdg (hk _ _ _ _ h ls H locs hl hP hD hS)
  · exact h.elim
def mx_isub {σ : Type} (pc : Nat) : mx_TG σ := fun L st u K Rr => match st with
  | .inl y :: .inl x :: r => K (pc + 1) L (.inl (x - y) :: r) u
  | _ => False
theorem mx_ok_isub (hdg : decode cc pc = .ok (.isub, 1)) : mx_OkG wd nc G l R cc nL own ret Ts cl pc (mx_isub pc) := by
  intro p e s m args below meth c D cA ad cells slots Qf ⟨hx, hb, hml, hown, hts, hK, hcs, hG0⟩ Rr hE L st u K h hk ls H locs hl hP hD hS
  unfold mx_isub at h
  split at h
  · exact lv_isub hx hb hdg (hk _ _ _ _ h ls H locs hl hP hD hS)
  · exact h.elim
def mx_imul {σ : Type} (pc : Nat) : mx_TG σ := fun L st u K Rr => match st with
  | .inl y :: .inl x :: r => K (pc + 1) L (.inl (x * y) :: r) u
  | _ => False
theorem mx_ok_imul (hdg : decode cc pc = .ok (.imul, 1)) : mx_OkG wd nc G l R cc nL own ret Ts cl pc (mx_imul pc) := by
  intro p e s m args below meth c D cA ad cells slots Qf ⟨hx, hb, hml, hown, hts, hK, hcs, hG0⟩ Rr hE L st u K h hk ls H locs hl hP hD hS
  unfold mx_imul at h
  split at h
  · exact lv_imul hx hb hdg (hk _ _ _ _ h ls H locs hl hP hD hS)
  · exact h.elim
def mx_iand {σ : Type} (pc : Nat) : mx_TG σ := fun L st u K Rr => match st with
  | .inl y :: .inl x :: r => K (pc + 1) L (.inl (x &&& y) :: r) u
  | _ => False
theorem mx_ok_iand (hdg : decode cc pc = .ok (.iand, 1)) : mx_OkG wd nc G l R cc nL own ret Ts cl pc (mx_iand pc) := by
  intro p e s m args below meth c D cA ad cells slots Qf ⟨hx, hb, hml, hown, hts, hK, hcs, hG0⟩ Rr hE L st u K h hk ls H locs hl hP hD hS
  unfold mx_iand at h
  split at h
  · exact lv_iand hx hb hdg (hk _ _ _ _ h ls H locs hl hP hD hS)
  · exact h.elim
def mx_ior {σ : Type} (pc : Nat) : mx_TG σ := fun L st u K Rr => match st with
  | .inl y :: .inl x :: r => K (pc + 1) L (.inl (x ||| y) :: r) u
  | _ => False
theorem mx_ok_ior (hdg : decode cc pc = .ok (.ior, 1)) : mx_OkG wd nc G l R cc nL own ret Ts cl pc (mx_ior pc) := by
  intro p e s m args below meth c D cA ad cells slots Qf ⟨hx, hb, hml, hown, hts, hK, hcs, hG0⟩ Rr hE L st u K h hk ls H locs hl hP hD hS
  unfold mx_ior at h
  split at h
  · exact lv_ior hx hb hdg (hk _ _ _ _ h ls H locs hl hP hD hS)
  · exact h.elim
def mx_ixor {σ : Type} (pc : Nat) : mx_TG σ := fun L st u K Rr => match st with
  | .inl y :: .inl x :: r => K (pc + 1) L (.inl (x ^^^ y) :: r) u
  | _ => False
theorem mx_ok_ixor (hdg : decode cc pc = .ok (.ixor, 1)) : mx_OkG wd nc G l R cc nL own ret Ts cl pc (mx_ixor pc) := by
  intro p e s m args below meth c D cA ad cells slots Qf ⟨hx, hb, hml, hown, hts, hK, hcs, hG0⟩ Rr hE L st u K h hk ls H locs hl hP hD hS
  unfold mx_ixor at h
  split at h
  · exact lv_ixor hx hb hdg (hk _ _ _ _ h ls H locs hl hP hD hS)
  · exact h.elim
def mx_ishl {σ : Type} (pc : Nat) : mx_TG σ := fun L st u K Rr => match st with
  | .inl y :: .inl x :: r => K (pc + 1) L (.inl (x <<< (y &&& 31)) :: r) u
  | _ => False
theorem mx_ok_ishl (hdg : decode cc pc = .ok (.ishl, 1)) : mx_OkG wd nc G l R cc nL own ret Ts cl pc (mx_ishl pc) := by
  intro p e s m args below meth c D cA ad cells slots Qf ⟨hx, hb, hml, hown, hts, hK, hcs, hG0⟩ Rr hE L st u K h hk ls H locs hl hP hD hS
  unfold mx_ishl at h
  split at h
  · exact lv_ishl hx hb hdg (hk _ _ _ _ h ls H locs hl hP hD hS)
  · exact h.elim
def mx_ishr {σ : Type} (pc : Nat) : mx_TG σ := fun L st u K Rr => match st with
  | .inl y :: .inl x :: r => K (pc + 1) L (.inl (x >>> (y &&& 31)) :: r) u
  | _ => False
theorem mx_ok_ishr (hdg : decode cc pc = .ok (.ishr, 1)) : mx_OkG wd nc G l R cc nL own ret Ts cl pc (mx_ishr pc) := by
  intro p e s m args below meth c D cA ad cells slots Qf ⟨hx, hb, hml, hown, hts, hK, hcs, hG0⟩ Rr hE L st u K h hk ls H locs hl hP hD hS
  unfold mx_ishr at h
  split at h
  · exact lv_ishr hx hb hdg (hk _ _ _ _ h ls H locs hl hP hD hS)
  · exact h.elim
def mx_iushr {σ : Type} (pc : Nat) : mx_TG σ := fun L st u K Rr => match st with
  | .inl y :: .inl x :: r => K (pc + 1) L (.inl ((x.toUInt32 >>> (y.toUInt32 &&& Int32.toUInt32 31)).toInt32) :: r) u
  | _ => False
theorem mx_ok_iushr (hdg : decode cc pc = .ok (.iushr, 1)) : mx_OkG wd nc G l R cc nL own ret Ts cl pc (mx_iushr pc) := by
  intro p e s m args below meth c D cA ad cells slots Qf ⟨hx, hb, hml, hown, hts, hK, hcs, hG0⟩ Rr hE L st u K h hk ls H locs hl hP hD hS
  unfold mx_iushr at h
  split at h
  · exact lv_iushr hx hb hdg rfl (hk _ _ _ _ h ls H locs hl hP hD hS)
  · exact h.elim
def mx_idiv {σ : Type} (pc : Nat) : mx_TG σ := fun L st u K Rr => match st with
  | .inl y :: .inl x :: r => ¬ y = 0 ∧ K (pc + 1) L (.inl (x / y) :: r) u
  | _ => False
theorem mx_ok_idiv (hdg : decode cc pc = .ok (.idiv, 1)) : mx_OkG wd nc G l R cc nL own ret Ts cl pc (mx_idiv pc) := by
  intro p e s m args below meth c D cA ad cells slots Qf ⟨hx, hb, hml, hown, hts, hK, hcs, hG0⟩ Rr hE L st u K h hk ls H locs hl hP hD hS
  unfold mx_idiv at h
  split at h
  · exact lv_idiv hx hb hdg h.1 (hk _ _ _ _ h.2 ls H locs hl hP hD hS)
  · exact h.elim
def mx_irem {σ : Type} (pc : Nat) : mx_TG σ := fun L st u K Rr => match st with
  | .inl y :: .inl x :: r => ¬ y = 0 ∧ K (pc + 1) L (.inl (x - x / y * y) :: r) u
  | _ => False
theorem mx_ok_irem (hdg : decode cc pc = .ok (.irem, 1)) : mx_OkG wd nc G l R cc nL own ret Ts cl pc (mx_irem pc) := by
  intro p e s m args below meth c D cA ad cells slots Qf ⟨hx, hb, hml, hown, hts, hK, hcs, hG0⟩ Rr hE L st u K h hk ls H locs hl hP hD hS
  unfold mx_irem at h
  split at h
  · exact lv_irem hx hb hdg h.1 (hk _ _ _ _ h.2 ls H locs hl hP hD hS)
  · exact h.elim
def mx_ladd {σ : Type} (pc : Nat) : mx_TG σ := fun L st u K Rr => match st with
  | .inr (.inl y) :: .inr (.inl x) :: r => K (pc + 1) L (.inr (.inl (x + y)) :: r) u
  | _ => False
theorem mx_ok_ladd (hdg : decode cc pc = .ok (.ladd, 1)) : mx_OkG wd nc G l R cc nL own ret Ts cl pc (mx_ladd pc) := by
  intro p e s m args below meth c D cA ad cells slots Qf ⟨hx, hb, hml, hown, hts, hK, hcs, hG0⟩ Rr hE L st u K h hk ls H locs hl hP hD hS
  unfold mx_ladd at h
  split at h
  · exact lv_ladd hx hb hdg (hk _ _ _ _ h ls H locs hl hP hD hS)
  · exact h.elim
def mx_lmul {σ : Type} (pc : Nat) : mx_TG σ := fun L st u K Rr => match st with
  | .inr (.inl y) :: .inr (.inl x) :: r => K (pc + 1) L (.inr (.inl (x * y)) :: r) u
  | _ => False
theorem mx_ok_lmul (hdg : decode cc pc = .ok (.lmul, 1)) : mx_OkG wd nc G l R cc nL own ret Ts cl pc (mx_lmul pc) := by
  intro p e s m args below meth c D cA ad cells slots Qf ⟨hx, hb, hml, hown, hts, hK, hcs, hG0⟩ Rr hE L st u K h hk ls H locs hl hP hD hS
  unfold mx_lmul at h
  split at h
  · exact lv_lmul hx hb hdg (hk _ _ _ _ h ls H locs hl hP hD hS)
  · exact h.elim
def mx_lcmp {σ : Type} (pc : Nat) : mx_TG σ := fun L st u K Rr => match st with
  | .inr (.inl y) :: .inr (.inl x) :: r => K (pc + 1) L (.inl (lg_cmp x y) :: r) u
  | _ => False
theorem mx_ok_lcmp (hdg : decode cc pc = .ok (.lcmp, 1)) : mx_OkG wd nc G l R cc nL own ret Ts cl pc (mx_lcmp pc) := by
  intro p e s m args below meth c D cA ad cells slots Qf ⟨hx, hb, hml, hown, hts, hK, hcs, hG0⟩ Rr hE L st u K h hk ls H locs hl hP hD hS
  unfold mx_lcmp at h
  split at h
  · exact W.lcmp hx hb hdg (hk _ _ _ _ h ls H locs hl hP hD hS)
  · exact h.elim
def mx_i2s {σ : Type} (pc : Nat) : mx_TG σ := fun L st u K Rr => match st with
  | .inl x :: r => K (pc + 1) L (.inl x.toInt16.toInt32 :: r) u
  | _ => False
theorem mx_ok_i2s (hdg : decode cc pc = .ok (.i2s, 1)) : mx_OkG wd nc G l R cc nL own ret Ts cl pc (mx_i2s pc) := by
  intro p e s m args below meth c D cA ad cells slots Qf ⟨hx, hb, hml, hown, hts, hK, hcs, hG0⟩ Rr hE L st u K h hk ls H locs hl hP hD hS
  unfold mx_i2s at h
  split at h
  · exact lv_i2s hx hb hdg rfl (hk _ _ _ _ h ls H locs hl hP hD hS)
  · exact h.elim
def mx_i2l {σ : Type} (pc : Nat) : mx_TG σ := fun L st u K Rr => match st with
  | .inl x :: r => K (pc + 1) L (.inr (.inl x.toInt64) :: r) u
  | _ => False
theorem mx_ok_i2l (hdg : decode cc pc = .ok (.i2l, 1)) : mx_OkG wd nc G l R cc nL own ret Ts cl pc (mx_i2l pc) := by
  intro p e s m args below meth c D cA ad cells slots Qf ⟨hx, hb, hml, hown, hts, hK, hcs, hG0⟩ Rr hE L st u K h hk ls H locs hl hP hD hS
  unfold mx_i2l at h
  split at h
  · exact lv_i2l hx hb hdg rfl (hk _ _ _ _ h ls H locs hl hP hD hS)
  · exact h.elim
def mx_l2i {σ : Type} (pc : Nat) : mx_TG σ := fun L st u K Rr => match st with
  | .inr (.inl x) :: r => K (pc + 1) L (.inl x.toInt32 :: r) u
  | _ => False
theorem mx_ok_l2i (hdg : decode cc pc = .ok (.l2i, 1)) : mx_OkG wd nc G l R cc nL own ret Ts cl pc (mx_l2i pc) := by
  intro p e s m args below meth c D cA ad cells slots Qf ⟨hx, hb, hml, hown, hts, hK, hcs, hG0⟩ Rr hE L st u K h hk ls H locs hl hP hD hS
  unfold mx_l2i at h
  split at h
  · exact lv_l2i hx hb hdg rfl (hk _ _ _ _ h ls H locs hl hP hD hS)
  · exact h.elim
def mx_dup {σ : Type} (pc : Nat) : mx_TG σ := fun L st u K Rr => match st with
  | .inl x :: r => K (pc + 1) L (.inl x :: .inl x :: r) u
  | .inr (.inr x) :: r => K (pc + 1) L (.inr (.inr x) :: .inr (.inr x) :: r) u
  | _ => False
theorem mx_ok_dup (hdg : decode cc pc = .ok (.dup, 1)) : mx_OkG wd nc G l R cc nL own ret Ts cl pc (mx_dup pc) := by
  intro p e s m args below meth c D cA ad cells slots Qf ⟨hx, hb, hml, hown, hts, hK, hcs, hG0⟩ Rr hE L st u K h hk ls H locs hl hP hD hS
  unfold mx_dup at h
  split at h
  · exact lv_dup hx hb hdg rfl (hk _ _ _ _ h ls H locs hl hP hD hS)
  · exact lv_dup hx hb hdg rfl (hk _ _ _ _ h ls H locs hl hP hD hS)
  · exact h.elim
def mx_dup2 {σ : Type} (pc : Nat) : mx_TG σ := fun L st u K Rr => match st with
  | .inl x :: .inr (.inr y) :: r => K (pc + 1) L (.inl x :: .inr (.inr y) :: .inl x :: .inr (.inr y) :: r) u
  | _ => False
theorem mx_ok_dup2 (hdg : decode cc pc = .ok (.dup2, 1)) : mx_OkG wd nc G l R cc nL own ret Ts cl pc (mx_dup2 pc) := by
  intro p e s m args below meth c D cA ad cells slots Qf ⟨hx, hb, hml, hown, hts, hK, hcs, hG0⟩ Rr hE L st u K h hk ls H locs hl hP hD hS
  unfold mx_dup2 at h
  split at h
  · exact lv_dup2_11 hx hb hdg rfl rfl (hk _ _ _ _ h ls H locs hl hP hD hS)
  · exact h.elim
def mx_pop {σ : Type} (pc : Nat) : mx_TG σ := fun L st u K Rr => match st with
  | .inl x :: r => K (pc + 1) L r u
  | _ => False
theorem mx_ok_pop (hdg : decode cc pc = .ok (.pop, 1)) : mx_OkG wd nc G l R cc nL own ret Ts cl pc (mx_pop pc) := by
  intro p e s m args below meth c D cA ad cells slots Qf ⟨hx, hb, hml, hown, hts, hK, hcs, hG0⟩ Rr hE L st u K h hk ls H locs hl hP hD hS
  unfold mx_pop at h
  split at h
  · exact lv_pop hx hb hdg rfl (hk _ _ _ _ h ls H locs hl hP hD hS)
  · exact h.elim
def mx_if_eq {σ : Type} (tgt : Nat) (pc : Nat) : mx_TG σ := fun L st u K Rr => match st with
  | .inl x :: r => (x = 0 → K tgt L r u) ∧ (¬ x = 0 → K (pc + 3) L r u)
  | _ => False
theorem mx_ok_if_eq {off : Int} {tgt : Nat} (hdg : decode cc pc = .ok (.ifCond .eq off, 3)) (ht : (pc : Int) + off = (tgt : Int)) : mx_OkG wd nc G l R cc nL own ret Ts cl pc (mx_if_eq tgt pc) := by
  intro p e s m args below meth c D cA ad cells slots Qf ⟨hx, hb, hml, hown, hts, hK, hcs, hG0⟩ Rr hE L st u K h hk ls H locs hl hP hD hS
  unfold mx_if_eq at h
  split at h
  · exact lv_if_eq hx hb hdg ht (fun q => hk _ _ _ _ (h.1 q) ls H locs hl hP hD hS) (fun q => hk _ _ _ _ (h.2 q) ls H locs hl hP hD hS)
  · exact h.elim
def mx_icmp_eq {σ : Type} (tgt : Nat) (pc : Nat) : mx_TG σ := fun L st u K Rr => match st with
  | .inl y :: .inl x :: r => (x = y → K tgt L r u) ∧ (¬ x = y → K (pc + 3) L r u)
  | _ => False
theorem mx_ok_icmp_eq {off : Int} {tgt : Nat} (hdg : decode cc pc = .ok (.if_icmp .eq off, 3)) (ht : (pc : Int) + off = (tgt : Int)) : mx_OkG wd nc G l R cc nL own ret Ts cl pc (mx_icmp_eq tgt pc) := by
  intro p e s m args below meth c D cA ad cells slots Qf ⟨hx, hb, hml, hown, hts, hK, hcs, hG0⟩ Rr hE L st u K h hk ls H locs hl hP hD hS
  unfold mx_icmp_eq at h
  split at h
  · exact lv_icmp_eq hx hb hdg ht (fun q => hk _ _ _ _ (h.1 q) ls H locs hl hP hD hS) (fun q => hk _ _ _ _ (h.2 q) ls H locs hl hP hD hS)
  · exact h.elim
def mx_if_ne {σ : Type} (tgt : Nat) (pc : Nat) : mx_TG σ := fun L st u K Rr => match st with
  | .inl x :: r => (¬ x = 0 → K tgt L r u) ∧ (x = 0 → K (pc + 3) L r u)
  | _ => False
theorem mx_ok_if_ne {off : Int} {tgt : Nat} (hdg : decode cc pc = .ok (.ifCond .ne off, 3)) (ht : (pc : Int) + off = (tgt : Int)) : mx_OkG wd nc G l R cc nL own ret Ts cl pc (mx_if_ne tgt pc) := by
  intro p e s m args below meth c D cA ad cells slots Qf ⟨hx, hb, hml, hown, hts, hK, hcs, hG0⟩ Rr hE L st u K h hk ls H locs hl hP hD hS
  unfold mx_if_ne at h
  split at h
  · exact lv_if_ne hx hb hdg ht (fun q => hk _ _ _ _ (h.1 q) ls H locs hl hP hD hS) (fun q => hk _ _ _ _ (h.2 q) ls H locs hl hP hD hS)
  · exact h.elim
def mx_icmp_ne {σ : Type} (tgt : Nat) (pc : Nat) : mx_TG σ := fun L st u K Rr => match st with
  | .inl y :: .inl x :: r => (¬ x = y → K tgt L r u) ∧ (x = y → K (pc + 3) L r u)
  | _ => False
theorem mx_ok_icmp_ne {off : Int} {tgt : Nat} (hdg : decode cc pc = .ok (.if_icmp .ne off, 3)) (ht : (pc : Int) + off = (tgt : Int)) : mx_OkG wd nc G l R cc nL own ret Ts cl pc (mx_icmp_ne tgt pc) := by
  intro p e s m args below meth c D cA ad cells slots Qf ⟨hx, hb, hml, hown, hts, hK, hcs, hG0⟩ Rr hE L st u K h hk ls H locs hl hP hD hS
  unfold mx_icmp_ne at h
  split at h
  · exact lv_icmp_ne hx hb hdg ht (fun q => hk _ _ _ _ (h.1 q) ls H locs hl hP hD hS) (fun q => hk _ _ _ _ (h.2 q) ls H locs hl hP hD hS)
  · exact h.elim
def mx_if_lt {σ : Type} (tgt : Nat) (pc : Nat) : mx_TG σ := fun L st u K Rr => match st with
  | .inl x :: r => (x < 0 → K tgt L r u) ∧ (¬ x < 0 → K (pc + 3) L r u)
  | _ => False
theorem mx_ok_if_lt {off : Int} {tgt : Nat} (hdg : decode cc pc = .ok (.ifCond .lt off, 3)) (ht : (pc : Int) + off = (tgt : Int)) : mx_OkG wd nc G l R cc nL own ret Ts cl pc (mx_if_lt tgt pc) := by
  intro p e s m args below meth c D cA ad cells slots Qf ⟨hx, hb, hml, hown, hts, hK, hcs, hG0⟩ Rr hE L st u K h hk ls H locs hl hP hD hS
  unfold mx_if_lt at h
  split at h
  · exact lv_if_lt hx hb hdg ht (fun q => hk _ _ _ _ (h.1 q) ls H locs hl hP hD hS) (fun q => hk _ _ _ _ (h.2 q) ls H locs hl hP hD hS)
  · exact h.elim
def mx_icmp_lt {σ : Type} (tgt : Nat) (pc : Nat) : mx_TG σ := fun L st u K Rr => match st with
  | .inl y :: .inl x :: r => (x < y → K tgt L r u) ∧ (¬ x < y → K (pc + 3) L r u)
  | _ => False
theorem mx_ok_icmp_lt {off : Int} {tgt : Nat} (hdg : decode cc pc = .ok (.if_icmp .lt off, 3)) (ht : (pc : Int) + off = (tgt : Int)) : mx_OkG wd nc G l R cc nL own ret Ts cl pc (mx_icmp_lt tgt pc) := by
  intro p e s m args below meth c D cA ad cells slots Qf ⟨hx, hb, hml, hown, hts, hK, hcs, hG0⟩ Rr hE L st u K h hk ls H locs hl hP hD hS
  unfold mx_icmp_lt at h
  split at h
  · exact lv_icmp_lt hx hb hdg ht (fun q => hk _ _ _ _ (h.1 q) ls H locs hl hP hD hS) (fun q => hk _ _ _ _ (h.2 q) ls H locs hl hP hD hS)
  · exact h.elim
def mx_if_ge {σ : Type} (tgt : Nat) (pc : Nat) : mx_TG σ := fun L st u K Rr => match st with
  | .inl x :: r => (0 ≤ x → K tgt L r u) ∧ (¬ 0 ≤ x → K (pc + 3) L r u)
  | _ => False
theorem mx_ok_if_ge {off : Int} {tgt : Nat} (hdg : decode cc pc = .ok (.ifCond .ge off, 3)) (ht : (pc : Int) + off = (tgt : Int)) : mx_OkG wd nc G l R cc nL own ret Ts cl pc (mx_if_ge tgt pc) := by
  intro p e s m args below meth c D cA ad cells slots Qf ⟨hx, hb, hml, hown, hts, hK, hcs, hG0⟩ Rr hE L st u K h hk ls H locs hl hP hD hS
  unfold mx_if_ge at h
  split at h
  · exact lv_if_ge hx hb hdg ht (fun q => hk _ _ _ _ (h.1 q) ls H locs hl hP hD hS) (fun q => hk _ _ _ _ (h.2 q) ls H locs hl hP hD hS)
  · exact h.elim
def mx_icmp_ge {σ : Type} (tgt : Nat) (pc : Nat) : mx_TG σ := fun L st u K Rr => match st with
  | .inl y :: .inl x :: r => (y ≤ x → K tgt L r u) ∧ (¬ y ≤ x → K (pc + 3) L r u)
  | _ => False
theorem mx_ok_icmp_ge {off : Int} {tgt : Nat} (hdg : decode cc pc = .ok (.if_icmp .ge off, 3)) (ht : (pc : Int) + off = (tgt : Int)) : mx_OkG wd nc G l R cc nL own ret Ts cl pc (mx_icmp_ge tgt pc) := by
  intro p e s m args below meth c D cA ad cells slots Qf ⟨hx, hb, hml, hown, hts, hK, hcs, hG0⟩ Rr hE L st u K h hk ls H locs hl hP hD hS
  unfold mx_icmp_ge at h
  split at h
  · exact lv_icmp_ge hx hb hdg ht (fun q => hk _ _ _ _ (h.1 q) ls H locs hl hP hD hS) (fun q => hk _ _ _ _ (h.2 q) ls H locs hl hP hD hS)
  · exact h.elim
def mx_if_gt {σ : Type} (tgt : Nat) (pc : Nat) : mx_TG σ := fun L st u K Rr => match st with
  | .inl x :: r => (0 < x → K tgt L r u) ∧ (¬ 0 < x → K (pc + 3) L r u)
  | _ => False
theorem mx_ok_if_gt {off : Int} {tgt : Nat} (hdg : decode cc pc = .ok (.ifCond .gt off, 3)) (ht : (pc : Int) + off = (tgt : Int)) : mx_OkG wd nc G l R cc nL own ret Ts cl pc (mx_if_gt tgt pc) := by
  intro p e s m args below meth c D cA ad cells slots Qf ⟨hx, hb, hml, hown, hts, hK, hcs, hG0⟩ Rr hE L st u K h hk ls H locs hl hP hD hS
  unfold mx_if_gt at h
  split at h
  · exact lv_if_gt hx hb hdg ht (fun q => hk _ _ _ _ (h.1 q) ls H locs hl hP hD hS) (fun q => hk _ _ _ _ (h.2 q) ls H locs hl hP hD hS)
  · exact h.elim
def mx_icmp_gt {σ : Type} (tgt : Nat) (pc : Nat) : mx_TG σ := fun L st u K Rr => match st with
  | .inl y :: .inl x :: r => (y < x → K tgt L r u) ∧ (¬ y < x → K (pc + 3) L r u)
  | _ => False
theorem mx_ok_icmp_gt {off : Int} {tgt : Nat} (hdg : decode cc pc = .ok (.if_icmp .gt off, 3)) (ht : (pc : Int) + off = (tgt : Int)) : mx_OkG wd nc G l R cc nL own ret Ts cl pc (mx_icmp_gt tgt pc) := by
  intro p e s m args below meth c D cA ad cells slots Qf ⟨hx, hb, hml, hown, hts, hK, hcs, hG0⟩ Rr hE L st u K h hk ls H locs hl hP hD hS
  unfold mx_icmp_gt at h
  split at h
  · exact lv_icmp_gt hx hb hdg ht (fun q => hk _ _ _ _ (h.1 q) ls H locs hl hP hD hS) (fun q => hk _ _ _ _ (h.2 q) ls H locs hl hP hD hS)
  · exact h.elim
def mx_if_le {σ : Type} (tgt : Nat) (pc : Nat) : mx_TG σ := fun L st u K Rr => match st with
  | .inl x :: r => (x ≤ 0 → K tgt L r u) ∧ (¬ x ≤ 0 → K (pc + 3) L r u)
  | _ => False
theorem mx_ok_if_le {off : Int} {tgt : Nat} (hdg : decode cc pc = .ok (.ifCond .le off, 3)) (ht : (pc : Int) + off = (tgt : Int)) : mx_OkG wd nc G l R cc nL own ret Ts cl pc (mx_if_le tgt pc) := by
  intro p e s m args below meth c D cA ad cells slots Qf ⟨hx, hb, hml, hown, hts, hK, hcs, hG0⟩ Rr hE L st u K h hk ls H locs hl hP hD hS
  unfold mx_if_le at h
  split at h
  · exact lv_if_le hx hb hdg ht (fun q => hk _ _ _ _ (h.1 q) ls H locs hl hP hD hS) (fun q => hk _ _ _ _ (h.2 q) ls H locs hl hP hD hS)
  · exact h.elim
def mx_icmp_le {σ : Type} (tgt : Nat) (pc : Nat) : mx_TG σ := fun L st u K Rr => match st with
  | .inl y :: .inl x :: r => (x ≤ y → K tgt L r u) ∧ (¬ x ≤ y → K (pc + 3) L r u)
  | _ => False
theorem mx_ok_icmp_le {off : Int} {tgt : Nat} (hdg : decode cc pc = .ok (.if_icmp .le off, 3)) (ht : (pc : Int) + off = (tgt : Int)) : mx_OkG wd nc G l R cc nL own ret Ts cl pc (mx_icmp_le tgt pc) := by
  intro p e s m args below meth c D cA ad cells slots Qf ⟨hx, hb, hml, hown, hts, hK, hcs, hG0⟩ Rr hE L st u K h hk ls H locs hl hP hD hS
  unfold mx_icmp_le at h
  split at h
  · exact lv_icmp_le hx hb hdg ht (fun q => hk _ _ _ _ (h.1 q) ls H locs hl hP hD hS) (fun q => hk _ _ _ _ (h.2 q) ls H locs hl hP hD hS)
  · exact h.elim
def mx_goto {σ : Type} (tgt : Nat) (pc : Nat) : mx_TG σ := fun L st u K Rr => K tgt L st u
theorem mx_ok_goto {off : Int} {tgt : Nat} (hdg : decode cc pc = .ok (.goto off, 3)) (ht : (pc : Int) + off = (tgt : Int)) : mx_OkG wd nc G l R cc nL own ret Ts cl pc (mx_goto tgt pc) := by
  intro p e s m args below meth c D cA ad cells slots Qf ⟨hx, hb, hml, hown, hts, hK, hcs, hG0⟩ Rr hE L st u K h hk ls H locs hl hP hD hS
  exact lv_goto hx hb hdg ht (hk _ _ _ _ h ls H locs hl hP hD hS)
def mx_swT (x : Int32) (K : Nat → Prop) (df : Nat) : List (Int32 × Nat) → Prop
  | [] => K df
  | q :: r => (x = q.1 → K q.2) ∧ (¬ x = q.1 → mx_swT x K df r)
theorem mx_sw_hit {x : Int32} {K : Nat → Prop} {df : Nat} : ∀ {l : List (Int32 × Nat)}, mx_swT x K df l → (∃ (i : Nat) (q : Int32 × Nat), l[i]? = some q ∧ x = q.1 ∧ K q.2) ∨ ((∀ q ∈ l, ¬ x = q.1) ∧ K df)
  | [], h => Or.inr ⟨fun q hq => (List.not_mem_nil hq).elim, h⟩
  | q :: r, h => by
    by_cases hq : x = q.1
    · exact Or.inl ⟨0, q, rfl, hq, h.1 hq⟩
    · rcases mx_sw_hit (h.2 hq) with ⟨i, q2, h1, h2, h3⟩ | ⟨h1, h2⟩
      · exact Or.inl ⟨i + 1, q2, by simpa using h1, h2, h3⟩
      · refine Or.inr ⟨fun q2 h3 => ?_, h2⟩
        rcases List.mem_cons.mp h3 with rfl | h4
        · exact hq
        · exact h1 q2 h4
def mx_tck (pc : Nat) (lo hi : Int) (offs : Array Int) (l : List (Int32 × Nat)) : Bool :=
  decide ((l.length : Int) = hi - lo + 1) && (List.range l.length).all (fun i => match l[i]?, offs[i]? with
    | some q, some o => decide (q.1.toInt = lo + i) && decide ((pc : Int) + o = (q.2 : Int))
    | _, _ => false)
theorem mx_tck_at {pc : Nat} {lo hi : Int} {offs : Array Int} {l : List (Int32 × Nat)} (h : mx_tck pc lo hi offs l = true) {i : Nat} {q : Int32 × Nat} (hq : l[i]? = some q) : q.1.toInt = lo + i ∧ ∃ o, offs[i]? = some o ∧ (pc : Int) + o = (q.2 : Int) := by
  unfold mx_tck at h
  rw [Bool.and_eq_true] at h
  have hl := (List.getElem?_eq_some_iff.mp hq).1
  have h1 := List.all_eq_true.mp h.2 i (List.mem_range.mpr hl)
  rw [hq] at h1
  cases ho : offs[i]? with
  | none => rw [ho] at h1; simp at h1
  | some o =>
    rw [ho] at h1
    simp only [Bool.and_eq_true, decide_eq_true_eq] at h1
    exact ⟨h1.1, o, rfl, h1.2⟩

def mx_tsw {σ : Type} (df : Nat) (l : List (Int32 × Nat)) (pc : Nat) : mx_TG σ := fun L st u K Rr => match st with
  | .inl x :: r => mx_swT x (fun t => K t L r u) df l
  | _ => False
theorem mx_ok_tsw {dflt lo hi : Int} {offs : Array Int} {len df : Nat} {l0 : List (Int32 × Nat)} (hdg : decode cc pc = .ok (.tableswitch dflt lo hi offs, len)) (hd : (pc : Int) + dflt = (df : Int)) (hc : mx_tck pc lo hi offs l0 = true) : mx_OkG wd nc G l R cc nL own ret Ts cl pc (mx_tsw df l0 pc) := by
  intro p e s m args below meth c D cA ad cells slots Qf ⟨hx, hb, hml, hown, hts, hK, hcs, hG0⟩ Rr hE L st u K h hk ls H locs hl hP hD hS
  unfold mx_tsw at h
  split at h
  · rename_i x r
    have hlen : ((l0.length : Nat) : Int) = hi - lo + 1 := by
      unfold mx_tck at hc
      rw [Bool.and_eq_true] at hc
      exact of_decide_eq_true hc.1
    rcases mx_sw_hit h with ⟨i, q, h1, h2, h3⟩ | ⟨h1, h2⟩
    · obtain ⟨e1, o, e2, e3⟩ := mx_tck_at hc h1
      have hl1 := (List.getElem?_eq_some_iff.mp h1).1
      have hxi : x.toInt = lo + i := by rw [h2]; exact e1
      exact lv_tableIn hx hb hdg (by omega) (by omega) (by rw [show (x.toInt - lo).toNat = i by omega]; exact e2) e3 (hk _ _ _ _ h3 ls H locs hl hP hD hS)
    · refine lv_tableOut hx hb hdg ?_ hd (hk _ _ _ _ h2 ls H locs hl hP hD hS)
      by_cases g1 : x.toInt < lo
      · exact Or.inl g1
      · by_cases g2 : hi < x.toInt
        · exact Or.inr g2
        · exfalso
          have hlt : (x.toInt - lo).toNat < l0.length := by omega
          have e0 := List.getElem?_eq_getElem hlt
          obtain ⟨e1, -⟩ := mx_tck_at hc e0
          exact h1 _ (List.getElem_mem hlt) (Int32.toInt_inj.mp (by rw [e1]; omega))
  · exact h.elim
def mx_lck (pc : Nat) : List (Int × Int) → List (Int32 × Nat) → Bool
  | [], [] => true
  | a :: r, q :: t => decide (q.1.toInt = a.1) && decide ((pc : Int) + a.2 = (q.2 : Int)) && mx_lck pc r t
  | _, _ => false
theorem mx_lsw {x : Int32} {K : Nat → Prop} {df pc : Nat} {dflt : Int} (hd : (pc : Int) + dflt = (df : Int)) : ∀ {ps : List (Int × Int)} {l : List (Int32 × Nat)}, mx_lck pc ps l = true → mx_swT x K df l → ∃ (tgt : Nat), (pc : Int) + Op.lookupswitch.offset ps dflt x.toInt = (tgt : Int) ∧ K tgt
  | [], [], _, h => ⟨df, hd, h⟩
  | a :: r, q :: t, hc, h => by
    simp only [mx_lck, Bool.and_eq_true, decide_eq_true_eq] at hc
    by_cases hq : x = q.1
    · refine ⟨q.2, ?_, h.1 hq⟩
      rw [hq, Op.lookupswitch.offset_cons, if_pos hc.1.1.symm]
      exact hc.1.2
    · obtain ⟨tgt, h1, h2⟩ := mx_lsw hd hc.2 (h.2 hq)
      refine ⟨tgt, ?_, h2⟩
      rw [lv_osw hq hc.1.1]
      exact h1
  | [], _ :: _, hc, _ => by simp [mx_lck] at hc
  | _ :: _, [], hc, _ => by simp [mx_lck] at hc

def mx_lsw0 {σ : Type} (df : Nat) (l : List (Int32 × Nat)) (pc : Nat) : mx_TG σ := fun L st u K Rr => match st with
  | .inl x :: r => mx_swT x (fun t => K t L r u) df l
  | _ => False
theorem mx_ok_lsw0 {dflt : Int} {ps : Array (Int × Int)} {len df : Nat} {l0 : List (Int32 × Nat)} (hdg : decode cc pc = .ok (.lookupswitch dflt ps, len)) (hs : (ps.toList.zip (ps.toList.drop 1)).all (fun (a, next) => a.1 < next.1) = true) (hd : (pc : Int) + dflt = (df : Int)) (hc : mx_lck pc ps.toList l0 = true) : mx_OkG wd nc G l R cc nL own ret Ts cl pc (mx_lsw0 df l0 pc) := by
  intro p e s m args below meth c D cA ad cells slots Qf ⟨hx, hb, hml, hown, hts, hK, hcs, hG0⟩ Rr hE L st u K h hk ls H locs hl hP hD hS
  unfold mx_lsw0 at h
  split at h
  · rename_i x r
    obtain ⟨tgt, h1, h2⟩ := mx_lsw hd hc h
    exact lv_lookup hx hb hdg hs rfl h1 (hk _ _ _ _ h2 ls H locs hl hP hD hS)
  · exact h.elim
def mx_slot (sk : mx_K) (k ci j : Nat) : Option (Option Nat) := match sk[k]? with
  | some (.inl q) => bif Nat.beq q.1 ci then q.2[j]? else none
  | _ => none
theorem mx_slot_at {sk : mx_K} {k ci j : Nat} {o : Option Nat} (h : mx_slot sk k ci j = some o) : ∃ fs : List (Option Nat), sk[k]? = some (.inl (ci, fs)) ∧ fs[j]? = some o := by
  unfold mx_slot at h
  split at h
  · rename_i q hq
    cases hb : Nat.beq q.1 ci with
    | true =>
      rw [hb] at h
      have e := Nat.eq_of_beq_eq_true hb
      obtain ⟨a, fs⟩ := q
      dsimp only at e
      subst e
      exact ⟨fs, hq, h⟩
    | false => rw [hb] at h; cases h
  · cases h
def mx_len (sk : mx_K) (k : Nat) : Option Nat := match sk[k]? with
  | some (.inr n) => some n
  | _ => none
theorem mx_len_at {sk : mx_K} {k n : Nat} (h : mx_len sk k = some n) : sk[k]? = some (.inr n) := by
  unfold mx_len at h
  split at h
  · rename_i q hq
    rw [hq, Option.some.inj h]
  · cases h
/-- what the tables say of a field: class ci of the list, place j, pool number -/
def mx_Fd (Ts : List Cond) (cl : List vw_C) (own : String) (ci j index : Nat) : Prop := ∃ (C : String) (T : u_T) (N : Nat), cl[ci]? = some (C, T, N) ∧ j < N ∧ (∀ w ∈ u_ws C T N, w ∈ Ts) ∧ Cond.fieldLink own index (T j).1 (T j).2.1 (T j).2.2.1 ∈ Ts
/-- and for a write of it: its type, not final, the class's names apart -/
def mx_Fw (cl : List vw_C) (ci j : Nat) (ty : FieldType) : Prop := ∃ (C : String) (T : u_T) (N : Nat) (ty0 : Nat → FieldType), cl[ci]? = some (C, T, N) ∧ (∀ k, k < N → parseFieldDescriptor (T k).2.2.1 = some (ty0 k)) ∧ (∀ a, a < N → ∀ b, b < N → a ≠ b → (T a).2.1 ≠ (T b).2.1) ∧ (T j).2.2.2 = false ∧ parseFieldDescriptor (T j).2.2.1 = some ty

def mx_getf (sk : mx_K) (ci j : Nat) (pc : Nat) : mx_T := fun L st u K Rr => match st with
  | .inr (.inr k) :: r => match mx_slot sk k ci j with
    | some (some k') => K (pc + 3) L (.inr (.inr k') :: r) u
    | some none => K (pc + 3) L (.inl (mx_gf u k j) :: r) u
    | none => False
  | _ => False
theorem mx_ok_getf {ci j index : Nat} (hF : mx_Fd Ts cl own ci j index) (hdg : decode cc pc = .ok (.getfield index, 3)) : mx_OkG (mx_wd sk) sk.length G l R cc nL own ret Ts cl pc (mx_getf sk ci j pc) := by
  intro p e s m args below meth c D cA ad cells slots Qf ⟨hx, hb, hml, hown, hts, hK, hcs, hG0⟩ Rr hE L st u K h hk ls H locs hl hP hD hS
  have hP : va_P D cl (mx_w ad cA u 0 sk) H := hP
  have hD : va_D (mx_A ad sk.length s.heap.size) (mx_w ad cA u 0 sk) := hD
  obtain ⟨C, T, N, hc, hj, hin, hln⟩ := hF
  unfold mx_getf at h
  split at h
  · rename_i k r
    split at h
    · rename_i k' hsl
      obtain ⟨fs, h1, h2⟩ := mx_slot_at hsl
      exact va_get hx hb hts hin hown hK hP k (mx_w_at ad cA u sk h1) hc j hj (hts _ hln) (fun _ h9 => h9) (mx_fs_ref ad _ fs 0 j k' h2) hdg (hk _ _ _ _ h ls H locs hl hP hD hS)
    · rename_i hsl
      obtain ⟨fs, h1, h2⟩ := mx_slot_at hsl
      exact va_get hx hb hts hin hown hK hP k (mx_w_at ad cA u sk h1) hc j hj (hts _ hln) (fun _ h9 => h9) (v := .int (mx_gf u k j)) ((mx_fs_int ad _ fs 0 j h2).trans (by rw [Nat.zero_add]; rfl)) hdg (hk _ _ _ _ h ls H locs hl hP hD hS)
    · exact h.elim
  · exact h.elim
def mx_putf (sk : mx_K) (ci j : Nat) (pc : Nat) : mx_T := fun L st u K Rr => match st with
  | .inl v :: .inr (.inr k) :: r => mx_slot sk k ci j = some none ∧ K (pc + 3) L r (mx_sf u k j v)
  | _ => False
theorem mx_ok_putf {ci j index : Nat} (hF : mx_Fd Ts cl own ci j index) (hw : mx_Fw cl ci j .int) (hdg : decode cc pc = .ok (.putfield index, 3)) : mx_OkG (mx_wd sk) sk.length G l R cc nL own ret Ts cl pc (mx_putf sk ci j pc) := by
  intro p e s m args below meth c D cA ad cells slots Qf ⟨hx, hb, hml, hown, hts, hK, hcs, hG0⟩ Rr hE L st u K h hk ls H locs hl hP hD hS
  have hP : va_P D cl (mx_w ad cA u 0 sk) H := hP
  have hD : va_D (mx_A ad sk.length s.heap.size) (mx_w ad cA u 0 sk) := hD
  obtain ⟨C, T, N, hc, hj, hin, hln⟩ := hF
  obtain ⟨C', T', N', ty0, hc', hty, hnm, hfin, hd⟩ := hw
  rw [hc] at hc'
  cases hc'
  unfold mx_putf at h
  split at h
  · rename_i v k r
    obtain ⟨fs, h1, h2⟩ := mx_slot_at h.1
    have hlj := (List.getElem?_eq_some_iff.mp h2).1
    refine va_put hx hb hts hin ty0 hty hnm hown hK hP hD hS k (mx_w_at ad cA u sk h1) hc j hj (hts _ hln) (fun _ h9 => h9) hfin (v := .int v) hd rfl rfl (by rw [mx_fs_len]; exact hlj) hdg (fun H1 locs1 hP1 hD1 hS1 => ?_)
    have e := mx_w_sf ad cA u sk v h1 h2
    exact hk _ _ _ _ h.2 ls H1 locs1 hl (show va_P D cl (mx_w ad cA (mx_sf u k j v) 0 sk) H1 by rw [← e]; exact hP1) (show va_D _ (mx_w ad cA (mx_sf u k j v) 0 sk) by rw [← e]; exact hD1) hS1
  · exact h.elim
def mx_putz (sk : mx_K) (ci j : Nat) (pc : Nat) : mx_T := fun L st u K Rr => match st with
  | .inl v :: .inr (.inr k) :: r => mx_slot sk k ci j = some none ∧ (v = 0 ∨ v = 1) ∧ K (pc + 3) L r (mx_sf u k j v)
  | _ => False
theorem mx_ok_putz {ci j index : Nat} (hF : mx_Fd Ts cl own ci j index) (hw : mx_Fw cl ci j .boolean) (hdg : decode cc pc = .ok (.putfield index, 3)) : mx_OkG (mx_wd sk) sk.length G l R cc nL own ret Ts cl pc (mx_putz sk ci j pc) := by
  intro p e s m args below meth c D cA ad cells slots Qf ⟨hx, hb, hml, hown, hts, hK, hcs, hG0⟩ Rr hE L st u K h hk ls H locs hl hP hD hS
  have hP : va_P D cl (mx_w ad cA u 0 sk) H := hP
  have hD : va_D (mx_A ad sk.length s.heap.size) (mx_w ad cA u 0 sk) := hD
  obtain ⟨C, T, N, hc, hj, hin, hln⟩ := hF
  obtain ⟨C', T', N', ty0, hc', hty, hnm, hfin, hd⟩ := hw
  rw [hc] at hc'
  cases hc'
  unfold mx_putz at h
  split at h
  · rename_i v k r
    obtain ⟨fs, h1, h2⟩ := mx_slot_at h.1
    have hlj := (List.getElem?_eq_some_iff.mp h2).1
    refine va_put hx hb hts hin ty0 hty hnm hown hK hP hD hS k (mx_w_at ad cA u sk h1) hc j hj (hts _ hln) (fun _ h9 => h9) hfin (v := .int v) hd (by rcases h.2.1 with e | e <;> rw [e] <;> rfl) (by rcases h.2.1 with e | e <;> rw [e] <;> rfl) (by rw [mx_fs_len]; exact hlj) hdg (fun H1 locs1 hP1 hD1 hS1 => ?_)
    have e := mx_w_sf ad cA u sk v h1 h2
    exact hk _ _ _ _ h.2.2 ls H1 locs1 hl (show va_P D cl (mx_w ad cA (mx_sf u k j v) 0 sk) H1 by rw [← e]; exact hP1) (show va_D _ (mx_w ad cA (mx_sf u k j v) 0 sk) by rw [← e]; exact hD1) hS1
  · exact h.elim
def mx_iald (sk : mx_K) (pc : Nat) : mx_T := fun L st u K Rr => match st with
  | .inl i :: .inr (.inr k) :: r => match mx_len sk k with
    | some n => vp_in i n ∧ K (pc + 1) L (.inl (mx_ga u k i.toNatClampNeg) :: r) u
    | none => False
  | _ => False
theorem mx_ok_iald (hdg : decode cc pc = .ok (.iaload, 1)) : mx_OkG (mx_wd sk) sk.length G l R cc nL own ret Ts cl pc (mx_iald sk pc) := by
  intro p e s m args below meth c D cA ad cells slots Qf ⟨hx, hb, hml, hown, hts, hK, hcs, hG0⟩ Rr hE L st u K h hk ls H locs hl hP hD hS
  have hP : va_P D cl (mx_w ad cA u 0 sk) H := hP
  have hD : va_D (mx_A ad sk.length s.heap.size) (mx_w ad cA u 0 sk) := hD
  unfold mx_iald at h
  split at h
  · rename_i i k r
    split at h
    · rename_i n hn
      exact va_iald hx hb hK hP k 0 (mx_w_at ad cA u sk (mx_len_at hn)) rfl h.1 hdg (hk _ _ _ _ h.2 ls H locs hl hP hD hS)
    · exact h.elim
  · exact h.elim
def mx_iast (sk : mx_K) (pc : Nat) : mx_T := fun L st u K Rr => match st with
  | .inl x :: .inl i :: .inr (.inr k) :: r => match mx_len sk k with
    | some n => vp_in i n ∧ K (pc + 1) L r (mx_sa u k i.toNatClampNeg x)
    | none => False
  | _ => False
theorem mx_ok_iast (hdg : decode cc pc = .ok (.iastore, 1)) : mx_OkG (mx_wd sk) sk.length G l R cc nL own ret Ts cl pc (mx_iast sk pc) := by
  intro p e s m args below meth c D cA ad cells slots Qf ⟨hx, hb, hml, hown, hts, hK, hcs, hG0⟩ Rr hE L st u K h hk ls H locs hl hP hD hS
  have hP : va_P D cl (mx_w ad cA u 0 sk) H := hP
  have hD : va_D (mx_A ad sk.length s.heap.size) (mx_w ad cA u 0 sk) := hD
  unfold mx_iast at h
  split at h
  · rename_i x i k r
    split at h
    · rename_i n hn
      refine va_iast hx hb hK hP hD hS k 0 (mx_w_at ad cA u sk (mx_len_at hn)) rfl h.1 hdg (fun H1 locs1 hP1 hD1 hS1 => ?_)
      have e := mx_w_sa ad cA u sk (i := i.toNatClampNeg) x (mx_len_at hn)
      exact hk _ _ _ _ h.2 ls H1 locs1 hl (show va_P D cl (mx_w ad cA (mx_sa u k i.toNatClampNeg x) 0 sk) H1 by rw [← e]; exact hP1) (show va_D _ (mx_w ad cA (mx_sa u k i.toNatClampNeg x) 0 sk) by rw [← e]; exact hD1) hS1
    · exact h.elim
  · exact h.elim
def mx_alen (sk : mx_K) (pc : Nat) : mx_T := fun L st u K Rr => match st with
  | .inr (.inr k) :: r => match mx_len sk k with
    | some n => K (pc + 1) L (.inl (nI n) :: r) u
    | none => False
  | _ => False
theorem mx_ok_alen (hdg : decode cc pc = .ok (.arraylength, 1)) : mx_OkG (mx_wd sk) sk.length G l R cc nL own ret Ts cl pc (mx_alen sk pc) := by
  intro p e s m args below meth c D cA ad cells slots Qf ⟨hx, hb, hml, hown, hts, hK, hcs, hG0⟩ Rr hE L st u K h hk ls H locs hl hP hD hS
  have hP : va_P D cl (mx_w ad cA u 0 sk) H := hP
  have hD : va_D (mx_A ad sk.length s.heap.size) (mx_w ad cA u 0 sk) := hD
  unfold mx_alen at h
  split at h
  · rename_i k r
    split at h
    · rename_i n hn
      exact va_alen hx hb hK hP k 0 (mx_w_at ad cA u sk (mx_len_at hn)) rfl rfl hdg (hk _ _ _ _ h ls H locs hl hP hD hS)
    · exact h.elim
  · exact h.elim
def mx_iret {σ : Type} (pc : Nat) : mx_TG σ := fun L st u K Rr => match st with
  | [.inl v] => Rr (some (.inl v)) u
  | _ => False
theorem mx_ok_iret (hdg : decode cc pc = .ok (.ireturn, 1)) (hrt : ret = some .int) : mx_OkG wd nc G l R cc nL own ret Ts cl pc (mx_iret pc) := by
  intro p e s m args below meth c D cA ad cells slots Qf ⟨hx, hb, hml, hown, hts, hK, hcs, hG0⟩ Rr hE L st u K h hk ls H locs hl hP hD hS
  unfold mx_iret at h
  split at h
  · rename_i v
    exact hE pc (some (.inl v)) u ls H locs (Or.inl ⟨hdg, v, rfl, Or.inl hrt⟩) h hP hS
  · exact h.elim
def mx_zret {σ : Type} (pc : Nat) : mx_TG σ := fun L st u K Rr => match st with
  | [.inl v] => (v = 0 ∨ v = 1) ∧ Rr (some (.inl v)) u
  | _ => False
theorem mx_ok_zret (hdg : decode cc pc = .ok (.ireturn, 1)) (hrt : ret = some .boolean) : mx_OkG wd nc G l R cc nL own ret Ts cl pc (mx_zret pc) := by
  intro p e s m args below meth c D cA ad cells slots Qf ⟨hx, hb, hml, hown, hts, hK, hcs, hG0⟩ Rr hE L st u K h hk ls H locs hl hP hD hS
  unfold mx_zret at h
  split at h
  · rename_i v
    exact hE pc (some (.inl v)) u ls H locs (Or.inl ⟨hdg, v, rfl, Or.inr ⟨hrt, h.1⟩⟩) h.2 hP hS
  · exact h.elim
def mx_vret {σ : Type} (pc : Nat) : mx_TG σ := fun L st u K Rr => match st with
  | [] => Rr none u
  | _ => False
theorem mx_ok_vret (hdg : decode cc pc = .ok (.return_, 1)) (hrt : ret = none) : mx_OkG wd nc G l R cc nL own ret Ts cl pc (mx_vret pc) := by
  intro p e s m args below meth c D cA ad cells slots Qf ⟨hx, hb, hml, hown, hts, hK, hcs, hG0⟩ Rr hE L st u K h hk ls H locs hl hP hD hS
  unfold mx_vret at h
  split at h
  · exact hE pc none u ls H locs (Or.inr ⟨hdg, rfl, hrt⟩) h hP hS
  · exact h.elim
def mx_mmax {σ : Type} (pc : Nat) : mx_TG σ := fun L st u K Rr => match st with
  | .inl y :: .inl x :: r => decide ((r.map mx_cat).sum ≤ 8) = true ∧ K (pc + 3) L (.inl (if x < y then y else x) :: r) u
  | _ => False
theorem mx_ok_mmax {index : Nat} (hln : Cond.methodLink own index Lib.Math.max.name ∈ Ts) (hst : Cond.static Lib.Math.max.name ∈ Ts) (hin : Cond.initialized "java/lang/Math" ∈ Ts) (hcd : Cond.code Lib.Math.max.name Lib.Math.max.code 2 (some .int) ∈ Ts) (hRf : 1 ≤ R.frames) (hRl : 21 ≤ R.locals) (hdg : decode cc pc = .ok (.invokestatic index, 3)) : mx_OkG wd nc G l R cc nL own ret Ts cl pc (mx_mmax pc) := by
  intro p e s m args below meth c D cA ad cells slots Qf ⟨hx, hb, hml, hown, hts, hK, hcs, hG0⟩ Rr hE L st u K h hk ls H locs hl hP hD hS
  unfold mx_mmax at h
  split at h
  · rename_i y x r
    have h8 : (r.map mx_cat).sum ≤ 8 := of_decide_eq_true h.1
    have h9 : ((r.map (mx_c ad)).map fun v => v.category).sum ≤ 8 := by
      rw [List.map_map]
      rw [show ((fun v : Value => v.category) ∘ mx_c ad) = mx_cat from funext (mx_cat_eq ad)]
      exact h8
    exact va_mmax hx hb (hml.trans hl.1.symm) hown (hts _ hln) (hts _ hst) (hts _ hin) (hts _ hcd) hRf (by omega) hcs.1 hcs.2 hdg (hk _ _ _ _ h.2 ls H locs hl hP hD hS)
  · exact h.elim
def mx_mmin {σ : Type} (pc : Nat) : mx_TG σ := fun L st u K Rr => match st with
  | .inl y :: .inl x :: r => decide ((r.map mx_cat).sum ≤ 8) = true ∧ K (pc + 3) L (.inl (if y < x then y else x) :: r) u
  | _ => False
theorem mx_ok_mmin {index : Nat} (hln : Cond.methodLink own index Lib.Math.min.name ∈ Ts) (hst : Cond.static Lib.Math.min.name ∈ Ts) (hin : Cond.initialized "java/lang/Math" ∈ Ts) (hcd : Cond.code Lib.Math.min.name Lib.Math.min.code 2 (some .int) ∈ Ts) (hRf : 1 ≤ R.frames) (hRl : 21 ≤ R.locals) (hdg : decode cc pc = .ok (.invokestatic index, 3)) : mx_OkG wd nc G l R cc nL own ret Ts cl pc (mx_mmin pc) := by
  intro p e s m args below meth c D cA ad cells slots Qf ⟨hx, hb, hml, hown, hts, hK, hcs, hG0⟩ Rr hE L st u K h hk ls H locs hl hP hD hS
  unfold mx_mmin at h
  split at h
  · rename_i y x r
    have h8 : (r.map mx_cat).sum ≤ 8 := of_decide_eq_true h.1
    have h9 : ((r.map (mx_c ad)).map fun v => v.category).sum ≤ 8 := by
      rw [List.map_map]
      rw [show ((fun v : Value => v.category) ∘ mx_c ad) = mx_cat from funext (mx_cat_eq ad)]
      exact h8
    exact va_mmin hx hb (hml.trans hl.1.symm) hown (hts _ hln) (hts _ hst) (hts _ hin) (hts _ hcd) hRf (by omega) hcs.1 hcs.2 hdg (hk _ _ _ _ h.2 ls H locs hl hP hD hS)
  · exact h.elim
end MXO
/-- a method's contract: where pre holds of its arguments and the world, it answers fn, and leaves fn's world -/
def mx_Qc (cl : List vw_C) (sk : mx_K) (D : va_G) (cA : ClassId) (ad : Nat → Nat) (sz : Nat) (z : Option mx_V × mx_S) : Array Value → State → Outcome → State → Prop := fun _ st oc t =>
  (oc = .returned (z.1.map (mx_c ad)) ∧ va_P D cl (mx_w ad cA z.2 0 sk) t.heap) ∧ va_F (mx_A ad sk.length sz) st t
def mx_Pc (cl : List vw_C) (sk : mx_K) (D : va_G) (cA : ClassId) (ad : Nat → Nat) (sz : Nat) (as : List mx_V) (u : mx_S) : Array Value → State → Prop :=
  va_Pc (as.map (mx_c ad)) (fun U => U.heap.size = sz ∧ va_P D cl (mx_w ad cA u 0 sk) U.heap ∧ va_K D cl [(cA, .int)] U ∧ va_D (mx_A ad sk.length sz) (mx_w ad cA u 0 sk))
def mx_Ct (l : Launch) (Ts : List Cond) (cl : List vw_C) (sk : mx_K) (rm : Room) (y : MethodName) (bytes : ByteArray) (maxL : Nat) (rt : Option FieldType) (pre : List mx_V → mx_S → Prop) (fn : mx_F) : Prop :=
  ∀ (D : va_G) (cA : ClassId) (ad : Nat → Nat) (sz : Nat) (as : List mx_V) (u : mx_S), pre as u → Met l y (Cond.code y bytes maxL rt :: Ts) rm (mx_Pc cl sk D cA ad sz as u) (mx_Qc cl sk D cA ad sz (fn as u)) 0 0 (mx_A ad sk.length sz)
def mx_fit (n : Nat) (st : List mx_V) : Bool := Nat.ble n st.length && Nat.ble ((st.drop n).map mx_cat).sum 8
theorem mx_fit_len {n : Nat} {st : List mx_V} (h : mx_fit n st = true) : n ≤ st.length := by
  unfold mx_fit at h
  rw [Bool.and_eq_true] at h
  exact Nat.le_of_ble_eq_true h.1
theorem mx_fit_room {n : Nat} {st : List mx_V} (ad : Nat → Nat) (h : mx_fit n st = true) : (((st.drop n).map (mx_c ad)).map fun v => v.category).sum ≤ 8 := by
  unfold mx_fit at h
  rw [Bool.and_eq_true] at h
  rw [List.map_map]
  rw [show ((fun v : Value => v.category) ∘ mx_c ad) = mx_cat from funext (mx_cat_eq ad)]
  exact Nat.le_of_ble_eq_true h.2
theorem mx_blind (cl : List vw_C) (sk : mx_K) (D : va_G) (cA : ClassId) (ad : Nat → Nat) (sz : Nat) (as : List mx_V) (u : mx_S) : FrameBlind (mx_Pc cl sk D cA ad sz as u) := by
  intro a U g mk q
  obtain ⟨q0, q1, qP, qK, qD⟩ := q
  exact ⟨q0, q1, qP, va_K.moved (u := U) (U := U.calling g mk a) (Vm.Alike.refl U.vm) qK, qD⟩
def mx_invS (n : Nat) (pre : List mx_V → mx_S → Prop) (fn : mx_F) (pc : Nat) : mx_T := fun L st u K _ =>
  mx_fit n st = true ∧ pre (st.take n).reverse u ∧ K (pc + 3) L ((fn (st.take n).reverse u).1.toList ++ st.drop n) (fn (st.take n).reverse u).2
def mx_isO (sk : mx_K) (ci : Nat) (v : Option mx_V) : Bool := match v with
  | some (.inr (.inr k)) => match sk[k]? with
    | some (.inl q) => Nat.beq q.1 ci
    | _ => false
  | _ => false
theorem mx_isO_at {sk : mx_K} {ci : Nat} {v : Option mx_V} (h : mx_isO sk ci v = true) : ∃ (k : Nat) (fs : List (Option Nat)), v = some (.inr (.inr k)) ∧ sk[k]? = some (.inl (ci, fs)) := by
  unfold mx_isO at h
  split at h
  · rename_i k
    split at h
    · rename_i q hq
      have e := Nat.eq_of_beq_eq_true h
      obtain ⟨a, fs⟩ := q
      dsimp only at e
      subst e
      exact ⟨k, fs, rfl, hq⟩
    · cases h
  · cases h
def mx_invV (sk : mx_K) (ci n : Nat) (pre : List mx_V → mx_S → Prop) (fn : mx_F) (pc : Nat) : mx_T := fun L st u K _ =>
  (mx_fit (n + 1) st && mx_isO sk ci (st.take (n + 1)).reverse.head?) = true ∧ pre (st.take (n + 1)).reverse u ∧ K (pc + 3) L ((fn (st.take (n + 1)).reverse u).1.toList ++ st.drop (n + 1)) (fn (st.take (n + 1)).reverse u).2
/-- what the tables say of a call: link, code, the class is initialized, the names, the number of parameters, the room -/
def mx_Cl (Ts : List Cond) (own : String) (index : Nat) (R rm : Room) (y : MethodName) (bytes : ByteArray) (maxL : Nat) (rt : Option FieldType) (n : Nat) : Prop :=
  Cond.methodLink own index y ∈ Ts ∧ Cond.code y bytes maxL rt ∈ Ts ∧ Cond.initialized y.cls ∈ Ts ∧ (y.cls ≠ "java/lang/invoke/MethodHandle" ∧ y.cls ≠ "java/lang/invoke/VarHandle" ∧ (parseMethodDescriptor y.desc).map (fun d => d.parameters.length) = some n) ∧ (rm.frames + 1 ≤ R.frames ∧ 8 + (maxL + 11) + rm.locals ≤ R.locals) ∧ rm.cells = 0 ∧ rm.slots = 0
theorem mx_good {Ts : List Cond} (hG : GoodIn Ts Ts) {y : MethodName} {bytes : ByteArray} {maxL : Nat} {rt : Option FieldType} (h : Cond.code y bytes maxL rt ∈ Ts) : GoodIn Ts (Cond.code y bytes maxL rt :: Ts) := by
  intro w hw
  rcases List.mem_cons.mp hw with rfl | h1
  · exact hG _ h
  · exact hG _ h1
section MXC
variable {l : Launch} {R rm : Room} {cc bytes : ByteArray} {nL maxL n index : Nat} {own : String} {ret rt : Option FieldType} {Ts : List Cond} {cl : List vw_C} {sk : mx_K} {pc : Nat} {y : MethodName} {pre : List mx_V → mx_S → Prop} {fn : mx_F}
/-- behind a call: the callee's world, the frame -/
theorem mx_behind {p : Program} {e : Env} {s : State} {m : MethodId} {args : Array Value} {below : List Frame} {meth : Method} {c : Code} {D : va_G} {cA : ClassId} {ad : Nat → Nat} {cells slots : Nat} {Qf : State → Prop} {ls : Array Slot} {H : Heap} {locs : List Loc} {L : List (Nat × mx_V)} {st rest : List mx_V} {u : mx_S} {z : Option mx_V × mx_S} {a : Array Value}
    (hl : lv_has ls nL (L.map (mx_lc ad))) (hD : va_D (mx_A ad sk.length s.heap.size) (mx_w ad cA u 0 sk)) (hS : va_S (mx_A ad sk.length s.heap.size) s.heap H locs)
    (hr : va_Run p l e R s m args below meth c H locs cells slots 0 0 (F0 m pc ls (st.map (mx_c ad))) (rest.map (mx_c ad)) (mx_Qc cl sk D cA ad H.size z a) (mx_A ad sk.length H.size))
    (hk : mx_AtG (mx_wd sk) sk.length l R cells slots nL cl p e s m args below meth c D cA ad Qf (pc + 3) L (z.1.toList ++ rest) z.2) : W p l e R s m args below meth c H locs cells slots Qf (F0 m pc ls (st.map (mx_c ad))) := by
  intro T hT X
  obtain ⟨v, st₀, t, T', L', h0, X', hL, e1, e2, ⟨⟨hv, hP1⟩, hz, hkk⟩, go⟩ := hr T hT X
  rw [h0] at hz hkk
  have hv : v = z.1.map (mx_c ad) := by
    injection hv
  have hA : ∀ q, mx_A ad sk.length H.size q → mx_A ad sk.length s.heap.size q := by
    intro q hq
    rcases hq with h | h
    · exact Or.inl h
    · exact Or.inr (Nat.le_trans hS.1 h)
  have hS' : va_S (mx_A ad sk.length s.heap.size) s.heap T'.heap (locs ++ L') := by
    refine ⟨Nat.le_trans hS.1 (by rw [e1]; exact hz), fun q h1 h2 => ?_, fun q hq => ?_⟩
    · rw [e1, hkk q (Nat.lt_of_lt_of_le h1 hS.1) (fun z => h2 (hA q z))]
      exact hS.2.1 q h1 h2
    · rcases List.mem_append.mp hq with h | h
      · exact hS.2.2 q h
      · exact hA _ (hL q h)
  have hst : v.toList ++ rest.map (mx_c ad) = (z.1.toList ++ rest).map (mx_c ad) := by
    rw [hv, List.map_append]
    cases z.1 <;> rfl
  obtain ⟨t2, a1, b1⟩ := hk ls T'.heap (locs ++ L') hl (by rw [e1]; exact hP1) (mx_D _ hD) hS' T' rfl X'
  refine ⟨t2, go t2 ?_, b1⟩
  show Steps _ _ _ (T'.setTop (F0 m (pc + 3) ls (v.toList ++ rest.map (mx_c ad)))) _
  rw [hst]
  exact a1
theorem mx_ok_invS (hG : GoodIn Ts Ts) (hct : mx_Ct l Ts cl sk rm y bytes maxL rt pre fn) (hC : mx_Cl Ts own index R rm y bytes maxL rt n) (hst : Cond.static y ∈ Ts) (hdg : decode cc pc = .ok (.invokestatic index, 3)) : mx_Ok l R cc nL own ret Ts cl sk pc (mx_invS n pre fn pc) := by
  intro p e s m args below meth c D cA ad cells slots Qf ⟨hx, hb, hml, hown, hts, hK, hcs, hG0⟩ Rr hE L st u K h hk ls H locs hl hP hD hS
  have hP : va_P D cl (mx_w ad cA u 0 sk) H := hP
  have hD : va_D (mx_A ad sk.length s.heap.size) (mx_w ad cA u 0 sk) := hD
  obtain ⟨c1, c2, c3, c4, c5, c6, c7⟩ := hC
  obtain ⟨h1, h2, h3⟩ := h
  have hlen : (st.take n).length = n := by rw [List.length_take]; exact Nat.min_eq_left (mx_fit_len h1)
  refine mx_behind (nL := nL) (cl := cl) (sk := sk) (D := D) (cA := cA) (L := L) (rest := st.drop n) (a := ((st.take n).reverse.map (mx_c ad)).toArray) hl hD hS ?_ (hk _ _ _ _ h3)
  exact va_runS (As := (st.take n).reverse.map (mx_c ad)) (rest := (st.drop n).map (mx_c ad)) ⟨hx, hb, hml, hown, hts⟩ (hct D cA ad H.size _ u h2) ⟨callB_of n hts (mx_good hG c2) rfl c6 c7 (hts _ c3) (hts _ c1) c4 c5, hts _ hst⟩
    ⟨mx_blind cl sk D cA ad H.size _ u, fun U hU hW => ⟨rfl, by rw [hU], by rw [hU]; exact hP, va_K.moved hW.alike hK, mx_Dz _ hD⟩⟩ rfl (by rw [List.length_map, List.length_reverse, hlen]) hl.1
    (by show st.map (mx_c ad) = _; rw [← List.map_reverse, List.reverse_reverse, ← List.map_append, List.take_append_drop]) (lv_room (mx_fit_room ad h1)) hdg hcs
theorem mx_ok_invV {C : String} {T : u_T} {N ci : Nat} (hG : GoodIn Ts Ts) (hct : mx_Ct l Ts cl sk rm y bytes maxL rt pre fn) (hC : mx_Cl Ts own index R rm y bytes maxL rt n) (hin : Cond.instanceMethod y ∈ Ts) (hse : Cond.selects C y y ∈ Ts) (hcl : cl[ci]? = some (C, T, N)) (hdg : decode cc pc = .ok (.invokevirtual index, 3)) : mx_Ok l R cc nL own ret Ts cl sk pc (mx_invV sk ci n pre fn pc) := by
  intro p e s m args below meth c D cA ad cells slots Qf ⟨hx, hb, hml, hown, hts, hK, hcs, hG0⟩ Rr hE L st u K h hk ls H locs hl hP hD hS
  have hP : va_P D cl (mx_w ad cA u 0 sk) H := hP
  have hD : va_D (mx_A ad sk.length s.heap.size) (mx_w ad cA u 0 sk) := hD
  obtain ⟨c1, c2, c3, c4, c5, c6, c7⟩ := hC
  obtain ⟨h1, h2, h3⟩ := h
  rw [Bool.and_eq_true] at h1
  have hlen : (st.take (n + 1)).length = n + 1 := by rw [List.length_take]; exact Nat.min_eq_left (mx_fit_len h1.1)
  obtain ⟨k, fs, e1, e2⟩ := mx_isO_at h1.2
  obtain ⟨as, has⟩ : ∃ as, (st.take (n + 1)).reverse = .inr (.inr k) :: as := by
    cases hq : (st.take (n + 1)).reverse with
    | nil => rw [hq] at e1; cases e1
    | cons a b =>
      rw [hq] at e1
      cases e1
      exact ⟨b, rfl⟩
  have hal : as.length = n := by
    have := congrArg List.length has
    rw [List.length_reverse, hlen] at this
    simp at this
    omega
  refine mx_behind (nL := nL) (cl := cl) (sk := sk) (D := D) (cA := cA) (L := L) (rest := st.drop (n + 1)) (a := (Value.ref (ad k) :: as.map (mx_c ad)).toArray) hl hD hS ?_ (hk _ _ _ _ h3)
  have hct' := hct D cA ad H.size _ u h2
  rw [has] at hct' ⊢
  exact va_runV (C := C) (b := ad k) (As := as.map (mx_c ad)) (rest := (st.drop (n + 1)).map (mx_c ad)) ⟨hx, hb, hml, hown, hts⟩ hct' ⟨callB_of n hts (mx_good hG c2) rfl c6 c7 (hts _ c3) (hts _ c1) c4 c5, hts _ hin, hts _ hse⟩
    ⟨mx_blind cl sk D cA ad H.size _ u, va_recv hK hP hcl (mx_w_at ad cA u sk e2), fun U hU hW => ⟨rfl, by rw [hU], by rw [hU]; exact hP, va_K.moved hW.alike hK, mx_Dz _ hD⟩⟩ rfl (by rw [List.length_map, hal]) hl.1
    (by
      show st.map (mx_c ad) = _
      have e3 : st.take (n + 1) = as.reverse ++ [.inr (.inr k)] := by
        have := congrArg List.reverse has
        rw [List.reverse_reverse, List.reverse_cons] at this
        exact this
      have e4 : st = as.reverse ++ .inr (.inr k) :: st.drop (n + 1) := by
        calc st = st.take (n + 1) ++ st.drop (n + 1) := (List.take_append_drop _ _).symm
          _ = _ := by rw [e3]; simp
      calc st.map (mx_c ad) = (as.reverse ++ .inr (.inr k) :: st.drop (n + 1)).map (mx_c ad) := by rw [← e4]
        _ = _ := by simp [mx_c]) (lv_room (mx_fit_room ad h1.1)) hdg hcs
end MXC
/-- the program of a method: its places and transformers -/
def mx_find {σ : Type} : List (Nat × mx_TG σ) → Nat → Option (mx_TG σ)
  | [], _ => none
  | q :: r, pc => bif Nat.beq q.1 pc then some q.2 else mx_find r pc
theorem mx_find_mem {σ : Type} : ∀ {tb : List (Nat × mx_TG σ)} {pc : Nat} {T : mx_TG σ}, mx_find tb pc = some T → (pc, T) ∈ tb
  | [], _, _, h => by simp [mx_find] at h
  | q :: r, pc, T, h => by
    unfold mx_find at h
    cases hq : Nat.beq q.1 pc with
    | true =>
      rw [hq] at h
      have e := Nat.eq_of_beq_eq_true hq
      have e2 : q.2 = T := Option.some.inj h
      subst e
      subst e2
      exact List.mem_cons_self
    | false =>
      rw [hq] at h
      exact List.mem_cons_of_mem _ (mx_find_mem h)
def mx_in : List Nat → Nat → Bool
  | [], _ => false
  | a :: r, x => bif Nat.beq a x then true else mx_in r x
/-- n steps, or up to one of the places 'cut' -/
def mx_sg {σ : Type} (tb : List (Nat × mx_TG σ)) (Rr : mx_RG σ) (cut : List Nat) (E : mx_PG σ) : Nat → mx_PG σ
  | 0 => E
  | n + 1 => fun pc L st u => match mx_find tb pc with
    | some T => T L st u (fun pc' L' st' u' => bif mx_in cut pc' then E pc' L' st' u' else mx_sg tb Rr cut E n pc' L' st' u') Rr
    | none => False
/-- what is to be shown of a method: every predicate that stretches of it keep holds -/
def mx_VC {σ : Type} (tb : List (Nat × mx_TG σ)) (Rr : mx_RG σ) : mx_PG σ := fun pc L st u => ∀ At : mx_PG σ, (∀ (n : Nat) (cut : List Nat) (pc : Nat) (L : List (Nat × mx_V)) (st : List mx_V) (u : σ), mx_sg tb Rr cut At n pc L st u → At pc L st u) → (∀ (ks : List Nat) (pc : Nat) (L : List (Nat × mx_V)) (st : List mx_V) (u : σ), At pc (ks.filterMap (fun k => L[k]?)) st u → At pc L st u) → At pc L st u
theorem mx_abs {a b c : Prop} (ha : a) (hb : b) (h : (a → ¬ b) := by first | exact fun x y => absurd x y | exact fun x y => absurd y x) : c := absurd hb (h ha)
theorem mx_in0 {n : Nat} (h : 0 < n) : vp_in 0 n := by
  intro q
  rcases q with q | q
  · exact absurd q (by decide)
  · rw [sb_cl0] at q
    omega
def mx_rI (u : mx_S) (z : Int32) : Option mx_V × mx_S := (some (.inl z), u)
def mx_rB (z : Int32 × mx_S) : Option mx_V × mx_S := (some (.inl z.1), z.2)
def mx_L0 : Nat → List mx_V → List (Nat × mx_V)
  | _, [] => []
  | i, v :: r => (i, v) :: mx_L0 (i + mx_cat v) r
theorem mx_L0_eq (ad : Nat → Nat) : ∀ (as : List mx_V) (i : Nat), lv_args i (as.map (mx_c ad)) = (mx_L0 i as).map (mx_lc ad)
  | [], _ => rfl
  | v :: r, i => by
    show (i, mx_c ad v) :: lv_args (if (mx_c ad v).category = 2 then i + 2 else i + 1) (r.map (mx_c ad)) = (i, mx_c ad v) :: (mx_L0 (i + mx_cat v) r).map (mx_lc ad)
    rw [show (if (mx_c ad v).category = 2 then i + 2 else i + 1) = i + mx_cat v by rcases v with x | y | k <;> rfl, mx_L0_eq ad r]
def mx_wid (as : List mx_V) : Nat := (as.map mx_cat).sum
theorem mx_sl_len (ad : Nat → Nat) : ∀ as : List mx_V, (lg_sl (as.map (mx_c ad))).length = mx_wid as
  | [] => rfl
  | v :: r => by
    have h := mx_sl_len ad r
    unfold lg_sl at h ⊢
    unfold mx_wid at h ⊢
    rw [List.map_cons, List.flatMap_cons, List.length_append, h, List.map_cons, List.sum_cons]
    rcases v with x | y | k <;> rfl
/-- stretches of a program whose instructions keep to their transformers -/
theorem mx_run {σ : Type} {wd : mx_WG σ} {nc : Nat} {G : State → (Nat → Nat) → Prop} {l : Launch} {R : Room} {cc : ByteArray} {nL : Nat} {own : String} {ret : Option FieldType} {Ts : List Cond} {cl : List vw_C} {p : Program} {e : Env} {s : State} {m : MethodId} {args : Array Value} {below : List Frame} {meth : Method} {c : Code} {D : va_G} {cA : ClassId} {ad : Nat → Nat} {cells slots : Nat} {Qf : State → Prop} {Rr : mx_RG σ} {tb : List (Nat × mx_TG σ)}
    (hOk : ∀ q ∈ tb, mx_OkG wd nc G l R cc nL own ret Ts cl q.1 q.2) (hCx : mx_Cx G R cells slots cc nL own ret Ts cl p s m args meth c D cA ad) (hE : mx_EndG wd nc l R cells slots cc ret cl p e s m args below meth c D cA ad Qf Rr) {pc : Nat} {L : List (Nat × mx_V)} {st : List mx_V} {u : σ} (h : mx_VC tb Rr pc L st u) : mx_AtG wd nc l R cells slots nL cl p e s m args below meth c D cA ad Qf pc L st u := by
  refine h _ ?_ ?_
  · intro n cut
    induction n with
    | zero => exact fun pc L st u h => h
    | succ n ih =>
      intro pc L st u h
      unfold mx_sg at h
      split at h
      · rename_i T hT
        refine hOk _ (mx_find_mem hT) p e s m args below meth c D cA ad cells slots Qf hCx _ hE L st u _ h ?_
        intro pc' L' st' u' h'
        cases hc : mx_in cut pc' with
        | true => rw [hc] at h'; exact h'
        | false => rw [hc] at h'; exact ih _ _ _ _ h'
      · exact h.elim
  · intro ks pc L st u h ls H locs hl
    refine h ls H locs ⟨hl.1, hl.2.1, fun q hq => hl.2.2 q ?_⟩
    obtain ⟨a, ha, rfl⟩ := List.mem_map.mp hq
    obtain ⟨k, -, hk⟩ := List.mem_filterMap.mp ha
    exact List.mem_map.mpr ⟨a, List.mem_of_getElem? hk, rfl⟩
theorem mx_ct_of {l : Launch} {Ts : List Cond} {cl : List vw_C} {sk : mx_K} {rm : Room} {y : MethodName} {cc : ByteArray} {nL : Nat} {ret : Option FieldType} {pre : List mx_V → mx_S → Prop} {fn : mx_F} (tb : List (Nat × mx_T)) (hy : plainName y.cls = true)
    (hOk : ∀ q ∈ tb, mx_Ok l rm cc nL y.cls ret Ts cl sk q.1 q.2) (hlen : ∀ (as : List mx_V) (u : mx_S), pre as u → mx_wid as ≤ nL) (hvc : ∀ (as : List mx_V) (u : mx_S), pre as u → mx_VC tb (fun v u' => (v, u') = fn as u) 0 (mx_L0 0 as) [] u) : mx_Ct l Ts cl sk rm y cc nL ret pre fn := by
  intro D cA ad sz as u hpre
  refine Met.ofW (cc := cc) (maxL := nL) (ret := ret) hy rfl ?_
  intro p e s m args below meth c s₁ B hml hv
  obtain ⟨rfl, hsz, hP, hK, hD⟩ := hv
  subst hsz
  have hx := B.exec
  have hb := B.bytes
  have hr := B.returns
  have hlk := B.notSynchronized
  have hts0 := atoms_spec (ws := Cond.code y cc nL ret :: Ts) B.pre
  have hts : ∀ w ∈ Ts, w.before (as.map (mx_c ad)).toArray s = true := fun w hw => hts0 w (List.mem_cons_of_mem _ hw)
  have hown : s.vm.findClass y.cls = some m.cls := findClass_of_methodNamed B.named
  have hCx : mx_Cx (fun _ _ => True) rm 0 0 cc nL y.cls ret Ts cl p s m (as.map (mx_c ad)).toArray meth c D cA ad := ⟨hx, hb, hml, hown, hts, hK, ⟨Nat.zero_le _, Nat.zero_le _⟩, trivial⟩
  have hl := lv_entry (as.map (mx_c ad)) (n := nL) (by rw [mx_sl_len]; exact hlen as u hpre)
  rw [mx_L0_eq] at hl
  rw [lg_entry_eq]
  have hQ : ∀ (v : Option mx_V) (u' : mx_S) (H : Heap) (locs : List Loc) (t : State), (v, u') = fn as u → va_P D cl (mx_w ad cA u' 0 sk) H → va_S (mx_A ad sk.length s.heap.size) s.heap H locs → t.heap = H → mx_Qc cl sk D cA ad s.heap.size (fn as u) (as.map (mx_c ad)).toArray s (.returned (v.map (mx_c ad))) t := by
    intro v u' H locs t h hP hS ht
    rw [← h]
    exact ⟨⟨rfl, by rw [ht]; exact hP⟩, hS.F ht⟩
  have hE : mx_EndG (mx_wd sk) sk.length l rm 0 0 cc ret cl p e s m (as.map (mx_c ad)).toArray below meth c D cA ad (MQ below (mx_Qc cl sk D cA ad s.heap.size (fn as u)) (as.map (mx_c ad)).toArray s 0 0 (mx_A ad sk.length s.heap.size)) (fun v u' => (v, u') = fn as u) := by
    intro pc v u' ls H locs hk h hP hS
    rcases hk with ⟨hdg, x, rfl, hk | ⟨hk, h01⟩⟩ | ⟨hdg, rfl, hk⟩
    · exact W.iret hx hb (by rw [hr, hk]) (fun t ht hW => hQ (some (.inl x)) u' H locs t h hP hS ht) hS.2.2 hdg hlk
    · exact W.zret hx hb (by rw [hr, hk]) (by rcases h01 with e1 | e1 <;> rw [e1] <;> rfl) (fun t ht hW => hQ (some (.inl x)) u' H locs t h hP hS ht) hS.2.2 hdg hlk
    · exact W.vret hx hb (by rw [hr, hk]) (fun t ht hW => hQ none u' H locs t h hP hS ht) hS.2.2 hdg hlk
  exact mx_run hOk hCx hE (hvc as u hpre) _ _ [] hl hP hD va_S.rf

def kx (np nd : Nat) : mx_K := [.inl (0, [some 1, some 2, some 3, some 4, some 8, none, none, none, none, none, none, none]), .inr np, .inr nd, .inr 32, .inl (1, [some 5, some 6, some 7, none]), .inr 18, .inr 18, .inr 18, .inl (2, [some 9, some 10, none]), .inr 12, .inr 12]
def km : mx_K := [.inl (3, [none, none, none, some 1, some 2, some 3, none, none, none, none, none, none, none, none, some 4, some 5, some 6, none, some 7, some 8, none, some 9, some 10]), .inr 256, .inr 256, .inr 32, .inr 64, .inr 64, .inr 64, .inr 32, .inr 32, .inr 8, .inr 8]
theorem fd_xm_13 : mx_Fd vw_T vw_cl "WideMachine" 0 0 13 := ⟨_, _, _, rfl, by decide, ui_0, vm_42⟩
theorem fd_xm_17 : mx_Fd vw_T vw_cl "WideMachine" 0 1 17 := ⟨_, _, _, rfl, by decide, ui_0, vm_43⟩
theorem fd_xm_20 : mx_Fd vw_T vw_cl "WideMachine" 0 2 20 := ⟨_, _, _, rfl, by decide, ui_0, vm_49⟩
theorem fd_xq_19 : mx_Fd vw_T vw_cl "WideMachine$Writes" 1 3 19 := ⟨_, _, _, rfl, by decide, ui_1, vm_50⟩
theorem fd_xq_16 : mx_Fd vw_T vw_cl "WideMachine$Writes" 1 2 16 := ⟨_, _, _, rfl, by decide, ui_1, vm_51⟩
theorem fd_xq_9 : mx_Fd vw_T vw_cl "WideMachine$Writes" 1 0 9 := ⟨_, _, _, rfl, by decide, ui_1, vm_52⟩
theorem fd_xq_13 : mx_Fd vw_T vw_cl "WideMachine$Writes" 1 1 13 := ⟨_, _, _, rfl, by decide, ui_1, vm_53⟩
theorem fd_xm_26 : mx_Fd vw_T vw_cl "WideMachine" 0 3 26 := ⟨_, _, _, rfl, by decide, ui_0, vm_54⟩
theorem fd_xm_41 : mx_Fd vw_T vw_cl "WideMachine" 0 5 41 := ⟨_, _, _, rfl, by decide, ui_0, vm_64⟩
theorem fd_xb_16 : mx_Fd vw_T vw_cl "WideMachine$Branches" 2 2 16 := ⟨_, _, _, rfl, by decide, ui_2, vm_69⟩
theorem fd_xb_13 : mx_Fd vw_T vw_cl "WideMachine$Branches" 2 1 13 := ⟨_, _, _, rfl, by decide, ui_2, vm_70⟩
theorem fd_xb_9 : mx_Fd vw_T vw_cl "WideMachine$Branches" 2 0 9 := ⟨_, _, _, rfl, by decide, ui_2, vm_71⟩
theorem fd_xm_33 : mx_Fd vw_T vw_cl "WideMachine" 0 4 33 := ⟨_, _, _, rfl, by decide, ui_0, vm_72⟩
theorem fd_xm_48 : mx_Fd vw_T vw_cl "WideMachine" 0 6 48 := ⟨_, _, _, rfl, by decide, ui_0, vm_86⟩
theorem fd_xm_68 : mx_Fd vw_T vw_cl "WideMachine" 0 10 68 := ⟨_, _, _, rfl, by decide, ui_0, vm_87⟩
theorem fd_xm_64 : mx_Fd vw_T vw_cl "WideMachine" 0 11 64 := ⟨_, _, _, rfl, by decide, ui_0, vm_88⟩
theorem fd_xm_57 : mx_Fd vw_T vw_cl "WideMachine" 2 2 57 := ⟨_, _, _, rfl, by decide, ui_2, vm_89⟩
theorem fd_xm_61 : mx_Fd vw_T vw_cl "WideMachine" 0 9 61 := ⟨_, _, _, rfl, by decide, ui_0, vm_94⟩
theorem fd_xm_58 : mx_Fd vw_T vw_cl "WideMachine" 0 8 58 := ⟨_, _, _, rfl, by decide, ui_0, vm_230⟩
theorem fd_xm_51 : mx_Fd vw_T vw_cl "WideMachine" 0 7 51 := ⟨_, _, _, rfl, by decide, ui_0, vm_258⟩
theorem fd_xm_54 : mx_Fd vw_T vw_cl "WideMachine" 1 3 54 := ⟨_, _, _, rfl, by decide, ui_1, vm_287⟩
theorem fd_xm_71 : mx_Fd vw_T vw_cl "WideMachine" 1 0 71 := ⟨_, _, _, rfl, by decide, ui_1, vm_288⟩
theorem fd_xm_74 : mx_Fd vw_T vw_cl "WideMachine" 1 1 74 := ⟨_, _, _, rfl, by decide, ui_1, vm_289⟩
theorem fd_xm_77 : mx_Fd vw_T vw_cl "WideMachine" 1 2 77 := ⟨_, _, _, rfl, by decide, ui_1, vm_290⟩
theorem fd_mm_47 : mx_Fd vw_T vw_cl "WideMachineModel" 3 0 47 := ⟨_, _, _, rfl, by decide, ui_3, vm_302⟩
theorem fd_mm_40 : mx_Fd vw_T vw_cl "WideMachineModel" 3 1 40 := ⟨_, _, _, rfl, by decide, ui_3, vm_303⟩
theorem fd_mm_7 : mx_Fd vw_T vw_cl "WideMachineModel" 3 3 7 := ⟨_, _, _, rfl, by decide, ui_3, vm_304⟩
theorem fd_mm_44 : mx_Fd vw_T vw_cl "WideMachineModel" 3 2 44 := ⟨_, _, _, rfl, by decide, ui_3, vm_305⟩
theorem fd_mm_13 : mx_Fd vw_T vw_cl "WideMachineModel" 3 4 13 := ⟨_, _, _, rfl, by decide, ui_3, vm_306⟩
theorem fd_mm_16 : mx_Fd vw_T vw_cl "WideMachineModel" 3 5 16 := ⟨_, _, _, rfl, by decide, ui_3, vm_307⟩
theorem fd_mm_50 : mx_Fd vw_T vw_cl "WideMachineModel" 3 6 50 := ⟨_, _, _, rfl, by decide, ui_3, vm_308⟩
theorem fd_mm_53 : mx_Fd vw_T vw_cl "WideMachineModel" 3 7 53 := ⟨_, _, _, rfl, by decide, ui_3, vm_309⟩
theorem fd_mm_56 : mx_Fd vw_T vw_cl "WideMachineModel" 3 8 56 := ⟨_, _, _, rfl, by decide, ui_3, vm_310⟩
theorem fd_mm_59 : mx_Fd vw_T vw_cl "WideMachineModel" 3 13 59 := ⟨_, _, _, rfl, by decide, ui_3, vm_311⟩
theorem fd_mm_62 : mx_Fd vw_T vw_cl "WideMachineModel" 3 17 62 := ⟨_, _, _, rfl, by decide, ui_3, vm_312⟩
theorem fd_mm_65 : mx_Fd vw_T vw_cl "WideMachineModel" 3 9 65 := ⟨_, _, _, rfl, by decide, ui_3, vm_313⟩
theorem fd_mm_68 : mx_Fd vw_T vw_cl "WideMachineModel" 3 10 68 := ⟨_, _, _, rfl, by decide, ui_3, vm_314⟩
theorem fd_mm_71 : mx_Fd vw_T vw_cl "WideMachineModel" 3 11 71 := ⟨_, _, _, rfl, by decide, ui_3, vm_315⟩
theorem fd_mm_75 : mx_Fd vw_T vw_cl "WideMachineModel" 3 12 75 := ⟨_, _, _, rfl, by decide, ui_3, vm_316⟩
theorem fd_mm_19 : mx_Fd vw_T vw_cl "WideMachineModel" 3 14 19 := ⟨_, _, _, rfl, by decide, ui_3, vm_317⟩
theorem fd_mm_22 : mx_Fd vw_T vw_cl "WideMachineModel" 3 15 22 := ⟨_, _, _, rfl, by decide, ui_3, vm_318⟩
theorem fd_mm_25 : mx_Fd vw_T vw_cl "WideMachineModel" 3 16 25 := ⟨_, _, _, rfl, by decide, ui_3, vm_319⟩
theorem fd_mm_31 : mx_Fd vw_T vw_cl "WideMachineModel" 3 19 31 := ⟨_, _, _, rfl, by decide, ui_3, vm_320⟩
theorem fd_mm_28 : mx_Fd vw_T vw_cl "WideMachineModel" 3 18 28 := ⟨_, _, _, rfl, by decide, ui_3, vm_321⟩
theorem fd_mm_34 : mx_Fd vw_T vw_cl "WideMachineModel" 3 21 34 := ⟨_, _, _, rfl, by decide, ui_3, vm_381⟩
theorem fd_mm_150 : mx_Fd vw_T vw_cl "WideMachineModel" 3 20 150 := ⟨_, _, _, rfl, by decide, ui_3, vm_382⟩
theorem fd_mm_37 : mx_Fd vw_T vw_cl "WideMachineModel" 3 22 37 := ⟨_, _, _, rfl, by decide, ui_3, vm_383⟩
theorem fw_1_3 : mx_Fw vw_cl 1 3 .int := ⟨_, _, _, ft_1, rfl, fo_1, fn_1, rfl, by decide +kernel⟩
theorem fw_0_5 : mx_Fw vw_cl 0 5 .int := ⟨_, _, _, ft_0, rfl, fo_0, fn_0, rfl, by decide +kernel⟩
theorem fw_2_2 : mx_Fw vw_cl 2 2 .int := ⟨_, _, _, ft_2, rfl, fo_2, fn_2, rfl, by decide +kernel⟩
theorem fw_0_6 : mx_Fw vw_cl 0 6 .int := ⟨_, _, _, ft_0, rfl, fo_0, fn_0, rfl, by decide +kernel⟩
theorem fw_0_10 : mx_Fw vw_cl 0 10 .int := ⟨_, _, _, ft_0, rfl, fo_0, fn_0, rfl, by decide +kernel⟩
theorem fw_0_11 : mx_Fw vw_cl 0 11 .boolean := ⟨_, _, _, ft_0, rfl, fo_0, fn_0, rfl, by decide +kernel⟩
theorem fw_0_9 : mx_Fw vw_cl 0 9 .int := ⟨_, _, _, ft_0, rfl, fo_0, fn_0, rfl, by decide +kernel⟩
theorem fw_0_8 : mx_Fw vw_cl 0 8 .int := ⟨_, _, _, ft_0, rfl, fo_0, fn_0, rfl, by decide +kernel⟩
theorem fw_0_7 : mx_Fw vw_cl 0 7 .int := ⟨_, _, _, ft_0, rfl, fo_0, fn_0, rfl, by decide +kernel⟩
theorem fw_3_0 : mx_Fw vw_cl 3 0 .int := ⟨_, _, _, ft_3, rfl, fo_3, fn_3, rfl, by decide +kernel⟩
theorem fw_3_12 : mx_Fw vw_cl 3 12 .int := ⟨_, _, _, ft_3, rfl, fo_3, fn_3, rfl, by decide +kernel⟩
theorem fw_3_11 : mx_Fw vw_cl 3 11 .boolean := ⟨_, _, _, ft_3, rfl, fo_3, fn_3, rfl, by decide +kernel⟩
theorem fw_3_6 : mx_Fw vw_cl 3 6 .int := ⟨_, _, _, ft_3, rfl, fo_3, fn_3, rfl, by decide +kernel⟩
theorem fw_3_9 : mx_Fw vw_cl 3 9 .int := ⟨_, _, _, ft_3, rfl, fo_3, fn_3, rfl, by decide +kernel⟩
theorem fw_3_13 : mx_Fw vw_cl 3 13 .int := ⟨_, _, _, ft_3, rfl, fo_3, fn_3, rfl, by decide +kernel⟩
theorem fw_3_17 : mx_Fw vw_cl 3 17 .int := ⟨_, _, _, ft_3, rfl, fo_3, fn_3, rfl, by decide +kernel⟩
theorem fw_3_7 : mx_Fw vw_cl 3 7 .int := ⟨_, _, _, ft_3, rfl, fo_3, fn_3, rfl, by decide +kernel⟩
theorem fw_3_10 : mx_Fw vw_cl 3 10 .int := ⟨_, _, _, ft_3, rfl, fo_3, fn_3, rfl, by decide +kernel⟩
theorem fw_3_20 : mx_Fw vw_cl 3 20 .int := ⟨_, _, _, ft_3, rfl, fo_3, fn_3, rfl, by decide +kernel⟩
theorem fw_3_8 : mx_Fw vw_cl 3 8 .int := ⟨_, _, _, ft_3, rfl, fo_3, fn_3, rfl, by decide +kernel⟩
end
section
/-! WideMachine$Word.goesOn(I)Z -/
def xw_goesOn (a1 : Int32) : Int32 :=
  if (a1 &&& (1 : Int32)) = 0 then
   0
  else
   1
def pre_xw_goesOn (np nd : Nat) : List mx_V → mx_S → Prop := fun as u => ∃ (a1 : Int32), as = [.inl a1] ∧ True
def fn_xw_goesOn (np nd : Nat) : mx_F := fun as u => match as with
  | [.inl a1] => mx_rI u (xw_goesOn a1 )
  | _ => (none, u)
def tb_xw_goesOn (np nd : Nat) : List (Nat × mx_T) := [
  (0, mx_iload_n 0 0),
  (1, mx_iconst 1 1),
  (2, mx_iand 2),
  (3, mx_if_eq 10 3),
  (6, mx_iconst 1 6),
  (7, mx_goto 11 7),
  (10, mx_iconst 0 10),
  (11, mx_zret 11)]
set_option maxRecDepth 100000 in
set_option maxHeartbeats 4000000 in
theorem ok_xw_goesOn (l : Launch) (np nd : Nat) : ∀ q ∈ tb_xw_goesOn np nd , mx_Ok l ({ frames := 0, cells := 0, slots := 0, locals := 0 } : Room) b_xw_goesOn 1 "WideMachine$Word" (some .boolean) vw_T vw_cl (kx np nd) q.1 q.2 := by
  refine List.forall_mem_cons.mpr ⟨mx_ok_iload_n (show decode b_xw_goesOn 0 = .ok (.iload_n 0, 1) by decide +kernel) rfl, ?_⟩
  refine List.forall_mem_cons.mpr ⟨mx_ok_iconst (show decode b_xw_goesOn 1 = .ok (.iconst 1, 1) by decide +kernel) (by decide), ?_⟩
  refine List.forall_mem_cons.mpr ⟨mx_ok_iand (show decode b_xw_goesOn 2 = .ok (.iand, 1) by decide +kernel), ?_⟩
  refine List.forall_mem_cons.mpr ⟨mx_ok_if_eq (show decode b_xw_goesOn 3 = .ok (.ifCond .eq 7, 3) by decide +kernel) (by decide), ?_⟩
  refine List.forall_mem_cons.mpr ⟨mx_ok_iconst (show decode b_xw_goesOn 6 = .ok (.iconst 1, 1) by decide +kernel) (by decide), ?_⟩
  refine List.forall_mem_cons.mpr ⟨mx_ok_goto (show decode b_xw_goesOn 7 = .ok (.goto 4, 3) by decide +kernel) (by decide), ?_⟩
  refine List.forall_mem_cons.mpr ⟨mx_ok_iconst (show decode b_xw_goesOn 10 = .ok (.iconst 0, 1) by decide +kernel) (by decide), ?_⟩
  refine List.forall_mem_cons.mpr ⟨mx_ok_zret (show decode b_xw_goesOn 11 = .ok (.ireturn, 1) by decide +kernel) rfl, ?_⟩
  exact fun _ h => absurd h List.not_mem_nil
set_option maxRecDepth 100000 in
set_option maxHeartbeats 4000000 in
theorem ct_xw_goesOn (l : Launch) (np nd : Nat) : mx_Ct l vw_T vw_cl (kx np nd) { frames := 0, cells := 0, slots := 0, locals := 0 } y_xw_goesOn b_xw_goesOn 1 (some .boolean) (pre_xw_goesOn np nd) (fn_xw_goesOn np nd) := by
  refine mx_ct_of (tb_xw_goesOn np nd ) (by decide) (ok_xw_goesOn l np nd ) (fun as u h => by obtain ⟨_, rfl, -⟩ := h; exact Nat.le_of_ble_eq_true rfl) ?_
  intro as u hpre At hc hw
  obtain ⟨a1, rfl, hp⟩ := hpre
  exact hc 200 [] _ _ _ _ (
    And.intro (fun h3 => 
     And.intro (Or.inl rfl) (
     congrArg (mx_rI u) (show 0 = (xw_goesOn a1 ) from (if_pos h3).symm))) (fun h3 => 
     And.intro (Or.inr rfl) (
     congrArg (mx_rI u) (show 1 = (xw_goesOn a1 ) from (if_neg h3).symm))))
/-! WideMachine$Word.code(I)I -/
def xw_code (a1 : Int32) : Int32 :=
  ((((a1 >>> ((5 : Int32) &&& 31)) &&& (3 : Int32)) <<< ((4 : Int32) &&& 31)) ||| ((a1 >>> ((8 : Int32) &&& 31)) &&& (15 : Int32)))
def pre_xw_code (np nd : Nat) : List mx_V → mx_S → Prop := fun as u => ∃ (a1 : Int32), as = [.inl a1] ∧ True
def fn_xw_code (np nd : Nat) : mx_F := fun as u => match as with
  | [.inl a1] => mx_rI u (xw_code a1 )
  | _ => (none, u)
def tb_xw_code (np nd : Nat) : List (Nat × mx_T) := [
  (0, mx_iload_n 0 0),
  (1, mx_iconst 5 1),
  (2, mx_ishr 2),
  (3, mx_iconst 3 3),
  (4, mx_iand 4),
  (5, mx_iconst 4 5),
  (6, mx_ishl 6),
  (7, mx_iload_n 0 7),
  (8, mx_bipush 8 8),
  (10, mx_ishr 10),
  (11, mx_bipush 15 11),
  (13, mx_iand 13),
  (14, mx_ior 14),
  (15, mx_iret 15)]
set_option maxRecDepth 100000 in
set_option maxHeartbeats 4000000 in
theorem ok_xw_code (l : Launch) (np nd : Nat) : ∀ q ∈ tb_xw_code np nd , mx_Ok l ({ frames := 0, cells := 0, slots := 0, locals := 0 } : Room) b_xw_code 1 "WideMachine$Word" (some .int) vw_T vw_cl (kx np nd) q.1 q.2 := by
  refine List.forall_mem_cons.mpr ⟨mx_ok_iload_n (show decode b_xw_code 0 = .ok (.iload_n 0, 1) by decide +kernel) rfl, ?_⟩
  refine List.forall_mem_cons.mpr ⟨mx_ok_iconst (show decode b_xw_code 1 = .ok (.iconst 5, 1) by decide +kernel) (by decide), ?_⟩
  refine List.forall_mem_cons.mpr ⟨mx_ok_ishr (show decode b_xw_code 2 = .ok (.ishr, 1) by decide +kernel), ?_⟩
  refine List.forall_mem_cons.mpr ⟨mx_ok_iconst (show decode b_xw_code 3 = .ok (.iconst 3, 1) by decide +kernel) (by decide), ?_⟩
  refine List.forall_mem_cons.mpr ⟨mx_ok_iand (show decode b_xw_code 4 = .ok (.iand, 1) by decide +kernel), ?_⟩
  refine List.forall_mem_cons.mpr ⟨mx_ok_iconst (show decode b_xw_code 5 = .ok (.iconst 4, 1) by decide +kernel) (by decide), ?_⟩
  refine List.forall_mem_cons.mpr ⟨mx_ok_ishl (show decode b_xw_code 6 = .ok (.ishl, 1) by decide +kernel), ?_⟩
  refine List.forall_mem_cons.mpr ⟨mx_ok_iload_n (show decode b_xw_code 7 = .ok (.iload_n 0, 1) by decide +kernel) rfl, ?_⟩
  refine List.forall_mem_cons.mpr ⟨mx_ok_bipush (show decode b_xw_code 8 = .ok (.bipush 8, 2) by decide +kernel) (by decide), ?_⟩
  refine List.forall_mem_cons.mpr ⟨mx_ok_ishr (show decode b_xw_code 10 = .ok (.ishr, 1) by decide +kernel), ?_⟩
  refine List.forall_mem_cons.mpr ⟨mx_ok_bipush (show decode b_xw_code 11 = .ok (.bipush 15, 2) by decide +kernel) (by decide), ?_⟩
  refine List.forall_mem_cons.mpr ⟨mx_ok_iand (show decode b_xw_code 13 = .ok (.iand, 1) by decide +kernel), ?_⟩
  refine List.forall_mem_cons.mpr ⟨mx_ok_ior (show decode b_xw_code 14 = .ok (.ior, 1) by decide +kernel), ?_⟩
  refine List.forall_mem_cons.mpr ⟨mx_ok_iret (show decode b_xw_code 15 = .ok (.ireturn, 1) by decide +kernel) rfl, ?_⟩
  exact fun _ h => absurd h List.not_mem_nil
set_option maxRecDepth 100000 in
set_option maxHeartbeats 4000000 in
theorem ct_xw_code (l : Launch) (np nd : Nat) : mx_Ct l vw_T vw_cl (kx np nd) { frames := 0, cells := 0, slots := 0, locals := 0 } y_xw_code b_xw_code 1 (some .int) (pre_xw_code np nd) (fn_xw_code np nd) := by
  refine mx_ct_of (tb_xw_code np nd ) (by decide) (ok_xw_code l np nd ) (fun as u h => by obtain ⟨_, rfl, -⟩ := h; exact Nat.le_of_ble_eq_true rfl) ?_
  intro as u hpre At hc hw
  obtain ⟨a1, rfl, hp⟩ := hpre
  exact hc 200 [] _ _ _ _ (
    congrArg (mx_rI u) (show ((((a1 >>> ((5 : Int32) &&& 31)) &&& (3 : Int32)) <<< ((4 : Int32) &&& 31)) ||| ((a1 >>> ((8 : Int32) &&& 31)) &&& (15 : Int32))) = (xw_code a1 ) from (rfl).symm))
/-! WideMachine$Word.isOnZero(I)Z -/
def xw_isOnZero (a1 : Int32) : Int32 :=
  if ((a1 >>> ((4 : Int32) &&& 31)) &&& (1 : Int32)) = 0 then
   0
  else
   1
def pre_xw_isOnZero (np nd : Nat) : List mx_V → mx_S → Prop := fun as u => ∃ (a1 : Int32), as = [.inl a1] ∧ True
def fn_xw_isOnZero (np nd : Nat) : mx_F := fun as u => match as with
  | [.inl a1] => mx_rI u (xw_isOnZero a1 )
  | _ => (none, u)
def tb_xw_isOnZero (np nd : Nat) : List (Nat × mx_T) := [
  (0, mx_iload_n 0 0),
  (1, mx_iconst 4 1),
  (2, mx_ishr 2),
  (3, mx_iconst 1 3),
  (4, mx_iand 4),
  (5, mx_if_eq 12 5),
  (8, mx_iconst 1 8),
  (9, mx_goto 13 9),
  (12, mx_iconst 0 12),
  (13, mx_zret 13)]
set_option maxRecDepth 100000 in
set_option maxHeartbeats 4000000 in
theorem ok_xw_isOnZero (l : Launch) (np nd : Nat) : ∀ q ∈ tb_xw_isOnZero np nd , mx_Ok l ({ frames := 0, cells := 0, slots := 0, locals := 0 } : Room) b_xw_isOnZero 1 "WideMachine$Word" (some .boolean) vw_T vw_cl (kx np nd) q.1 q.2 := by
  refine List.forall_mem_cons.mpr ⟨mx_ok_iload_n (show decode b_xw_isOnZero 0 = .ok (.iload_n 0, 1) by decide +kernel) rfl, ?_⟩
  refine List.forall_mem_cons.mpr ⟨mx_ok_iconst (show decode b_xw_isOnZero 1 = .ok (.iconst 4, 1) by decide +kernel) (by decide), ?_⟩
  refine List.forall_mem_cons.mpr ⟨mx_ok_ishr (show decode b_xw_isOnZero 2 = .ok (.ishr, 1) by decide +kernel), ?_⟩
  refine List.forall_mem_cons.mpr ⟨mx_ok_iconst (show decode b_xw_isOnZero 3 = .ok (.iconst 1, 1) by decide +kernel) (by decide), ?_⟩
  refine List.forall_mem_cons.mpr ⟨mx_ok_iand (show decode b_xw_isOnZero 4 = .ok (.iand, 1) by decide +kernel), ?_⟩
  refine List.forall_mem_cons.mpr ⟨mx_ok_if_eq (show decode b_xw_isOnZero 5 = .ok (.ifCond .eq 7, 3) by decide +kernel) (by decide), ?_⟩
  refine List.forall_mem_cons.mpr ⟨mx_ok_iconst (show decode b_xw_isOnZero 8 = .ok (.iconst 1, 1) by decide +kernel) (by decide), ?_⟩
  refine List.forall_mem_cons.mpr ⟨mx_ok_goto (show decode b_xw_isOnZero 9 = .ok (.goto 4, 3) by decide +kernel) (by decide), ?_⟩
  refine List.forall_mem_cons.mpr ⟨mx_ok_iconst (show decode b_xw_isOnZero 12 = .ok (.iconst 0, 1) by decide +kernel) (by decide), ?_⟩
  refine List.forall_mem_cons.mpr ⟨mx_ok_zret (show decode b_xw_isOnZero 13 = .ok (.ireturn, 1) by decide +kernel) rfl, ?_⟩
  exact fun _ h => absurd h List.not_mem_nil
set_option maxRecDepth 100000 in
set_option maxHeartbeats 4000000 in
theorem ct_xw_isOnZero (l : Launch) (np nd : Nat) : mx_Ct l vw_T vw_cl (kx np nd) { frames := 0, cells := 0, slots := 0, locals := 0 } y_xw_isOnZero b_xw_isOnZero 1 (some .boolean) (pre_xw_isOnZero np nd) (fn_xw_isOnZero np nd) := by
  refine mx_ct_of (tb_xw_isOnZero np nd ) (by decide) (ok_xw_isOnZero l np nd ) (fun as u h => by obtain ⟨_, rfl, -⟩ := h; exact Nat.le_of_ble_eq_true rfl) ?_
  intro as u hpre At hc hw
  obtain ⟨a1, rfl, hp⟩ := hpre
  exact hc 200 [] _ _ _ _ (
    And.intro (fun h5 => 
     And.intro (Or.inl rfl) (
     congrArg (mx_rI u) (show 0 = (xw_isOnZero a1 ) from (if_pos h5).symm))) (fun h5 => 
     And.intro (Or.inr rfl) (
     congrArg (mx_rI u) (show 1 = (xw_isOnZero a1 ) from (if_neg h5).symm))))
/-! WideMachine$Word.isOperation(I)Z -/
def xw_isOperation (a1 : Int32) : Int32 :=
  if (a1 >>> ((4 : Int32) &&& 31)) = 0 then
   if 9 < a1 then
    0
   else
    1
  else
  if (a1 >>> ((4 : Int32) &&& 31)) = 1 then
   if 27 < a1 then
    0
   else
    1
  else
  if (a1 >>> ((4 : Int32) &&& 31)) = 2 then
   if 35 < a1 then
    0
   else
    1
  else
  if 51 < a1 then
   0
  else
   1
def pre_xw_isOperation (np nd : Nat) : List mx_V → mx_S → Prop := fun as u => ∃ (a1 : Int32), as = [.inl a1] ∧ True
def fn_xw_isOperation (np nd : Nat) : mx_F := fun as u => match as with
  | [.inl a1] => mx_rI u (xw_isOperation a1 )
  | _ => (none, u)
def tb_xw_isOperation (np nd : Nat) : List (Nat × mx_T) := [
  (0, mx_iload_n 0 0),
  (1, mx_iconst 4 1),
  (2, mx_ishr 2),
  (3, mx_tsw 64 [(0, 28), (1, 40), (2, 52)] 3),
  (28, mx_iload_n 0 28),
  (29, mx_bipush 9 29),
  (31, mx_icmp_gt 38 31),
  (34, mx_iconst 1 34),
  (35, mx_goto 39 35),
  (38, mx_iconst 0 38),
  (39, mx_zret 39),
  (40, mx_iload_n 0 40),
  (41, mx_bipush 27 41),
  (43, mx_icmp_gt 50 43),
  (46, mx_iconst 1 46),
  (47, mx_goto 51 47),
  (50, mx_iconst 0 50),
  (51, mx_zret 51),
  (52, mx_iload_n 0 52),
  (53, mx_bipush 35 53),
  (55, mx_icmp_gt 62 55),
  (58, mx_iconst 1 58),
  (59, mx_goto 63 59),
  (62, mx_iconst 0 62),
  (63, mx_zret 63),
  (64, mx_iload_n 0 64),
  (65, mx_bipush 51 65),
  (67, mx_icmp_gt 74 67),
  (70, mx_iconst 1 70),
  (71, mx_goto 75 71),
  (74, mx_iconst 0 74),
  (75, mx_zret 75)]
set_option maxRecDepth 100000 in
set_option maxHeartbeats 4000000 in
theorem ok_xw_isOperation (l : Launch) (np nd : Nat) : ∀ q ∈ tb_xw_isOperation np nd , mx_Ok l ({ frames := 0, cells := 0, slots := 0, locals := 0 } : Room) b_xw_isOperation 1 "WideMachine$Word" (some .boolean) vw_T vw_cl (kx np nd) q.1 q.2 := by
  refine List.forall_mem_cons.mpr ⟨mx_ok_iload_n (show decode b_xw_isOperation 0 = .ok (.iload_n 0, 1) by decide +kernel) rfl, ?_⟩
  refine List.forall_mem_cons.mpr ⟨mx_ok_iconst (show decode b_xw_isOperation 1 = .ok (.iconst 4, 1) by decide +kernel) (by decide), ?_⟩
  refine List.forall_mem_cons.mpr ⟨mx_ok_ishr (show decode b_xw_isOperation 2 = .ok (.ishr, 1) by decide +kernel), ?_⟩
  refine List.forall_mem_cons.mpr ⟨mx_ok_tsw (show decode b_xw_isOperation 3 = .ok (.tableswitch 61 0 2 #[25, 37, 49], 25) by decide +kernel) (by decide) (by decide), ?_⟩
  refine List.forall_mem_cons.mpr ⟨mx_ok_iload_n (show decode b_xw_isOperation 28 = .ok (.iload_n 0, 1) by decide +kernel) rfl, ?_⟩
  refine List.forall_mem_cons.mpr ⟨mx_ok_bipush (show decode b_xw_isOperation 29 = .ok (.bipush 9, 2) by decide +kernel) (by decide), ?_⟩
  refine List.forall_mem_cons.mpr ⟨mx_ok_icmp_gt (show decode b_xw_isOperation 31 = .ok (.if_icmp .gt 7, 3) by decide +kernel) (by decide), ?_⟩
  refine List.forall_mem_cons.mpr ⟨mx_ok_iconst (show decode b_xw_isOperation 34 = .ok (.iconst 1, 1) by decide +kernel) (by decide), ?_⟩
  refine List.forall_mem_cons.mpr ⟨mx_ok_goto (show decode b_xw_isOperation 35 = .ok (.goto 4, 3) by decide +kernel) (by decide), ?_⟩
  refine List.forall_mem_cons.mpr ⟨mx_ok_iconst (show decode b_xw_isOperation 38 = .ok (.iconst 0, 1) by decide +kernel) (by decide), ?_⟩
  refine List.forall_mem_cons.mpr ⟨mx_ok_zret (show decode b_xw_isOperation 39 = .ok (.ireturn, 1) by decide +kernel) rfl, ?_⟩
  refine List.forall_mem_cons.mpr ⟨mx_ok_iload_n (show decode b_xw_isOperation 40 = .ok (.iload_n 0, 1) by decide +kernel) rfl, ?_⟩
  refine List.forall_mem_cons.mpr ⟨mx_ok_bipush (show decode b_xw_isOperation 41 = .ok (.bipush 27, 2) by decide +kernel) (by decide), ?_⟩
  refine List.forall_mem_cons.mpr ⟨mx_ok_icmp_gt (show decode b_xw_isOperation 43 = .ok (.if_icmp .gt 7, 3) by decide +kernel) (by decide), ?_⟩
  refine List.forall_mem_cons.mpr ⟨mx_ok_iconst (show decode b_xw_isOperation 46 = .ok (.iconst 1, 1) by decide +kernel) (by decide), ?_⟩
  refine List.forall_mem_cons.mpr ⟨mx_ok_goto (show decode b_xw_isOperation 47 = .ok (.goto 4, 3) by decide +kernel) (by decide), ?_⟩
  refine List.forall_mem_cons.mpr ⟨mx_ok_iconst (show decode b_xw_isOperation 50 = .ok (.iconst 0, 1) by decide +kernel) (by decide), ?_⟩
  refine List.forall_mem_cons.mpr ⟨mx_ok_zret (show decode b_xw_isOperation 51 = .ok (.ireturn, 1) by decide +kernel) rfl, ?_⟩
  refine List.forall_mem_cons.mpr ⟨mx_ok_iload_n (show decode b_xw_isOperation 52 = .ok (.iload_n 0, 1) by decide +kernel) rfl, ?_⟩
  refine List.forall_mem_cons.mpr ⟨mx_ok_bipush (show decode b_xw_isOperation 53 = .ok (.bipush 35, 2) by decide +kernel) (by decide), ?_⟩
  refine List.forall_mem_cons.mpr ⟨mx_ok_icmp_gt (show decode b_xw_isOperation 55 = .ok (.if_icmp .gt 7, 3) by decide +kernel) (by decide), ?_⟩
  refine List.forall_mem_cons.mpr ⟨mx_ok_iconst (show decode b_xw_isOperation 58 = .ok (.iconst 1, 1) by decide +kernel) (by decide), ?_⟩
  refine List.forall_mem_cons.mpr ⟨mx_ok_goto (show decode b_xw_isOperation 59 = .ok (.goto 4, 3) by decide +kernel) (by decide), ?_⟩
  refine List.forall_mem_cons.mpr ⟨mx_ok_iconst (show decode b_xw_isOperation 62 = .ok (.iconst 0, 1) by decide +kernel) (by decide), ?_⟩
  refine List.forall_mem_cons.mpr ⟨mx_ok_zret (show decode b_xw_isOperation 63 = .ok (.ireturn, 1) by decide +kernel) rfl, ?_⟩
  refine List.forall_mem_cons.mpr ⟨mx_ok_iload_n (show decode b_xw_isOperation 64 = .ok (.iload_n 0, 1) by decide +kernel) rfl, ?_⟩
  refine List.forall_mem_cons.mpr ⟨mx_ok_bipush (show decode b_xw_isOperation 65 = .ok (.bipush 51, 2) by decide +kernel) (by decide), ?_⟩
  refine List.forall_mem_cons.mpr ⟨mx_ok_icmp_gt (show decode b_xw_isOperation 67 = .ok (.if_icmp .gt 7, 3) by decide +kernel) (by decide), ?_⟩
  refine List.forall_mem_cons.mpr ⟨mx_ok_iconst (show decode b_xw_isOperation 70 = .ok (.iconst 1, 1) by decide +kernel) (by decide), ?_⟩
  refine List.forall_mem_cons.mpr ⟨mx_ok_goto (show decode b_xw_isOperation 71 = .ok (.goto 4, 3) by decide +kernel) (by decide), ?_⟩
  refine List.forall_mem_cons.mpr ⟨mx_ok_iconst (show decode b_xw_isOperation 74 = .ok (.iconst 0, 1) by decide +kernel) (by decide), ?_⟩
  refine List.forall_mem_cons.mpr ⟨mx_ok_zret (show decode b_xw_isOperation 75 = .ok (.ireturn, 1) by decide +kernel) rfl, ?_⟩
  exact fun _ h => absurd h List.not_mem_nil
set_option maxRecDepth 100000 in
set_option maxHeartbeats 4000000 in
theorem ct_xw_isOperation (l : Launch) (np nd : Nat) : mx_Ct l vw_T vw_cl (kx np nd) { frames := 0, cells := 0, slots := 0, locals := 0 } y_xw_isOperation b_xw_isOperation 1 (some .boolean) (pre_xw_isOperation np nd) (fn_xw_isOperation np nd) := by
  refine mx_ct_of (tb_xw_isOperation np nd ) (by decide) (ok_xw_isOperation l np nd ) (fun as u h => by obtain ⟨_, rfl, -⟩ := h; exact Nat.le_of_ble_eq_true rfl) ?_
  intro as u hpre At hc hw
  obtain ⟨a1, rfl, hp⟩ := hpre
  exact hc 200 [] _ _ _ _ (
    And.intro (fun h3_0 => 
     And.intro (fun h31 => 
      And.intro (Or.inl rfl) (
      congrArg (mx_rI u) (show 0 = (xw_isOperation a1 ) from ((if_pos h3_0).trans (if_pos h31)).symm))) (fun h31 => 
      And.intro (Or.inr rfl) (
      congrArg (mx_rI u) (show 1 = (xw_isOperation a1 ) from ((if_pos h3_0).trans (if_neg h31)).symm)))) (fun h3_0 => 
    And.intro (fun h3_1 => 
     And.intro (fun h43 => 
      And.intro (Or.inl rfl) (
      congrArg (mx_rI u) (show 0 = (xw_isOperation a1 ) from ((if_neg h3_0).trans ((if_pos h3_1).trans (if_pos h43))).symm))) (fun h43 => 
      And.intro (Or.inr rfl) (
      congrArg (mx_rI u) (show 1 = (xw_isOperation a1 ) from ((if_neg h3_0).trans ((if_pos h3_1).trans (if_neg h43))).symm)))) (fun h3_1 => 
    And.intro (fun h3_2 => 
     And.intro (fun h55 => 
      And.intro (Or.inl rfl) (
      congrArg (mx_rI u) (show 0 = (xw_isOperation a1 ) from ((if_neg h3_0).trans ((if_neg h3_1).trans ((if_pos h3_2).trans (if_pos h55)))).symm))) (fun h55 => 
      And.intro (Or.inr rfl) (
      congrArg (mx_rI u) (show 1 = (xw_isOperation a1 ) from ((if_neg h3_0).trans ((if_neg h3_1).trans ((if_pos h3_2).trans (if_neg h55)))).symm)))) (fun h3_2 => 
     And.intro (fun h67 => 
      And.intro (Or.inl rfl) (
      congrArg (mx_rI u) (show 0 = (xw_isOperation a1 ) from ((if_neg h3_0).trans ((if_neg h3_1).trans ((if_neg h3_2).trans (if_pos h67)))).symm))) (fun h67 => 
      And.intro (Or.inr rfl) (
      congrArg (mx_rI u) (show 1 = (xw_isOperation a1 ) from ((if_neg h3_0).trans ((if_neg h3_1).trans ((if_neg h3_2).trans (if_neg h67)))).symm)))))))
/-! WideMachine$Word.hasLongNumber(I)Z -/
def xw_hasLongNumber (a1 : Int32) : Int32 :=
  if a1 = 21 then
   1
  else
   if a1 = 22 then
    1
   else
    if a1 = 23 then
     1
    else
     0
def pre_xw_hasLongNumber (np nd : Nat) : List mx_V → mx_S → Prop := fun as u => ∃ (a1 : Int32), as = [.inl a1] ∧ True
def fn_xw_hasLongNumber (np nd : Nat) : mx_F := fun as u => match as with
  | [.inl a1] => mx_rI u (xw_hasLongNumber a1 )
  | _ => (none, u)
def tb_xw_hasLongNumber (np nd : Nat) : List (Nat × mx_T) := [
  (0, mx_iload_n 0 0),
  (1, mx_bipush 21 1),
  (3, mx_icmp_eq 18 3),
  (6, mx_iload_n 0 6),
  (7, mx_bipush 22 7),
  (9, mx_icmp_eq 18 9),
  (12, mx_iload_n 0 12),
  (13, mx_bipush 23 13),
  (15, mx_icmp_ne 22 15),
  (18, mx_iconst 1 18),
  (19, mx_goto 23 19),
  (22, mx_iconst 0 22),
  (23, mx_zret 23)]
set_option maxRecDepth 100000 in
set_option maxHeartbeats 4000000 in
theorem ok_xw_hasLongNumber (l : Launch) (np nd : Nat) : ∀ q ∈ tb_xw_hasLongNumber np nd , mx_Ok l ({ frames := 0, cells := 0, slots := 0, locals := 0 } : Room) b_xw_hasLongNumber 1 "WideMachine$Word" (some .boolean) vw_T vw_cl (kx np nd) q.1 q.2 := by
  refine List.forall_mem_cons.mpr ⟨mx_ok_iload_n (show decode b_xw_hasLongNumber 0 = .ok (.iload_n 0, 1) by decide +kernel) rfl, ?_⟩
  refine List.forall_mem_cons.mpr ⟨mx_ok_bipush (show decode b_xw_hasLongNumber 1 = .ok (.bipush 21, 2) by decide +kernel) (by decide), ?_⟩
  refine List.forall_mem_cons.mpr ⟨mx_ok_icmp_eq (show decode b_xw_hasLongNumber 3 = .ok (.if_icmp .eq 15, 3) by decide +kernel) (by decide), ?_⟩
  refine List.forall_mem_cons.mpr ⟨mx_ok_iload_n (show decode b_xw_hasLongNumber 6 = .ok (.iload_n 0, 1) by decide +kernel) rfl, ?_⟩
  refine List.forall_mem_cons.mpr ⟨mx_ok_bipush (show decode b_xw_hasLongNumber 7 = .ok (.bipush 22, 2) by decide +kernel) (by decide), ?_⟩
  refine List.forall_mem_cons.mpr ⟨mx_ok_icmp_eq (show decode b_xw_hasLongNumber 9 = .ok (.if_icmp .eq 9, 3) by decide +kernel) (by decide), ?_⟩
  refine List.forall_mem_cons.mpr ⟨mx_ok_iload_n (show decode b_xw_hasLongNumber 12 = .ok (.iload_n 0, 1) by decide +kernel) rfl, ?_⟩
  refine List.forall_mem_cons.mpr ⟨mx_ok_bipush (show decode b_xw_hasLongNumber 13 = .ok (.bipush 23, 2) by decide +kernel) (by decide), ?_⟩
  refine List.forall_mem_cons.mpr ⟨mx_ok_icmp_ne (show decode b_xw_hasLongNumber 15 = .ok (.if_icmp .ne 7, 3) by decide +kernel) (by decide), ?_⟩
  refine List.forall_mem_cons.mpr ⟨mx_ok_iconst (show decode b_xw_hasLongNumber 18 = .ok (.iconst 1, 1) by decide +kernel) (by decide), ?_⟩
  refine List.forall_mem_cons.mpr ⟨mx_ok_goto (show decode b_xw_hasLongNumber 19 = .ok (.goto 4, 3) by decide +kernel) (by decide), ?_⟩
  refine List.forall_mem_cons.mpr ⟨mx_ok_iconst (show decode b_xw_hasLongNumber 22 = .ok (.iconst 0, 1) by decide +kernel) (by decide), ?_⟩
  refine List.forall_mem_cons.mpr ⟨mx_ok_zret (show decode b_xw_hasLongNumber 23 = .ok (.ireturn, 1) by decide +kernel) rfl, ?_⟩
  exact fun _ h => absurd h List.not_mem_nil
set_option maxRecDepth 100000 in
set_option maxHeartbeats 4000000 in
theorem ct_xw_hasLongNumber (l : Launch) (np nd : Nat) : mx_Ct l vw_T vw_cl (kx np nd) { frames := 0, cells := 0, slots := 0, locals := 0 } y_xw_hasLongNumber b_xw_hasLongNumber 1 (some .boolean) (pre_xw_hasLongNumber np nd) (fn_xw_hasLongNumber np nd) := by
  refine mx_ct_of (tb_xw_hasLongNumber np nd ) (by decide) (ok_xw_hasLongNumber l np nd ) (fun as u h => by obtain ⟨_, rfl, -⟩ := h; exact Nat.le_of_ble_eq_true rfl) ?_
  intro as u hpre At hc hw
  obtain ⟨a1, rfl, hp⟩ := hpre
  exact hc 200 [] _ _ _ _ (
    And.intro (fun h3 => 
     And.intro (Or.inr rfl) (
     congrArg (mx_rI u) (show 1 = (xw_hasLongNumber a1 ) from (if_pos h3).symm))) (fun h3 => 
     And.intro (fun h9 => 
      And.intro (Or.inr rfl) (
      congrArg (mx_rI u) (show 1 = (xw_hasLongNumber a1 ) from ((if_neg h3).trans (if_pos h9)).symm))) (fun h9 => 
      And.intro (fun h15 => 
       And.intro (Or.inl rfl) (
       congrArg (mx_rI u) (show 0 = (xw_hasLongNumber a1 ) from ((if_neg h3).trans ((if_neg h9).trans (if_neg h15))).symm))) (fun h15 => 
       And.intro (Or.inr rfl) (
       congrArg (mx_rI u) (show 1 = (xw_hasLongNumber a1 ) from ((if_neg h3).trans ((if_neg h9).trans (if_pos h15))).symm))))))
/-! WideMachine$Word.hasD(I)Z -/
def xw_hasD (a1 : Int32) : Int32 :=
  if a1 < 23 then
   1
  else
   if a1 ≤ 27 then
    0
   else
    1
def pre_xw_hasD (np nd : Nat) : List mx_V → mx_S → Prop := fun as u => ∃ (a1 : Int32), as = [.inl a1] ∧ True
def fn_xw_hasD (np nd : Nat) : mx_F := fun as u => match as with
  | [.inl a1] => mx_rI u (xw_hasD a1 )
  | _ => (none, u)
def tb_xw_hasD (np nd : Nat) : List (Nat × mx_T) := [
  (0, mx_iload_n 0 0),
  (1, mx_bipush 23 1),
  (3, mx_icmp_lt 12 3),
  (6, mx_iload_n 0 6),
  (7, mx_bipush 27 7),
  (9, mx_icmp_le 16 9),
  (12, mx_iconst 1 12),
  (13, mx_goto 17 13),
  (16, mx_iconst 0 16),
  (17, mx_zret 17)]
set_option maxRecDepth 100000 in
set_option maxHeartbeats 4000000 in
theorem ok_xw_hasD (l : Launch) (np nd : Nat) : ∀ q ∈ tb_xw_hasD np nd , mx_Ok l ({ frames := 0, cells := 0, slots := 0, locals := 0 } : Room) b_xw_hasD 1 "WideMachine$Word" (some .boolean) vw_T vw_cl (kx np nd) q.1 q.2 := by
  refine List.forall_mem_cons.mpr ⟨mx_ok_iload_n (show decode b_xw_hasD 0 = .ok (.iload_n 0, 1) by decide +kernel) rfl, ?_⟩
  refine List.forall_mem_cons.mpr ⟨mx_ok_bipush (show decode b_xw_hasD 1 = .ok (.bipush 23, 2) by decide +kernel) (by decide), ?_⟩
  refine List.forall_mem_cons.mpr ⟨mx_ok_icmp_lt (show decode b_xw_hasD 3 = .ok (.if_icmp .lt 9, 3) by decide +kernel) (by decide), ?_⟩
  refine List.forall_mem_cons.mpr ⟨mx_ok_iload_n (show decode b_xw_hasD 6 = .ok (.iload_n 0, 1) by decide +kernel) rfl, ?_⟩
  refine List.forall_mem_cons.mpr ⟨mx_ok_bipush (show decode b_xw_hasD 7 = .ok (.bipush 27, 2) by decide +kernel) (by decide), ?_⟩
  refine List.forall_mem_cons.mpr ⟨mx_ok_icmp_le (show decode b_xw_hasD 9 = .ok (.if_icmp .le 7, 3) by decide +kernel) (by decide), ?_⟩
  refine List.forall_mem_cons.mpr ⟨mx_ok_iconst (show decode b_xw_hasD 12 = .ok (.iconst 1, 1) by decide +kernel) (by decide), ?_⟩
  refine List.forall_mem_cons.mpr ⟨mx_ok_goto (show decode b_xw_hasD 13 = .ok (.goto 4, 3) by decide +kernel) (by decide), ?_⟩
  refine List.forall_mem_cons.mpr ⟨mx_ok_iconst (show decode b_xw_hasD 16 = .ok (.iconst 0, 1) by decide +kernel) (by decide), ?_⟩
  refine List.forall_mem_cons.mpr ⟨mx_ok_zret (show decode b_xw_hasD 17 = .ok (.ireturn, 1) by decide +kernel) rfl, ?_⟩
  exact fun _ h => absurd h List.not_mem_nil
set_option maxRecDepth 100000 in
set_option maxHeartbeats 4000000 in
theorem ct_xw_hasD (l : Launch) (np nd : Nat) : mx_Ct l vw_T vw_cl (kx np nd) { frames := 0, cells := 0, slots := 0, locals := 0 } y_xw_hasD b_xw_hasD 1 (some .boolean) (pre_xw_hasD np nd) (fn_xw_hasD np nd) := by
  refine mx_ct_of (tb_xw_hasD np nd ) (by decide) (ok_xw_hasD l np nd ) (fun as u h => by obtain ⟨_, rfl, -⟩ := h; exact Nat.le_of_ble_eq_true rfl) ?_
  intro as u hpre At hc hw
  obtain ⟨a1, rfl, hp⟩ := hpre
  exact hc 200 [] _ _ _ _ (
    And.intro (fun h3 => 
     And.intro (Or.inr rfl) (
     congrArg (mx_rI u) (show 1 = (xw_hasD a1 ) from (if_pos h3).symm))) (fun h3 => 
     And.intro (fun h9 => 
      And.intro (Or.inl rfl) (
      congrArg (mx_rI u) (show 0 = (xw_hasD a1 ) from ((if_neg h3).trans (if_pos h9)).symm))) (fun h9 => 
      And.intro (Or.inr rfl) (
      congrArg (mx_rI u) (show 1 = (xw_hasD a1 ) from ((if_neg h3).trans (if_neg h9)).symm)))))
/-! WideMachine$Word.d(I)I -/
def xw_d (a1 : Int32) : Int32 :=
  ((a1 >>> ((12 : Int32) &&& 31)) &&& (31 : Int32))
def pre_xw_d (np nd : Nat) : List mx_V → mx_S → Prop := fun as u => ∃ (a1 : Int32), as = [.inl a1] ∧ True
def fn_xw_d (np nd : Nat) : mx_F := fun as u => match as with
  | [.inl a1] => mx_rI u (xw_d a1 )
  | _ => (none, u)
def tb_xw_d (np nd : Nat) : List (Nat × mx_T) := [
  (0, mx_iload_n 0 0),
  (1, mx_bipush 12 1),
  (3, mx_ishr 3),
  (4, mx_bipush 31 4),
  (6, mx_iand 6),
  (7, mx_iret 7)]
set_option maxRecDepth 100000 in
set_option maxHeartbeats 4000000 in
theorem ok_xw_d (l : Launch) (np nd : Nat) : ∀ q ∈ tb_xw_d np nd , mx_Ok l ({ frames := 0, cells := 0, slots := 0, locals := 0 } : Room) b_xw_d 1 "WideMachine$Word" (some .int) vw_T vw_cl (kx np nd) q.1 q.2 := by
  refine List.forall_mem_cons.mpr ⟨mx_ok_iload_n (show decode b_xw_d 0 = .ok (.iload_n 0, 1) by decide +kernel) rfl, ?_⟩
  refine List.forall_mem_cons.mpr ⟨mx_ok_bipush (show decode b_xw_d 1 = .ok (.bipush 12, 2) by decide +kernel) (by decide), ?_⟩
  refine List.forall_mem_cons.mpr ⟨mx_ok_ishr (show decode b_xw_d 3 = .ok (.ishr, 1) by decide +kernel), ?_⟩
  refine List.forall_mem_cons.mpr ⟨mx_ok_bipush (show decode b_xw_d 4 = .ok (.bipush 31, 2) by decide +kernel) (by decide), ?_⟩
  refine List.forall_mem_cons.mpr ⟨mx_ok_iand (show decode b_xw_d 6 = .ok (.iand, 1) by decide +kernel), ?_⟩
  refine List.forall_mem_cons.mpr ⟨mx_ok_iret (show decode b_xw_d 7 = .ok (.ireturn, 1) by decide +kernel) rfl, ?_⟩
  exact fun _ h => absurd h List.not_mem_nil
set_option maxRecDepth 100000 in
set_option maxHeartbeats 4000000 in
theorem ct_xw_d (l : Launch) (np nd : Nat) : mx_Ct l vw_T vw_cl (kx np nd) { frames := 0, cells := 0, slots := 0, locals := 0 } y_xw_d b_xw_d 1 (some .int) (pre_xw_d np nd) (fn_xw_d np nd) := by
  refine mx_ct_of (tb_xw_d np nd ) (by decide) (ok_xw_d l np nd ) (fun as u h => by obtain ⟨_, rfl, -⟩ := h; exact Nat.le_of_ble_eq_true rfl) ?_
  intro as u hpre At hc hw
  obtain ⟨a1, rfl, hp⟩ := hpre
  exact hc 200 [] _ _ _ _ (
    congrArg (mx_rI u) (show ((a1 >>> ((12 : Int32) &&& 31)) &&& (31 : Int32)) = (xw_d a1 ) from (rfl).symm))
theorem xw_d_in (w : Int32) : vp_in (xw_d w) 32 := pk_andIn _ 5 (by decide) (by decide)
/-! WideMachine$Word.side(I)I -/
def xw_side (a1 : Int32) : Int32 :=
  ((a1 >>> ((7 : Int32) &&& 31)) &&& (1 : Int32))
def pre_xw_side (np nd : Nat) : List mx_V → mx_S → Prop := fun as u => ∃ (a1 : Int32), as = [.inl a1] ∧ True
def fn_xw_side (np nd : Nat) : mx_F := fun as u => match as with
  | [.inl a1] => mx_rI u (xw_side a1 )
  | _ => (none, u)
def tb_xw_side (np nd : Nat) : List (Nat × mx_T) := [
  (0, mx_iload_n 0 0),
  (1, mx_bipush 7 1),
  (3, mx_ishr 3),
  (4, mx_iconst 1 4),
  (5, mx_iand 5),
  (6, mx_iret 6)]
set_option maxRecDepth 100000 in
set_option maxHeartbeats 4000000 in
theorem ok_xw_side (l : Launch) (np nd : Nat) : ∀ q ∈ tb_xw_side np nd , mx_Ok l ({ frames := 0, cells := 0, slots := 0, locals := 0 } : Room) b_xw_side 1 "WideMachine$Word" (some .int) vw_T vw_cl (kx np nd) q.1 q.2 := by
  refine List.forall_mem_cons.mpr ⟨mx_ok_iload_n (show decode b_xw_side 0 = .ok (.iload_n 0, 1) by decide +kernel) rfl, ?_⟩
  refine List.forall_mem_cons.mpr ⟨mx_ok_bipush (show decode b_xw_side 1 = .ok (.bipush 7, 2) by decide +kernel) (by decide), ?_⟩
  refine List.forall_mem_cons.mpr ⟨mx_ok_ishr (show decode b_xw_side 3 = .ok (.ishr, 1) by decide +kernel), ?_⟩
  refine List.forall_mem_cons.mpr ⟨mx_ok_iconst (show decode b_xw_side 4 = .ok (.iconst 1, 1) by decide +kernel) (by decide), ?_⟩
  refine List.forall_mem_cons.mpr ⟨mx_ok_iand (show decode b_xw_side 5 = .ok (.iand, 1) by decide +kernel), ?_⟩
  refine List.forall_mem_cons.mpr ⟨mx_ok_iret (show decode b_xw_side 6 = .ok (.ireturn, 1) by decide +kernel) rfl, ?_⟩
  exact fun _ h => absurd h List.not_mem_nil
set_option maxRecDepth 100000 in
set_option maxHeartbeats 4000000 in
theorem ct_xw_side (l : Launch) (np nd : Nat) : mx_Ct l vw_T vw_cl (kx np nd) { frames := 0, cells := 0, slots := 0, locals := 0 } y_xw_side b_xw_side 1 (some .int) (pre_xw_side np nd) (fn_xw_side np nd) := by
  refine mx_ct_of (tb_xw_side np nd ) (by decide) (ok_xw_side l np nd ) (fun as u h => by obtain ⟨_, rfl, -⟩ := h; exact Nat.le_of_ble_eq_true rfl) ?_
  intro as u hpre At hc hw
  obtain ⟨a1, rfl, hp⟩ := hpre
  exact hc 200 [] _ _ _ _ (
    congrArg (mx_rI u) (show ((a1 >>> ((7 : Int32) &&& 31)) &&& (1 : Int32)) = (xw_side a1 ) from (rfl).symm))
/-! WideMachine$Word.hasA(I)Z -/
def xw_hasA (a1 : Int32) : Int32 :=
  if a1 = 9 then
   0
  else
   if a1 < 21 then
    1
   else
    if a1 ≤ 27 then
     0
    else
     1
def pre_xw_hasA (np nd : Nat) : List mx_V → mx_S → Prop := fun as u => ∃ (a1 : Int32), as = [.inl a1] ∧ True
def fn_xw_hasA (np nd : Nat) : mx_F := fun as u => match as with
  | [.inl a1] => mx_rI u (xw_hasA a1 )
  | _ => (none, u)
def tb_xw_hasA (np nd : Nat) : List (Nat × mx_T) := [
  (0, mx_iload_n 0 0),
  (1, mx_bipush 9 1),
  (3, mx_icmp_eq 22 3),
  (6, mx_iload_n 0 6),
  (7, mx_bipush 21 7),
  (9, mx_icmp_lt 18 9),
  (12, mx_iload_n 0 12),
  (13, mx_bipush 27 13),
  (15, mx_icmp_le 22 15),
  (18, mx_iconst 1 18),
  (19, mx_goto 23 19),
  (22, mx_iconst 0 22),
  (23, mx_zret 23)]
set_option maxRecDepth 100000 in
set_option maxHeartbeats 4000000 in
theorem ok_xw_hasA (l : Launch) (np nd : Nat) : ∀ q ∈ tb_xw_hasA np nd , mx_Ok l ({ frames := 0, cells := 0, slots := 0, locals := 0 } : Room) b_xw_hasA 1 "WideMachine$Word" (some .boolean) vw_T vw_cl (kx np nd) q.1 q.2 := by
  refine List.forall_mem_cons.mpr ⟨mx_ok_iload_n (show decode b_xw_hasA 0 = .ok (.iload_n 0, 1) by decide +kernel) rfl, ?_⟩
  refine List.forall_mem_cons.mpr ⟨mx_ok_bipush (show decode b_xw_hasA 1 = .ok (.bipush 9, 2) by decide +kernel) (by decide), ?_⟩
  refine List.forall_mem_cons.mpr ⟨mx_ok_icmp_eq (show decode b_xw_hasA 3 = .ok (.if_icmp .eq 19, 3) by decide +kernel) (by decide), ?_⟩
  refine List.forall_mem_cons.mpr ⟨mx_ok_iload_n (show decode b_xw_hasA 6 = .ok (.iload_n 0, 1) by decide +kernel) rfl, ?_⟩
  refine List.forall_mem_cons.mpr ⟨mx_ok_bipush (show decode b_xw_hasA 7 = .ok (.bipush 21, 2) by decide +kernel) (by decide), ?_⟩
  refine List.forall_mem_cons.mpr ⟨mx_ok_icmp_lt (show decode b_xw_hasA 9 = .ok (.if_icmp .lt 9, 3) by decide +kernel) (by decide), ?_⟩
  refine List.forall_mem_cons.mpr ⟨mx_ok_iload_n (show decode b_xw_hasA 12 = .ok (.iload_n 0, 1) by decide +kernel) rfl, ?_⟩
  refine List.forall_mem_cons.mpr ⟨mx_ok_bipush (show decode b_xw_hasA 13 = .ok (.bipush 27, 2) by decide +kernel) (by decide), ?_⟩
  refine List.forall_mem_cons.mpr ⟨mx_ok_icmp_le (show decode b_xw_hasA 15 = .ok (.if_icmp .le 7, 3) by decide +kernel) (by decide), ?_⟩
  refine List.forall_mem_cons.mpr ⟨mx_ok_iconst (show decode b_xw_hasA 18 = .ok (.iconst 1, 1) by decide +kernel) (by decide), ?_⟩
  refine List.forall_mem_cons.mpr ⟨mx_ok_goto (show decode b_xw_hasA 19 = .ok (.goto 4, 3) by decide +kernel) (by decide), ?_⟩
  refine List.forall_mem_cons.mpr ⟨mx_ok_iconst (show decode b_xw_hasA 22 = .ok (.iconst 0, 1) by decide +kernel) (by decide), ?_⟩
  refine List.forall_mem_cons.mpr ⟨mx_ok_zret (show decode b_xw_hasA 23 = .ok (.ireturn, 1) by decide +kernel) rfl, ?_⟩
  exact fun _ h => absurd h List.not_mem_nil
set_option maxRecDepth 100000 in
set_option maxHeartbeats 4000000 in
theorem ct_xw_hasA (l : Launch) (np nd : Nat) : mx_Ct l vw_T vw_cl (kx np nd) { frames := 0, cells := 0, slots := 0, locals := 0 } y_xw_hasA b_xw_hasA 1 (some .boolean) (pre_xw_hasA np nd) (fn_xw_hasA np nd) := by
  refine mx_ct_of (tb_xw_hasA np nd ) (by decide) (ok_xw_hasA l np nd ) (fun as u h => by obtain ⟨_, rfl, -⟩ := h; exact Nat.le_of_ble_eq_true rfl) ?_
  intro as u hpre At hc hw
  obtain ⟨a1, rfl, hp⟩ := hpre
  exact hc 200 [] _ _ _ _ (
    And.intro (fun h3 => 
     And.intro (Or.inl rfl) (
     congrArg (mx_rI u) (show 0 = (xw_hasA a1 ) from (if_pos h3).symm))) (fun h3 => 
     And.intro (fun h9 => 
      And.intro (Or.inr rfl) (
      congrArg (mx_rI u) (show 1 = (xw_hasA a1 ) from ((if_neg h3).trans (if_pos h9)).symm))) (fun h9 => 
      And.intro (fun h15 => 
       And.intro (Or.inl rfl) (
       congrArg (mx_rI u) (show 0 = (xw_hasA a1 ) from ((if_neg h3).trans ((if_neg h9).trans (if_pos h15))).symm))) (fun h15 => 
       And.intro (Or.inr rfl) (
       congrArg (mx_rI u) (show 1 = (xw_hasA a1 ) from ((if_neg h3).trans ((if_neg h9).trans (if_neg h15))).symm))))))
/-! WideMachine$Word.a(I)I -/
def xw_a (a1 : Int32) : Int32 :=
  ((a1 >>> ((17 : Int32) &&& 31)) &&& (31 : Int32))
def pre_xw_a (np nd : Nat) : List mx_V → mx_S → Prop := fun as u => ∃ (a1 : Int32), as = [.inl a1] ∧ True
def fn_xw_a (np nd : Nat) : mx_F := fun as u => match as with
  | [.inl a1] => mx_rI u (xw_a a1 )
  | _ => (none, u)
def tb_xw_a (np nd : Nat) : List (Nat × mx_T) := [
  (0, mx_iload_n 0 0),
  (1, mx_bipush 17 1),
  (3, mx_ishr 3),
  (4, mx_bipush 31 4),
  (6, mx_iand 6),
  (7, mx_iret 7)]
set_option maxRecDepth 100000 in
set_option maxHeartbeats 4000000 in
theorem ok_xw_a (l : Launch) (np nd : Nat) : ∀ q ∈ tb_xw_a np nd , mx_Ok l ({ frames := 0, cells := 0, slots := 0, locals := 0 } : Room) b_xw_a 1 "WideMachine$Word" (some .int) vw_T vw_cl (kx np nd) q.1 q.2 := by
  refine List.forall_mem_cons.mpr ⟨mx_ok_iload_n (show decode b_xw_a 0 = .ok (.iload_n 0, 1) by decide +kernel) rfl, ?_⟩
  refine List.forall_mem_cons.mpr ⟨mx_ok_bipush (show decode b_xw_a 1 = .ok (.bipush 17, 2) by decide +kernel) (by decide), ?_⟩
  refine List.forall_mem_cons.mpr ⟨mx_ok_ishr (show decode b_xw_a 3 = .ok (.ishr, 1) by decide +kernel), ?_⟩
  refine List.forall_mem_cons.mpr ⟨mx_ok_bipush (show decode b_xw_a 4 = .ok (.bipush 31, 2) by decide +kernel) (by decide), ?_⟩
  refine List.forall_mem_cons.mpr ⟨mx_ok_iand (show decode b_xw_a 6 = .ok (.iand, 1) by decide +kernel), ?_⟩
  refine List.forall_mem_cons.mpr ⟨mx_ok_iret (show decode b_xw_a 7 = .ok (.ireturn, 1) by decide +kernel) rfl, ?_⟩
  exact fun _ h => absurd h List.not_mem_nil
set_option maxRecDepth 100000 in
set_option maxHeartbeats 4000000 in
theorem ct_xw_a (l : Launch) (np nd : Nat) : mx_Ct l vw_T vw_cl (kx np nd) { frames := 0, cells := 0, slots := 0, locals := 0 } y_xw_a b_xw_a 1 (some .int) (pre_xw_a np nd) (fn_xw_a np nd) := by
  refine mx_ct_of (tb_xw_a np nd ) (by decide) (ok_xw_a l np nd ) (fun as u h => by obtain ⟨_, rfl, -⟩ := h; exact Nat.le_of_ble_eq_true rfl) ?_
  intro as u hpre At hc hw
  obtain ⟨a1, rfl, hp⟩ := hpre
  exact hc 200 [] _ _ _ _ (
    congrArg (mx_rI u) (show ((a1 >>> ((17 : Int32) &&& 31)) &&& (31 : Int32)) = (xw_a a1 ) from (rfl).symm))
theorem xw_a_in (w : Int32) : vp_in (xw_a w) 32 := pk_andIn _ 5 (by decide) (by decide)
/-! WideMachine$Word.isIllFormed(I)Z -/
def xw_isIllFormed (a1 : Int32) : Int32 :=
  if 5 < ((a1 >>> ((1 : Int32) &&& 31)) &&& (7 : Int32)) then
   1
  else
   if ((a1 >>> ((1 : Int32) &&& 31)) &&& (7 : Int32)) = 0 then
    if (xw_isOnZero a1 ) = 0 then
     if (xw_isOperation (xw_code a1 ) ) = 0 then
      1
     else
      if (a1.toUInt32 >>> ((28 : Int32).toUInt32 &&& Int32.toUInt32 31)).toInt32 = 0 then
       if (xw_hasD (xw_code a1 ) ) = 0 then
        if (xw_hasA (xw_code a1 ) ) = 0 then
         0
        else
         if ((xw_a a1 ) >>> ((4 : Int32) &&& 31)) = (xw_side a1 ) then
          0
         else
          1
       else
        if ((xw_d a1 ) >>> ((4 : Int32) &&& 31)) = (xw_side a1 ) then
         if (xw_hasA (xw_code a1 ) ) = 0 then
          0
         else
          if ((xw_a a1 ) >>> ((4 : Int32) &&& 31)) = (xw_side a1 ) then
           0
          else
           1
        else
         1
      else
       if (xw_hasLongNumber (xw_code a1 ) ) = 0 then
        1
       else
        if (xw_hasD (xw_code a1 ) ) = 0 then
         if (xw_hasA (xw_code a1 ) ) = 0 then
          0
         else
          if ((xw_a a1 ) >>> ((4 : Int32) &&& 31)) = (xw_side a1 ) then
           0
          else
           1
        else
         if ((xw_d a1 ) >>> ((4 : Int32) &&& 31)) = (xw_side a1 ) then
          if (xw_hasA (xw_code a1 ) ) = 0 then
           0
          else
           if ((xw_a a1 ) >>> ((4 : Int32) &&& 31)) = (xw_side a1 ) then
            0
           else
            1
         else
          1
    else
     1
   else
    if (xw_isOperation (xw_code a1 ) ) = 0 then
     1
    else
     if (a1.toUInt32 >>> ((28 : Int32).toUInt32 &&& Int32.toUInt32 31)).toInt32 = 0 then
      if (xw_hasD (xw_code a1 ) ) = 0 then
       if (xw_hasA (xw_code a1 ) ) = 0 then
        0
       else
        if ((xw_a a1 ) >>> ((4 : Int32) &&& 31)) = (xw_side a1 ) then
         0
        else
         1
      else
       if ((xw_d a1 ) >>> ((4 : Int32) &&& 31)) = (xw_side a1 ) then
        if (xw_hasA (xw_code a1 ) ) = 0 then
         0
        else
         if ((xw_a a1 ) >>> ((4 : Int32) &&& 31)) = (xw_side a1 ) then
          0
         else
          1
       else
        1
     else
      if (xw_hasLongNumber (xw_code a1 ) ) = 0 then
       1
      else
       if (xw_hasD (xw_code a1 ) ) = 0 then
        if (xw_hasA (xw_code a1 ) ) = 0 then
         0
        else
         if ((xw_a a1 ) >>> ((4 : Int32) &&& 31)) = (xw_side a1 ) then
          0
         else
          1
       else
        if ((xw_d a1 ) >>> ((4 : Int32) &&& 31)) = (xw_side a1 ) then
         if (xw_hasA (xw_code a1 ) ) = 0 then
          0
         else
          if ((xw_a a1 ) >>> ((4 : Int32) &&& 31)) = (xw_side a1 ) then
           0
          else
           1
        else
         1
def pre_xw_isIllFormed (np nd : Nat) : List mx_V → mx_S → Prop := fun as u => ∃ (a1 : Int32), as = [.inl a1] ∧ True
def fn_xw_isIllFormed (np nd : Nat) : mx_F := fun as u => match as with
  | [.inl a1] => mx_rI u (xw_isIllFormed a1 )
  | _ => (none, u)
def tb_xw_isIllFormed (np nd : Nat) : List (Nat × mx_T) := [
  (0, mx_iload_n 0 0),
  (1, mx_invS 1 (pre_xw_code np nd) (fn_xw_code np nd) 1),
  (4, mx_istore_n 1 4),
  (5, mx_iload_n 0 5),
  (6, mx_iconst 1 6),
  (7, mx_ishr 7),
  (8, mx_bipush 7 8),
  (10, mx_iand 10),
  (11, mx_istore_n 2 11),
  (12, mx_iload_n 2 12),
  (13, mx_iconst 5 13),
  (14, mx_icmp_gt 28 14),
  (17, mx_iload_n 2 17),
  (18, mx_if_ne 30 18),
  (21, mx_iload_n 0 21),
  (22, mx_invS 1 (pre_xw_isOnZero np nd) (fn_xw_isOnZero np nd) 22),
  (25, mx_if_eq 30 25),
  (28, mx_iconst 1 28),
  (29, mx_zret 29),
  (30, mx_iload_n 1 30),
  (31, mx_invS 1 (pre_xw_isOperation np nd) (fn_xw_isOperation np nd) 31),
  (34, mx_if_eq 51 34),
  (37, mx_iload_n 0 37),
  (38, mx_bipush 28 38),
  (40, mx_iushr 40),
  (41, mx_if_eq 53 41),
  (44, mx_iload_n 1 44),
  (45, mx_invS 1 (pre_xw_hasLongNumber np nd) (fn_xw_hasLongNumber np nd) 45),
  (48, mx_if_ne 53 48),
  (51, mx_iconst 1 51),
  (52, mx_zret 52),
  (53, mx_iload_n 1 53),
  (54, mx_invS 1 (pre_xw_hasD np nd) (fn_xw_hasD np nd) 54),
  (57, mx_if_eq 73 57),
  (60, mx_iload_n 0 60),
  (61, mx_invS 1 (pre_xw_d np nd) (fn_xw_d np nd) 61),
  (64, mx_iconst 4 64),
  (65, mx_ishr 65),
  (66, mx_iload_n 0 66),
  (67, mx_invS 1 (pre_xw_side np nd) (fn_xw_side np nd) 67),
  (70, mx_icmp_ne 93 70),
  (73, mx_iload_n 1 73),
  (74, mx_invS 1 (pre_xw_hasA np nd) (fn_xw_hasA np nd) 74),
  (77, mx_if_eq 97 77),
  (80, mx_iload_n 0 80),
  (81, mx_invS 1 (pre_xw_a np nd) (fn_xw_a np nd) 81),
  (84, mx_iconst 4 84),
  (85, mx_ishr 85),
  (86, mx_iload_n 0 86),
  (87, mx_invS 1 (pre_xw_side np nd) (fn_xw_side np nd) 87),
  (90, mx_icmp_eq 97 90),
  (93, mx_iconst 1 93),
  (94, mx_goto 98 94),
  (97, mx_iconst 0 97),
  (98, mx_zret 98)]
set_option maxRecDepth 100000 in
set_option maxHeartbeats 4000000 in
theorem ok_xw_isIllFormed (l : Launch) (np nd : Nat) : ∀ q ∈ tb_xw_isIllFormed np nd , mx_Ok l ({ frames := 1, cells := 0, slots := 0, locals := 20 } : Room) b_xw_isIllFormed 3 "WideMachine$Word" (some .boolean) vw_T vw_cl (kx np nd) q.1 q.2 := by
  refine List.forall_mem_cons.mpr ⟨mx_ok_iload_n (show decode b_xw_isIllFormed 0 = .ok (.iload_n 0, 1) by decide +kernel) rfl, ?_⟩
  refine List.forall_mem_cons.mpr ⟨mx_ok_invS vw_G (ct_xw_code l np nd) ⟨vm_99, vm_100, vm_97, ⟨by decide +kernel, by decide +kernel, by decide +kernel⟩, ⟨by decide, by decide⟩, rfl, rfl⟩ vm_101 (show decode b_xw_isIllFormed 1 = .ok (.invokestatic 9, 3) by decide +kernel), ?_⟩
  refine List.forall_mem_cons.mpr ⟨mx_ok_istore_n (show decode b_xw_isIllFormed 4 = .ok (.istore_n 1, 1) by decide +kernel) rfl (by decide), ?_⟩
  refine List.forall_mem_cons.mpr ⟨mx_ok_iload_n (show decode b_xw_isIllFormed 5 = .ok (.iload_n 0, 1) by decide +kernel) rfl, ?_⟩
  refine List.forall_mem_cons.mpr ⟨mx_ok_iconst (show decode b_xw_isIllFormed 6 = .ok (.iconst 1, 1) by decide +kernel) (by decide), ?_⟩
  refine List.forall_mem_cons.mpr ⟨mx_ok_ishr (show decode b_xw_isIllFormed 7 = .ok (.ishr, 1) by decide +kernel), ?_⟩
  refine List.forall_mem_cons.mpr ⟨mx_ok_bipush (show decode b_xw_isIllFormed 8 = .ok (.bipush 7, 2) by decide +kernel) (by decide), ?_⟩
  refine List.forall_mem_cons.mpr ⟨mx_ok_iand (show decode b_xw_isIllFormed 10 = .ok (.iand, 1) by decide +kernel), ?_⟩
  refine List.forall_mem_cons.mpr ⟨mx_ok_istore_n (show decode b_xw_isIllFormed 11 = .ok (.istore_n 2, 1) by decide +kernel) rfl (by decide), ?_⟩
  refine List.forall_mem_cons.mpr ⟨mx_ok_iload_n (show decode b_xw_isIllFormed 12 = .ok (.iload_n 2, 1) by decide +kernel) rfl, ?_⟩
  refine List.forall_mem_cons.mpr ⟨mx_ok_iconst (show decode b_xw_isIllFormed 13 = .ok (.iconst 5, 1) by decide +kernel) (by decide), ?_⟩
  refine List.forall_mem_cons.mpr ⟨mx_ok_icmp_gt (show decode b_xw_isIllFormed 14 = .ok (.if_icmp .gt 14, 3) by decide +kernel) (by decide), ?_⟩
  refine List.forall_mem_cons.mpr ⟨mx_ok_iload_n (show decode b_xw_isIllFormed 17 = .ok (.iload_n 2, 1) by decide +kernel) rfl, ?_⟩
  refine List.forall_mem_cons.mpr ⟨mx_ok_if_ne (show decode b_xw_isIllFormed 18 = .ok (.ifCond .ne 12, 3) by decide +kernel) (by decide), ?_⟩
  refine List.forall_mem_cons.mpr ⟨mx_ok_iload_n (show decode b_xw_isIllFormed 21 = .ok (.iload_n 0, 1) by decide +kernel) rfl, ?_⟩
  refine List.forall_mem_cons.mpr ⟨mx_ok_invS vw_G (ct_xw_isOnZero l np nd) ⟨vm_102, vm_103, vm_97, ⟨by decide +kernel, by decide +kernel, by decide +kernel⟩, ⟨by decide, by decide⟩, rfl, rfl⟩ vm_104 (show decode b_xw_isIllFormed 22 = .ok (.invokestatic 18, 3) by decide +kernel), ?_⟩
  refine List.forall_mem_cons.mpr ⟨mx_ok_if_eq (show decode b_xw_isIllFormed 25 = .ok (.ifCond .eq 5, 3) by decide +kernel) (by decide), ?_⟩
  refine List.forall_mem_cons.mpr ⟨mx_ok_iconst (show decode b_xw_isIllFormed 28 = .ok (.iconst 1, 1) by decide +kernel) (by decide), ?_⟩
  refine List.forall_mem_cons.mpr ⟨mx_ok_zret (show decode b_xw_isIllFormed 29 = .ok (.ireturn, 1) by decide +kernel) rfl, ?_⟩
  refine List.forall_mem_cons.mpr ⟨mx_ok_iload_n (show decode b_xw_isIllFormed 30 = .ok (.iload_n 1, 1) by decide +kernel) rfl, ?_⟩
  refine List.forall_mem_cons.mpr ⟨mx_ok_invS vw_G (ct_xw_isOperation l np nd) ⟨vm_105, vm_106, vm_97, ⟨by decide +kernel, by decide +kernel, by decide +kernel⟩, ⟨by decide, by decide⟩, rfl, rfl⟩ vm_107 (show decode b_xw_isIllFormed 31 = .ok (.invokestatic 22, 3) by decide +kernel), ?_⟩
  refine List.forall_mem_cons.mpr ⟨mx_ok_if_eq (show decode b_xw_isIllFormed 34 = .ok (.ifCond .eq 17, 3) by decide +kernel) (by decide), ?_⟩
  refine List.forall_mem_cons.mpr ⟨mx_ok_iload_n (show decode b_xw_isIllFormed 37 = .ok (.iload_n 0, 1) by decide +kernel) rfl, ?_⟩
  refine List.forall_mem_cons.mpr ⟨mx_ok_bipush (show decode b_xw_isIllFormed 38 = .ok (.bipush 28, 2) by decide +kernel) (by decide), ?_⟩
  refine List.forall_mem_cons.mpr ⟨mx_ok_iushr (show decode b_xw_isIllFormed 40 = .ok (.iushr, 1) by decide +kernel), ?_⟩
  refine List.forall_mem_cons.mpr ⟨mx_ok_if_eq (show decode b_xw_isIllFormed 41 = .ok (.ifCond .eq 12, 3) by decide +kernel) (by decide), ?_⟩
  refine List.forall_mem_cons.mpr ⟨mx_ok_iload_n (show decode b_xw_isIllFormed 44 = .ok (.iload_n 1, 1) by decide +kernel) rfl, ?_⟩
  refine List.forall_mem_cons.mpr ⟨mx_ok_invS vw_G (ct_xw_hasLongNumber l np nd) ⟨vm_108, vm_109, vm_97, ⟨by decide +kernel, by decide +kernel, by decide +kernel⟩, ⟨by decide, by decide⟩, rfl, rfl⟩ vm_110 (show decode b_xw_isIllFormed 45 = .ok (.invokestatic 25, 3) by decide +kernel), ?_⟩
  refine List.forall_mem_cons.mpr ⟨mx_ok_if_ne (show decode b_xw_isIllFormed 48 = .ok (.ifCond .ne 5, 3) by decide +kernel) (by decide), ?_⟩
  refine List.forall_mem_cons.mpr ⟨mx_ok_iconst (show decode b_xw_isIllFormed 51 = .ok (.iconst 1, 1) by decide +kernel) (by decide), ?_⟩
  refine List.forall_mem_cons.mpr ⟨mx_ok_zret (show decode b_xw_isIllFormed 52 = .ok (.ireturn, 1) by decide +kernel) rfl, ?_⟩
  refine List.forall_mem_cons.mpr ⟨mx_ok_iload_n (show decode b_xw_isIllFormed 53 = .ok (.iload_n 1, 1) by decide +kernel) rfl, ?_⟩
  refine List.forall_mem_cons.mpr ⟨mx_ok_invS vw_G (ct_xw_hasD l np nd) ⟨vm_111, vm_112, vm_97, ⟨by decide +kernel, by decide +kernel, by decide +kernel⟩, ⟨by decide, by decide⟩, rfl, rfl⟩ vm_113 (show decode b_xw_isIllFormed 54 = .ok (.invokestatic 28, 3) by decide +kernel), ?_⟩
  refine List.forall_mem_cons.mpr ⟨mx_ok_if_eq (show decode b_xw_isIllFormed 57 = .ok (.ifCond .eq 16, 3) by decide +kernel) (by decide), ?_⟩
  refine List.forall_mem_cons.mpr ⟨mx_ok_iload_n (show decode b_xw_isIllFormed 60 = .ok (.iload_n 0, 1) by decide +kernel) rfl, ?_⟩
  refine List.forall_mem_cons.mpr ⟨mx_ok_invS vw_G (ct_xw_d l np nd) ⟨vm_114, vm_115, vm_97, ⟨by decide +kernel, by decide +kernel, by decide +kernel⟩, ⟨by decide, by decide⟩, rfl, rfl⟩ vm_116 (show decode b_xw_isIllFormed 61 = .ok (.invokestatic 31, 3) by decide +kernel), ?_⟩
  refine List.forall_mem_cons.mpr ⟨mx_ok_iconst (show decode b_xw_isIllFormed 64 = .ok (.iconst 4, 1) by decide +kernel) (by decide), ?_⟩
  refine List.forall_mem_cons.mpr ⟨mx_ok_ishr (show decode b_xw_isIllFormed 65 = .ok (.ishr, 1) by decide +kernel), ?_⟩
  refine List.forall_mem_cons.mpr ⟨mx_ok_iload_n (show decode b_xw_isIllFormed 66 = .ok (.iload_n 0, 1) by decide +kernel) rfl, ?_⟩
  refine List.forall_mem_cons.mpr ⟨mx_ok_invS vw_G (ct_xw_side l np nd) ⟨vm_117, vm_118, vm_97, ⟨by decide +kernel, by decide +kernel, by decide +kernel⟩, ⟨by decide, by decide⟩, rfl, rfl⟩ vm_119 (show decode b_xw_isIllFormed 67 = .ok (.invokestatic 34, 3) by decide +kernel), ?_⟩
  refine List.forall_mem_cons.mpr ⟨mx_ok_icmp_ne (show decode b_xw_isIllFormed 70 = .ok (.if_icmp .ne 23, 3) by decide +kernel) (by decide), ?_⟩
  refine List.forall_mem_cons.mpr ⟨mx_ok_iload_n (show decode b_xw_isIllFormed 73 = .ok (.iload_n 1, 1) by decide +kernel) rfl, ?_⟩
  refine List.forall_mem_cons.mpr ⟨mx_ok_invS vw_G (ct_xw_hasA l np nd) ⟨vm_120, vm_121, vm_97, ⟨by decide +kernel, by decide +kernel, by decide +kernel⟩, ⟨by decide, by decide⟩, rfl, rfl⟩ vm_122 (show decode b_xw_isIllFormed 74 = .ok (.invokestatic 37, 3) by decide +kernel), ?_⟩
  refine List.forall_mem_cons.mpr ⟨mx_ok_if_eq (show decode b_xw_isIllFormed 77 = .ok (.ifCond .eq 20, 3) by decide +kernel) (by decide), ?_⟩
  refine List.forall_mem_cons.mpr ⟨mx_ok_iload_n (show decode b_xw_isIllFormed 80 = .ok (.iload_n 0, 1) by decide +kernel) rfl, ?_⟩
  refine List.forall_mem_cons.mpr ⟨mx_ok_invS vw_G (ct_xw_a l np nd) ⟨vm_123, vm_124, vm_97, ⟨by decide +kernel, by decide +kernel, by decide +kernel⟩, ⟨by decide, by decide⟩, rfl, rfl⟩ vm_125 (show decode b_xw_isIllFormed 81 = .ok (.invokestatic 40, 3) by decide +kernel), ?_⟩
  refine List.forall_mem_cons.mpr ⟨mx_ok_iconst (show decode b_xw_isIllFormed 84 = .ok (.iconst 4, 1) by decide +kernel) (by decide), ?_⟩
  refine List.forall_mem_cons.mpr ⟨mx_ok_ishr (show decode b_xw_isIllFormed 85 = .ok (.ishr, 1) by decide +kernel), ?_⟩
  refine List.forall_mem_cons.mpr ⟨mx_ok_iload_n (show decode b_xw_isIllFormed 86 = .ok (.iload_n 0, 1) by decide +kernel) rfl, ?_⟩
  refine List.forall_mem_cons.mpr ⟨mx_ok_invS vw_G (ct_xw_side l np nd) ⟨vm_117, vm_118, vm_97, ⟨by decide +kernel, by decide +kernel, by decide +kernel⟩, ⟨by decide, by decide⟩, rfl, rfl⟩ vm_119 (show decode b_xw_isIllFormed 87 = .ok (.invokestatic 34, 3) by decide +kernel), ?_⟩
  refine List.forall_mem_cons.mpr ⟨mx_ok_icmp_eq (show decode b_xw_isIllFormed 90 = .ok (.if_icmp .eq 7, 3) by decide +kernel) (by decide), ?_⟩
  refine List.forall_mem_cons.mpr ⟨mx_ok_iconst (show decode b_xw_isIllFormed 93 = .ok (.iconst 1, 1) by decide +kernel) (by decide), ?_⟩
  refine List.forall_mem_cons.mpr ⟨mx_ok_goto (show decode b_xw_isIllFormed 94 = .ok (.goto 4, 3) by decide +kernel) (by decide), ?_⟩
  refine List.forall_mem_cons.mpr ⟨mx_ok_iconst (show decode b_xw_isIllFormed 97 = .ok (.iconst 0, 1) by decide +kernel) (by decide), ?_⟩
  refine List.forall_mem_cons.mpr ⟨mx_ok_zret (show decode b_xw_isIllFormed 98 = .ok (.ireturn, 1) by decide +kernel) rfl, ?_⟩
  exact fun _ h => absurd h List.not_mem_nil
set_option maxRecDepth 100000 in
set_option maxHeartbeats 4000000 in
theorem ct_xw_isIllFormed (l : Launch) (np nd : Nat) : mx_Ct l vw_T vw_cl (kx np nd) { frames := 1, cells := 0, slots := 0, locals := 20 } y_xw_isIllFormed b_xw_isIllFormed 3 (some .boolean) (pre_xw_isIllFormed np nd) (fn_xw_isIllFormed np nd) := by
  refine mx_ct_of (tb_xw_isIllFormed np nd ) (by decide) (ok_xw_isIllFormed l np nd ) (fun as u h => by obtain ⟨_, rfl, -⟩ := h; exact Nat.le_of_ble_eq_true rfl) ?_
  intro as u hpre At hc hw
  obtain ⟨a1, rfl, hp⟩ := hpre
  exact hc 200 [] _ _ _ _ (
    And.intro rfl (
    And.intro ⟨_, rfl, trivial⟩ (
    And.intro (fun h14 => 
     And.intro (Or.inr rfl) (
     congrArg (mx_rI u) (show 1 = (xw_isIllFormed a1 ) from (if_pos h14).symm))) (fun h14 => 
     And.intro (fun h18 => 
      And.intro rfl (
      And.intro ⟨_, rfl, trivial⟩ (
      And.intro (fun h34 => 
       And.intro (Or.inr rfl) (
       congrArg (mx_rI u) (show 1 = (xw_isIllFormed a1 ) from ((if_neg h14).trans ((if_neg h18).trans (if_pos h34))).symm))) (fun h34 => 
       And.intro (fun h41 => 
        And.intro rfl (
        And.intro ⟨_, rfl, trivial⟩ (
        And.intro (fun h57 => 
         And.intro rfl (
         And.intro ⟨_, rfl, trivial⟩ (
         And.intro (fun h77 => 
          And.intro (Or.inl rfl) (
          congrArg (mx_rI u) (show 0 = (xw_isIllFormed a1 ) from ((if_neg h14).trans ((if_neg h18).trans ((if_neg h34).trans ((if_pos h41).trans ((if_pos h57).trans (if_pos h77)))))).symm))) (fun h77 => 
          And.intro rfl (
          And.intro ⟨_, rfl, trivial⟩ (
          And.intro rfl (
          And.intro ⟨_, rfl, trivial⟩ (
          And.intro (fun h90 => 
           And.intro (Or.inl rfl) (
           congrArg (mx_rI u) (show 0 = (xw_isIllFormed a1 ) from ((if_neg h14).trans ((if_neg h18).trans ((if_neg h34).trans ((if_pos h41).trans ((if_pos h57).trans ((if_neg h77).trans (if_pos h90))))))).symm))) (fun h90 => 
           And.intro (Or.inr rfl) (
           congrArg (mx_rI u) (show 1 = (xw_isIllFormed a1 ) from ((if_neg h14).trans ((if_neg h18).trans ((if_neg h34).trans ((if_pos h41).trans ((if_pos h57).trans ((if_neg h77).trans (if_neg h90))))))).symm))))))))))) (fun h57 => 
         And.intro rfl (
         And.intro ⟨_, rfl, trivial⟩ (
         And.intro rfl (
         And.intro ⟨_, rfl, trivial⟩ (
         And.intro (fun h70 => 
          And.intro (Or.inr rfl) (
          congrArg (mx_rI u) (show 1 = (xw_isIllFormed a1 ) from ((if_neg h14).trans ((if_neg h18).trans ((if_neg h34).trans ((if_pos h41).trans ((if_neg h57).trans (if_neg h70)))))).symm))) (fun h70 => 
          And.intro rfl (
          And.intro ⟨_, rfl, trivial⟩ (
          And.intro (fun h77 => 
           And.intro (Or.inl rfl) (
           congrArg (mx_rI u) (show 0 = (xw_isIllFormed a1 ) from ((if_neg h14).trans ((if_neg h18).trans ((if_neg h34).trans ((if_pos h41).trans ((if_neg h57).trans ((if_pos h70).trans (if_pos h77))))))).symm))) (fun h77 => 
           And.intro rfl (
           And.intro ⟨_, rfl, trivial⟩ (
           And.intro rfl (
           And.intro ⟨_, rfl, trivial⟩ (
           And.intro (fun h90 => 
            And.intro (Or.inl rfl) (
            congrArg (mx_rI u) (show 0 = (xw_isIllFormed a1 ) from ((if_neg h14).trans ((if_neg h18).trans ((if_neg h34).trans ((if_pos h41).trans ((if_neg h57).trans ((if_pos h70).trans ((if_neg h77).trans (if_pos h90)))))))).symm))) (fun h90 => 
            And.intro (Or.inr rfl) (
            congrArg (mx_rI u) (show 1 = (xw_isIllFormed a1 ) from ((if_neg h14).trans ((if_neg h18).trans ((if_neg h34).trans ((if_pos h41).trans ((if_neg h57).trans ((if_pos h70).trans ((if_neg h77).trans (if_neg h90)))))))).symm))))))))))))))))))) (fun h41 => 
        And.intro rfl (
        And.intro ⟨_, rfl, trivial⟩ (
        And.intro (fun h48 => 
         And.intro rfl (
         And.intro ⟨_, rfl, trivial⟩ (
         And.intro (fun h57 => 
          And.intro rfl (
          And.intro ⟨_, rfl, trivial⟩ (
          And.intro (fun h77 => 
           And.intro (Or.inl rfl) (
           congrArg (mx_rI u) (show 0 = (xw_isIllFormed a1 ) from ((if_neg h14).trans ((if_neg h18).trans ((if_neg h34).trans ((if_neg h41).trans ((if_neg h48).trans ((if_pos h57).trans (if_pos h77))))))).symm))) (fun h77 => 
           And.intro rfl (
           And.intro ⟨_, rfl, trivial⟩ (
           And.intro rfl (
           And.intro ⟨_, rfl, trivial⟩ (
           And.intro (fun h90 => 
            And.intro (Or.inl rfl) (
            congrArg (mx_rI u) (show 0 = (xw_isIllFormed a1 ) from ((if_neg h14).trans ((if_neg h18).trans ((if_neg h34).trans ((if_neg h41).trans ((if_neg h48).trans ((if_pos h57).trans ((if_neg h77).trans (if_pos h90)))))))).symm))) (fun h90 => 
            And.intro (Or.inr rfl) (
            congrArg (mx_rI u) (show 1 = (xw_isIllFormed a1 ) from ((if_neg h14).trans ((if_neg h18).trans ((if_neg h34).trans ((if_neg h41).trans ((if_neg h48).trans ((if_pos h57).trans ((if_neg h77).trans (if_neg h90)))))))).symm))))))))))) (fun h57 => 
          And.intro rfl (
          And.intro ⟨_, rfl, trivial⟩ (
          And.intro rfl (
          And.intro ⟨_, rfl, trivial⟩ (
          And.intro (fun h70 => 
           And.intro (Or.inr rfl) (
           congrArg (mx_rI u) (show 1 = (xw_isIllFormed a1 ) from ((if_neg h14).trans ((if_neg h18).trans ((if_neg h34).trans ((if_neg h41).trans ((if_neg h48).trans ((if_neg h57).trans (if_neg h70))))))).symm))) (fun h70 => 
           And.intro rfl (
           And.intro ⟨_, rfl, trivial⟩ (
           And.intro (fun h77 => 
            And.intro (Or.inl rfl) (
            congrArg (mx_rI u) (show 0 = (xw_isIllFormed a1 ) from ((if_neg h14).trans ((if_neg h18).trans ((if_neg h34).trans ((if_neg h41).trans ((if_neg h48).trans ((if_neg h57).trans ((if_pos h70).trans (if_pos h77)))))))).symm))) (fun h77 => 
            And.intro rfl (
            And.intro ⟨_, rfl, trivial⟩ (
            And.intro rfl (
            And.intro ⟨_, rfl, trivial⟩ (
            And.intro (fun h90 => 
             And.intro (Or.inl rfl) (
             congrArg (mx_rI u) (show 0 = (xw_isIllFormed a1 ) from ((if_neg h14).trans ((if_neg h18).trans ((if_neg h34).trans ((if_neg h41).trans ((if_neg h48).trans ((if_neg h57).trans ((if_pos h70).trans ((if_neg h77).trans (if_pos h90))))))))).symm))) (fun h90 => 
             And.intro (Or.inr rfl) (
             congrArg (mx_rI u) (show 1 = (xw_isIllFormed a1 ) from ((if_neg h14).trans ((if_neg h18).trans ((if_neg h34).trans ((if_neg h41).trans ((if_neg h48).trans ((if_neg h57).trans ((if_pos h70).trans ((if_neg h77).trans (if_neg h90))))))))).symm))))))))))))))))))) (fun h48 => 
         And.intro (Or.inr rfl) (
         congrArg (mx_rI u) (show 1 = (xw_isIllFormed a1 ) from ((if_neg h14).trans ((if_neg h18).trans ((if_neg h34).trans ((if_neg h41).trans (if_pos h48))))).symm)))))))))) (fun h18 => 
      And.intro rfl (
      And.intro ⟨_, rfl, trivial⟩ (
      And.intro (fun h25 => 
       And.intro rfl (
       And.intro ⟨_, rfl, trivial⟩ (
       And.intro (fun h34 => 
        And.intro (Or.inr rfl) (
        congrArg (mx_rI u) (show 1 = (xw_isIllFormed a1 ) from ((if_neg h14).trans ((if_pos h18).trans ((if_pos h25).trans (if_pos h34)))).symm))) (fun h34 => 
        And.intro (fun h41 => 
         And.intro rfl (
         And.intro ⟨_, rfl, trivial⟩ (
         And.intro (fun h57 => 
          And.intro rfl (
          And.intro ⟨_, rfl, trivial⟩ (
          And.intro (fun h77 => 
           And.intro (Or.inl rfl) (
           congrArg (mx_rI u) (show 0 = (xw_isIllFormed a1 ) from ((if_neg h14).trans ((if_pos h18).trans ((if_pos h25).trans ((if_neg h34).trans ((if_pos h41).trans ((if_pos h57).trans (if_pos h77))))))).symm))) (fun h77 => 
           And.intro rfl (
           And.intro ⟨_, rfl, trivial⟩ (
           And.intro rfl (
           And.intro ⟨_, rfl, trivial⟩ (
           And.intro (fun h90 => 
            And.intro (Or.inl rfl) (
            congrArg (mx_rI u) (show 0 = (xw_isIllFormed a1 ) from ((if_neg h14).trans ((if_pos h18).trans ((if_pos h25).trans ((if_neg h34).trans ((if_pos h41).trans ((if_pos h57).trans ((if_neg h77).trans (if_pos h90)))))))).symm))) (fun h90 => 
            And.intro (Or.inr rfl) (
            congrArg (mx_rI u) (show 1 = (xw_isIllFormed a1 ) from ((if_neg h14).trans ((if_pos h18).trans ((if_pos h25).trans ((if_neg h34).trans ((if_pos h41).trans ((if_pos h57).trans ((if_neg h77).trans (if_neg h90)))))))).symm))))))))))) (fun h57 => 
          And.intro rfl (
          And.intro ⟨_, rfl, trivial⟩ (
          And.intro rfl (
          And.intro ⟨_, rfl, trivial⟩ (
          And.intro (fun h70 => 
           And.intro (Or.inr rfl) (
           congrArg (mx_rI u) (show 1 = (xw_isIllFormed a1 ) from ((if_neg h14).trans ((if_pos h18).trans ((if_pos h25).trans ((if_neg h34).trans ((if_pos h41).trans ((if_neg h57).trans (if_neg h70))))))).symm))) (fun h70 => 
           And.intro rfl (
           And.intro ⟨_, rfl, trivial⟩ (
           And.intro (fun h77 => 
            And.intro (Or.inl rfl) (
            congrArg (mx_rI u) (show 0 = (xw_isIllFormed a1 ) from ((if_neg h14).trans ((if_pos h18).trans ((if_pos h25).trans ((if_neg h34).trans ((if_pos h41).trans ((if_neg h57).trans ((if_pos h70).trans (if_pos h77)))))))).symm))) (fun h77 => 
            And.intro rfl (
            And.intro ⟨_, rfl, trivial⟩ (
            And.intro rfl (
            And.intro ⟨_, rfl, trivial⟩ (
            And.intro (fun h90 => 
             And.intro (Or.inl rfl) (
             congrArg (mx_rI u) (show 0 = (xw_isIllFormed a1 ) from ((if_neg h14).trans ((if_pos h18).trans ((if_pos h25).trans ((if_neg h34).trans ((if_pos h41).trans ((if_neg h57).trans ((if_pos h70).trans ((if_neg h77).trans (if_pos h90))))))))).symm))) (fun h90 => 
             And.intro (Or.inr rfl) (
             congrArg (mx_rI u) (show 1 = (xw_isIllFormed a1 ) from ((if_neg h14).trans ((if_pos h18).trans ((if_pos h25).trans ((if_neg h34).trans ((if_pos h41).trans ((if_neg h57).trans ((if_pos h70).trans ((if_neg h77).trans (if_neg h90))))))))).symm))))))))))))))))))) (fun h41 => 
         And.intro rfl (
         And.intro ⟨_, rfl, trivial⟩ (
         And.intro (fun h48 => 
          And.intro rfl (
          And.intro ⟨_, rfl, trivial⟩ (
          And.intro (fun h57 => 
           And.intro rfl (
           And.intro ⟨_, rfl, trivial⟩ (
           And.intro (fun h77 => 
            And.intro (Or.inl rfl) (
            congrArg (mx_rI u) (show 0 = (xw_isIllFormed a1 ) from ((if_neg h14).trans ((if_pos h18).trans ((if_pos h25).trans ((if_neg h34).trans ((if_neg h41).trans ((if_neg h48).trans ((if_pos h57).trans (if_pos h77)))))))).symm))) (fun h77 => 
            And.intro rfl (
            And.intro ⟨_, rfl, trivial⟩ (
            And.intro rfl (
            And.intro ⟨_, rfl, trivial⟩ (
            And.intro (fun h90 => 
             And.intro (Or.inl rfl) (
             congrArg (mx_rI u) (show 0 = (xw_isIllFormed a1 ) from ((if_neg h14).trans ((if_pos h18).trans ((if_pos h25).trans ((if_neg h34).trans ((if_neg h41).trans ((if_neg h48).trans ((if_pos h57).trans ((if_neg h77).trans (if_pos h90))))))))).symm))) (fun h90 => 
             And.intro (Or.inr rfl) (
             congrArg (mx_rI u) (show 1 = (xw_isIllFormed a1 ) from ((if_neg h14).trans ((if_pos h18).trans ((if_pos h25).trans ((if_neg h34).trans ((if_neg h41).trans ((if_neg h48).trans ((if_pos h57).trans ((if_neg h77).trans (if_neg h90))))))))).symm))))))))))) (fun h57 => 
           And.intro rfl (
           And.intro ⟨_, rfl, trivial⟩ (
           And.intro rfl (
           And.intro ⟨_, rfl, trivial⟩ (
           And.intro (fun h70 => 
            And.intro (Or.inr rfl) (
            congrArg (mx_rI u) (show 1 = (xw_isIllFormed a1 ) from ((if_neg h14).trans ((if_pos h18).trans ((if_pos h25).trans ((if_neg h34).trans ((if_neg h41).trans ((if_neg h48).trans ((if_neg h57).trans (if_neg h70)))))))).symm))) (fun h70 => 
            And.intro rfl (
            And.intro ⟨_, rfl, trivial⟩ (
            And.intro (fun h77 => 
             And.intro (Or.inl rfl) (
             congrArg (mx_rI u) (show 0 = (xw_isIllFormed a1 ) from ((if_neg h14).trans ((if_pos h18).trans ((if_pos h25).trans ((if_neg h34).trans ((if_neg h41).trans ((if_neg h48).trans ((if_neg h57).trans ((if_pos h70).trans (if_pos h77))))))))).symm))) (fun h77 => 
             And.intro rfl (
             And.intro ⟨_, rfl, trivial⟩ (
             And.intro rfl (
             And.intro ⟨_, rfl, trivial⟩ (
             And.intro (fun h90 => 
              And.intro (Or.inl rfl) (
              congrArg (mx_rI u) (show 0 = (xw_isIllFormed a1 ) from ((if_neg h14).trans ((if_pos h18).trans ((if_pos h25).trans ((if_neg h34).trans ((if_neg h41).trans ((if_neg h48).trans ((if_neg h57).trans ((if_pos h70).trans ((if_neg h77).trans (if_pos h90)))))))))).symm))) (fun h90 => 
              And.intro (Or.inr rfl) (
              congrArg (mx_rI u) (show 1 = (xw_isIllFormed a1 ) from ((if_neg h14).trans ((if_pos h18).trans ((if_pos h25).trans ((if_neg h34).trans ((if_neg h41).trans ((if_neg h48).trans ((if_neg h57).trans ((if_pos h70).trans ((if_neg h77).trans (if_neg h90)))))))))).symm))))))))))))))))))) (fun h48 => 
          And.intro (Or.inr rfl) (
          congrArg (mx_rI u) (show 1 = (xw_isIllFormed a1 ) from ((if_neg h14).trans ((if_pos h18).trans ((if_pos h25).trans ((if_neg h34).trans ((if_neg h41).trans (if_pos h48)))))).symm)))))))))) (fun h25 => 
       And.intro (Or.inr rfl) (
       congrArg (mx_rI u) (show 1 = (xw_isIllFormed a1 ) from ((if_neg h14).trans ((if_pos h18).trans (if_neg h25))).symm))))))))))
/-! WideMachine$Word.unit(I)I -/
def xw_unit (a1 : Int32) : Int32 :=
  ((a1 >>> ((5 : Int32) &&& 31)) &&& (7 : Int32))
def pre_xw_unit (np nd : Nat) : List mx_V → mx_S → Prop := fun as u => ∃ (a1 : Int32), as = [.inl a1] ∧ True
def fn_xw_unit (np nd : Nat) : mx_F := fun as u => match as with
  | [.inl a1] => mx_rI u (xw_unit a1 )
  | _ => (none, u)
def tb_xw_unit (np nd : Nat) : List (Nat × mx_T) := [
  (0, mx_iload_n 0 0),
  (1, mx_iconst 5 1),
  (2, mx_ishr 2),
  (3, mx_bipush 7 3),
  (5, mx_iand 5),
  (6, mx_iret 6)]
set_option maxRecDepth 100000 in
set_option maxHeartbeats 4000000 in
theorem ok_xw_unit (l : Launch) (np nd : Nat) : ∀ q ∈ tb_xw_unit np nd , mx_Ok l ({ frames := 0, cells := 0, slots := 0, locals := 0 } : Room) b_xw_unit 1 "WideMachine$Word" (some .int) vw_T vw_cl (kx np nd) q.1 q.2 := by
  refine List.forall_mem_cons.mpr ⟨mx_ok_iload_n (show decode b_xw_unit 0 = .ok (.iload_n 0, 1) by decide +kernel) rfl, ?_⟩
  refine List.forall_mem_cons.mpr ⟨mx_ok_iconst (show decode b_xw_unit 1 = .ok (.iconst 5, 1) by decide +kernel) (by decide), ?_⟩
  refine List.forall_mem_cons.mpr ⟨mx_ok_ishr (show decode b_xw_unit 2 = .ok (.ishr, 1) by decide +kernel), ?_⟩
  refine List.forall_mem_cons.mpr ⟨mx_ok_bipush (show decode b_xw_unit 3 = .ok (.bipush 7, 2) by decide +kernel) (by decide), ?_⟩
  refine List.forall_mem_cons.mpr ⟨mx_ok_iand (show decode b_xw_unit 5 = .ok (.iand, 1) by decide +kernel), ?_⟩
  refine List.forall_mem_cons.mpr ⟨mx_ok_iret (show decode b_xw_unit 6 = .ok (.ireturn, 1) by decide +kernel) rfl, ?_⟩
  exact fun _ h => absurd h List.not_mem_nil
set_option maxRecDepth 100000 in
set_option maxHeartbeats 4000000 in
theorem ct_xw_unit (l : Launch) (np nd : Nat) : mx_Ct l vw_T vw_cl (kx np nd) { frames := 0, cells := 0, slots := 0, locals := 0 } y_xw_unit b_xw_unit 1 (some .int) (pre_xw_unit np nd) (fn_xw_unit np nd) := by
  refine mx_ct_of (tb_xw_unit np nd ) (by decide) (ok_xw_unit l np nd ) (fun as u h => by obtain ⟨_, rfl, -⟩ := h; exact Nat.le_of_ble_eq_true rfl) ?_
  intro as u hpre At hc hw
  obtain ⟨a1, rfl, hp⟩ := hpre
  exact hc 200 [] _ _ _ _ (
    congrArg (mx_rI u) (show ((a1 >>> ((5 : Int32) &&& 31)) &&& (7 : Int32)) = (xw_unit a1 ) from (rfl).symm))
/-! WideMachine$Word.hasB(I)Z -/
def xw_hasB (a1 : Int32) : Int32 :=
  if (xw_hasLongNumber a1 ) = 0 then
   if a1 = 25 then
    0
   else
    if a1 = 27 then
     0
    else
     1
  else
   0
def pre_xw_hasB (np nd : Nat) : List mx_V → mx_S → Prop := fun as u => ∃ (a1 : Int32), as = [.inl a1] ∧ True
def fn_xw_hasB (np nd : Nat) : mx_F := fun as u => match as with
  | [.inl a1] => mx_rI u (xw_hasB a1 )
  | _ => (none, u)
def tb_xw_hasB (np nd : Nat) : List (Nat × mx_T) := [
  (0, mx_iload_n 0 0),
  (1, mx_invS 1 (pre_xw_hasLongNumber np nd) (fn_xw_hasLongNumber np nd) 1),
  (4, mx_if_ne 23 4),
  (7, mx_iload_n 0 7),
  (8, mx_bipush 25 8),
  (10, mx_icmp_eq 23 10),
  (13, mx_iload_n 0 13),
  (14, mx_bipush 27 14),
  (16, mx_icmp_eq 23 16),
  (19, mx_iconst 1 19),
  (20, mx_goto 24 20),
  (23, mx_iconst 0 23),
  (24, mx_zret 24)]
set_option maxRecDepth 100000 in
set_option maxHeartbeats 4000000 in
theorem ok_xw_hasB (l : Launch) (np nd : Nat) : ∀ q ∈ tb_xw_hasB np nd , mx_Ok l ({ frames := 1, cells := 0, slots := 0, locals := 20 } : Room) b_xw_hasB 1 "WideMachine$Word" (some .boolean) vw_T vw_cl (kx np nd) q.1 q.2 := by
  refine List.forall_mem_cons.mpr ⟨mx_ok_iload_n (show decode b_xw_hasB 0 = .ok (.iload_n 0, 1) by decide +kernel) rfl, ?_⟩
  refine List.forall_mem_cons.mpr ⟨mx_ok_invS vw_G (ct_xw_hasLongNumber l np nd) ⟨vm_108, vm_109, vm_97, ⟨by decide +kernel, by decide +kernel, by decide +kernel⟩, ⟨by decide, by decide⟩, rfl, rfl⟩ vm_110 (show decode b_xw_hasB 1 = .ok (.invokestatic 25, 3) by decide +kernel), ?_⟩
  refine List.forall_mem_cons.mpr ⟨mx_ok_if_ne (show decode b_xw_hasB 4 = .ok (.ifCond .ne 19, 3) by decide +kernel) (by decide), ?_⟩
  refine List.forall_mem_cons.mpr ⟨mx_ok_iload_n (show decode b_xw_hasB 7 = .ok (.iload_n 0, 1) by decide +kernel) rfl, ?_⟩
  refine List.forall_mem_cons.mpr ⟨mx_ok_bipush (show decode b_xw_hasB 8 = .ok (.bipush 25, 2) by decide +kernel) (by decide), ?_⟩
  refine List.forall_mem_cons.mpr ⟨mx_ok_icmp_eq (show decode b_xw_hasB 10 = .ok (.if_icmp .eq 13, 3) by decide +kernel) (by decide), ?_⟩
  refine List.forall_mem_cons.mpr ⟨mx_ok_iload_n (show decode b_xw_hasB 13 = .ok (.iload_n 0, 1) by decide +kernel) rfl, ?_⟩
  refine List.forall_mem_cons.mpr ⟨mx_ok_bipush (show decode b_xw_hasB 14 = .ok (.bipush 27, 2) by decide +kernel) (by decide), ?_⟩
  refine List.forall_mem_cons.mpr ⟨mx_ok_icmp_eq (show decode b_xw_hasB 16 = .ok (.if_icmp .eq 7, 3) by decide +kernel) (by decide), ?_⟩
  refine List.forall_mem_cons.mpr ⟨mx_ok_iconst (show decode b_xw_hasB 19 = .ok (.iconst 1, 1) by decide +kernel) (by decide), ?_⟩
  refine List.forall_mem_cons.mpr ⟨mx_ok_goto (show decode b_xw_hasB 20 = .ok (.goto 4, 3) by decide +kernel) (by decide), ?_⟩
  refine List.forall_mem_cons.mpr ⟨mx_ok_iconst (show decode b_xw_hasB 23 = .ok (.iconst 0, 1) by decide +kernel) (by decide), ?_⟩
  refine List.forall_mem_cons.mpr ⟨mx_ok_zret (show decode b_xw_hasB 24 = .ok (.ireturn, 1) by decide +kernel) rfl, ?_⟩
  exact fun _ h => absurd h List.not_mem_nil
set_option maxRecDepth 100000 in
set_option maxHeartbeats 4000000 in
theorem ct_xw_hasB (l : Launch) (np nd : Nat) : mx_Ct l vw_T vw_cl (kx np nd) { frames := 1, cells := 0, slots := 0, locals := 20 } y_xw_hasB b_xw_hasB 1 (some .boolean) (pre_xw_hasB np nd) (fn_xw_hasB np nd) := by
  refine mx_ct_of (tb_xw_hasB np nd ) (by decide) (ok_xw_hasB l np nd ) (fun as u h => by obtain ⟨_, rfl, -⟩ := h; exact Nat.le_of_ble_eq_true rfl) ?_
  intro as u hpre At hc hw
  obtain ⟨a1, rfl, hp⟩ := hpre
  exact hc 200 [] _ _ _ _ (
    And.intro rfl (
    And.intro ⟨_, rfl, trivial⟩ (
    And.intro (fun h4 => 
     And.intro (Or.inl rfl) (
     congrArg (mx_rI u) (show 0 = (xw_hasB a1 ) from (if_neg h4).symm))) (fun h4 => 
     And.intro (fun h10 => 
      And.intro (Or.inl rfl) (
      congrArg (mx_rI u) (show 0 = (xw_hasB a1 ) from ((if_pos h4).trans (if_pos h10)).symm))) (fun h10 => 
      And.intro (fun h16 => 
       And.intro (Or.inl rfl) (
       congrArg (mx_rI u) (show 0 = (xw_hasB a1 ) from ((if_pos h4).trans ((if_neg h10).trans (if_pos h16))).symm))) (fun h16 => 
       And.intro (Or.inr rfl) (
       congrArg (mx_rI u) (show 1 = (xw_hasB a1 ) from ((if_pos h4).trans ((if_neg h10).trans (if_neg h16))).symm))))))))
/-! WideMachine$Word.isNumberB(I)Z -/
def xw_isNumberB (a1 : Int32) : Int32 :=
  if ((a1 >>> ((27 : Int32) &&& 31)) &&& (1 : Int32)) = 0 then
   0
  else
   1
def pre_xw_isNumberB (np nd : Nat) : List mx_V → mx_S → Prop := fun as u => ∃ (a1 : Int32), as = [.inl a1] ∧ True
def fn_xw_isNumberB (np nd : Nat) : mx_F := fun as u => match as with
  | [.inl a1] => mx_rI u (xw_isNumberB a1 )
  | _ => (none, u)
def tb_xw_isNumberB (np nd : Nat) : List (Nat × mx_T) := [
  (0, mx_iload_n 0 0),
  (1, mx_bipush 27 1),
  (3, mx_ishr 3),
  (4, mx_iconst 1 4),
  (5, mx_iand 5),
  (6, mx_if_eq 13 6),
  (9, mx_iconst 1 9),
  (10, mx_goto 14 10),
  (13, mx_iconst 0 13),
  (14, mx_zret 14)]
set_option maxRecDepth 100000 in
set_option maxHeartbeats 4000000 in
theorem ok_xw_isNumberB (l : Launch) (np nd : Nat) : ∀ q ∈ tb_xw_isNumberB np nd , mx_Ok l ({ frames := 0, cells := 0, slots := 0, locals := 0 } : Room) b_xw_isNumberB 1 "WideMachine$Word" (some .boolean) vw_T vw_cl (kx np nd) q.1 q.2 := by
  refine List.forall_mem_cons.mpr ⟨mx_ok_iload_n (show decode b_xw_isNumberB 0 = .ok (.iload_n 0, 1) by decide +kernel) rfl, ?_⟩
  refine List.forall_mem_cons.mpr ⟨mx_ok_bipush (show decode b_xw_isNumberB 1 = .ok (.bipush 27, 2) by decide +kernel) (by decide), ?_⟩
  refine List.forall_mem_cons.mpr ⟨mx_ok_ishr (show decode b_xw_isNumberB 3 = .ok (.ishr, 1) by decide +kernel), ?_⟩
  refine List.forall_mem_cons.mpr ⟨mx_ok_iconst (show decode b_xw_isNumberB 4 = .ok (.iconst 1, 1) by decide +kernel) (by decide), ?_⟩
  refine List.forall_mem_cons.mpr ⟨mx_ok_iand (show decode b_xw_isNumberB 5 = .ok (.iand, 1) by decide +kernel), ?_⟩
  refine List.forall_mem_cons.mpr ⟨mx_ok_if_eq (show decode b_xw_isNumberB 6 = .ok (.ifCond .eq 7, 3) by decide +kernel) (by decide), ?_⟩
  refine List.forall_mem_cons.mpr ⟨mx_ok_iconst (show decode b_xw_isNumberB 9 = .ok (.iconst 1, 1) by decide +kernel) (by decide), ?_⟩
  refine List.forall_mem_cons.mpr ⟨mx_ok_goto (show decode b_xw_isNumberB 10 = .ok (.goto 4, 3) by decide +kernel) (by decide), ?_⟩
  refine List.forall_mem_cons.mpr ⟨mx_ok_iconst (show decode b_xw_isNumberB 13 = .ok (.iconst 0, 1) by decide +kernel) (by decide), ?_⟩
  refine List.forall_mem_cons.mpr ⟨mx_ok_zret (show decode b_xw_isNumberB 14 = .ok (.ireturn, 1) by decide +kernel) rfl, ?_⟩
  exact fun _ h => absurd h List.not_mem_nil
set_option maxRecDepth 100000 in
set_option maxHeartbeats 4000000 in
theorem ct_xw_isNumberB (l : Launch) (np nd : Nat) : mx_Ct l vw_T vw_cl (kx np nd) { frames := 0, cells := 0, slots := 0, locals := 0 } y_xw_isNumberB b_xw_isNumberB 1 (some .boolean) (pre_xw_isNumberB np nd) (fn_xw_isNumberB np nd) := by
  refine mx_ct_of (tb_xw_isNumberB np nd ) (by decide) (ok_xw_isNumberB l np nd ) (fun as u h => by obtain ⟨_, rfl, -⟩ := h; exact Nat.le_of_ble_eq_true rfl) ?_
  intro as u hpre At hc hw
  obtain ⟨a1, rfl, hp⟩ := hpre
  exact hc 200 [] _ _ _ _ (
    And.intro (fun h6 => 
     And.intro (Or.inl rfl) (
     congrArg (mx_rI u) (show 0 = (xw_isNumberB a1 ) from (if_pos h6).symm))) (fun h6 => 
     And.intro (Or.inr rfl) (
     congrArg (mx_rI u) (show 1 = (xw_isNumberB a1 ) from (if_neg h6).symm))))
/-! WideMachine$Word.b(I)I -/
def xw_b (a1 : Int32) : Int32 :=
  ((a1 >>> ((22 : Int32) &&& 31)) &&& (31 : Int32))
def pre_xw_b (np nd : Nat) : List mx_V → mx_S → Prop := fun as u => ∃ (a1 : Int32), as = [.inl a1] ∧ True
def fn_xw_b (np nd : Nat) : mx_F := fun as u => match as with
  | [.inl a1] => mx_rI u (xw_b a1 )
  | _ => (none, u)
def tb_xw_b (np nd : Nat) : List (Nat × mx_T) := [
  (0, mx_iload_n 0 0),
  (1, mx_bipush 22 1),
  (3, mx_ishr 3),
  (4, mx_bipush 31 4),
  (6, mx_iand 6),
  (7, mx_iret 7)]
set_option maxRecDepth 100000 in
set_option maxHeartbeats 4000000 in
theorem ok_xw_b (l : Launch) (np nd : Nat) : ∀ q ∈ tb_xw_b np nd , mx_Ok l ({ frames := 0, cells := 0, slots := 0, locals := 0 } : Room) b_xw_b 1 "WideMachine$Word" (some .int) vw_T vw_cl (kx np nd) q.1 q.2 := by
  refine List.forall_mem_cons.mpr ⟨mx_ok_iload_n (show decode b_xw_b 0 = .ok (.iload_n 0, 1) by decide +kernel) rfl, ?_⟩
  refine List.forall_mem_cons.mpr ⟨mx_ok_bipush (show decode b_xw_b 1 = .ok (.bipush 22, 2) by decide +kernel) (by decide), ?_⟩
  refine List.forall_mem_cons.mpr ⟨mx_ok_ishr (show decode b_xw_b 3 = .ok (.ishr, 1) by decide +kernel), ?_⟩
  refine List.forall_mem_cons.mpr ⟨mx_ok_bipush (show decode b_xw_b 4 = .ok (.bipush 31, 2) by decide +kernel) (by decide), ?_⟩
  refine List.forall_mem_cons.mpr ⟨mx_ok_iand (show decode b_xw_b 6 = .ok (.iand, 1) by decide +kernel), ?_⟩
  refine List.forall_mem_cons.mpr ⟨mx_ok_iret (show decode b_xw_b 7 = .ok (.ireturn, 1) by decide +kernel) rfl, ?_⟩
  exact fun _ h => absurd h List.not_mem_nil
set_option maxRecDepth 100000 in
set_option maxHeartbeats 4000000 in
theorem ct_xw_b (l : Launch) (np nd : Nat) : mx_Ct l vw_T vw_cl (kx np nd) { frames := 0, cells := 0, slots := 0, locals := 0 } y_xw_b b_xw_b 1 (some .int) (pre_xw_b np nd) (fn_xw_b np nd) := by
  refine mx_ct_of (tb_xw_b np nd ) (by decide) (ok_xw_b l np nd ) (fun as u h => by obtain ⟨_, rfl, -⟩ := h; exact Nat.le_of_ble_eq_true rfl) ?_
  intro as u hpre At hc hw
  obtain ⟨a1, rfl, hp⟩ := hpre
  exact hc 200 [] _ _ _ _ (
    congrArg (mx_rI u) (show ((a1 >>> ((22 : Int32) &&& 31)) &&& (31 : Int32)) = (xw_b a1 ) from (rfl).symm))
theorem xw_b_in (w : Int32) : vp_in (xw_b w) 32 := pk_andIn _ 5 (by decide) (by decide)
/-! WideMachine$Word.crosses(I)Z -/
def xw_crosses (a1 : Int32) : Int32 :=
  if (xw_hasB (xw_code a1 ) ) = 0 then
   0
  else
   if (xw_isNumberB a1 ) = 0 then
    if ((xw_b a1 ) >>> ((4 : Int32) &&& 31)) = (xw_side a1 ) then
     0
    else
     1
   else
    0
def pre_xw_crosses (np nd : Nat) : List mx_V → mx_S → Prop := fun as u => ∃ (a1 : Int32), as = [.inl a1] ∧ True
def fn_xw_crosses (np nd : Nat) : mx_F := fun as u => match as with
  | [.inl a1] => mx_rI u (xw_crosses a1 )
  | _ => (none, u)
def tb_xw_crosses (np nd : Nat) : List (Nat × mx_T) := [
  (0, mx_iload_n 0 0),
  (1, mx_invS 1 (pre_xw_code np nd) (fn_xw_code np nd) 1),
  (4, mx_invS 1 (pre_xw_hasB np nd) (fn_xw_hasB np nd) 4),
  (7, mx_if_eq 34 7),
  (10, mx_iload_n 0 10),
  (11, mx_invS 1 (pre_xw_isNumberB np nd) (fn_xw_isNumberB np nd) 11),
  (14, mx_if_ne 34 14),
  (17, mx_iload_n 0 17),
  (18, mx_invS 1 (pre_xw_b np nd) (fn_xw_b np nd) 18),
  (21, mx_iconst 4 21),
  (22, mx_ishr 22),
  (23, mx_iload_n 0 23),
  (24, mx_invS 1 (pre_xw_side np nd) (fn_xw_side np nd) 24),
  (27, mx_icmp_eq 34 27),
  (30, mx_iconst 1 30),
  (31, mx_goto 35 31),
  (34, mx_iconst 0 34),
  (35, mx_zret 35)]
set_option maxRecDepth 100000 in
set_option maxHeartbeats 4000000 in
theorem ok_xw_crosses (l : Launch) (np nd : Nat) : ∀ q ∈ tb_xw_crosses np nd , mx_Ok l ({ frames := 2, cells := 0, slots := 0, locals := 40 } : Room) b_xw_crosses 1 "WideMachine$Word" (some .boolean) vw_T vw_cl (kx np nd) q.1 q.2 := by
  refine List.forall_mem_cons.mpr ⟨mx_ok_iload_n (show decode b_xw_crosses 0 = .ok (.iload_n 0, 1) by decide +kernel) rfl, ?_⟩
  refine List.forall_mem_cons.mpr ⟨mx_ok_invS vw_G (ct_xw_code l np nd) ⟨vm_99, vm_100, vm_97, ⟨by decide +kernel, by decide +kernel, by decide +kernel⟩, ⟨by decide, by decide⟩, rfl, rfl⟩ vm_101 (show decode b_xw_crosses 1 = .ok (.invokestatic 9, 3) by decide +kernel), ?_⟩
  refine List.forall_mem_cons.mpr ⟨mx_ok_invS vw_G (ct_xw_hasB l np nd) ⟨vm_132, vm_133, vm_97, ⟨by decide +kernel, by decide +kernel, by decide +kernel⟩, ⟨by decide, by decide⟩, rfl, rfl⟩ vm_134 (show decode b_xw_crosses 4 = .ok (.invokestatic 43, 3) by decide +kernel), ?_⟩
  refine List.forall_mem_cons.mpr ⟨mx_ok_if_eq (show decode b_xw_crosses 7 = .ok (.ifCond .eq 27, 3) by decide +kernel) (by decide), ?_⟩
  refine List.forall_mem_cons.mpr ⟨mx_ok_iload_n (show decode b_xw_crosses 10 = .ok (.iload_n 0, 1) by decide +kernel) rfl, ?_⟩
  refine List.forall_mem_cons.mpr ⟨mx_ok_invS vw_G (ct_xw_isNumberB l np nd) ⟨vm_135, vm_136, vm_97, ⟨by decide +kernel, by decide +kernel, by decide +kernel⟩, ⟨by decide, by decide⟩, rfl, rfl⟩ vm_137 (show decode b_xw_crosses 11 = .ok (.invokestatic 46, 3) by decide +kernel), ?_⟩
  refine List.forall_mem_cons.mpr ⟨mx_ok_if_ne (show decode b_xw_crosses 14 = .ok (.ifCond .ne 20, 3) by decide +kernel) (by decide), ?_⟩
  refine List.forall_mem_cons.mpr ⟨mx_ok_iload_n (show decode b_xw_crosses 17 = .ok (.iload_n 0, 1) by decide +kernel) rfl, ?_⟩
  refine List.forall_mem_cons.mpr ⟨mx_ok_invS vw_G (ct_xw_b l np nd) ⟨vm_138, vm_139, vm_97, ⟨by decide +kernel, by decide +kernel, by decide +kernel⟩, ⟨by decide, by decide⟩, rfl, rfl⟩ vm_140 (show decode b_xw_crosses 18 = .ok (.invokestatic 49, 3) by decide +kernel), ?_⟩
  refine List.forall_mem_cons.mpr ⟨mx_ok_iconst (show decode b_xw_crosses 21 = .ok (.iconst 4, 1) by decide +kernel) (by decide), ?_⟩
  refine List.forall_mem_cons.mpr ⟨mx_ok_ishr (show decode b_xw_crosses 22 = .ok (.ishr, 1) by decide +kernel), ?_⟩
  refine List.forall_mem_cons.mpr ⟨mx_ok_iload_n (show decode b_xw_crosses 23 = .ok (.iload_n 0, 1) by decide +kernel) rfl, ?_⟩
  refine List.forall_mem_cons.mpr ⟨mx_ok_invS vw_G (ct_xw_side l np nd) ⟨vm_117, vm_118, vm_97, ⟨by decide +kernel, by decide +kernel, by decide +kernel⟩, ⟨by decide, by decide⟩, rfl, rfl⟩ vm_119 (show decode b_xw_crosses 24 = .ok (.invokestatic 34, 3) by decide +kernel), ?_⟩
  refine List.forall_mem_cons.mpr ⟨mx_ok_icmp_eq (show decode b_xw_crosses 27 = .ok (.if_icmp .eq 7, 3) by decide +kernel) (by decide), ?_⟩
  refine List.forall_mem_cons.mpr ⟨mx_ok_iconst (show decode b_xw_crosses 30 = .ok (.iconst 1, 1) by decide +kernel) (by decide), ?_⟩
  refine List.forall_mem_cons.mpr ⟨mx_ok_goto (show decode b_xw_crosses 31 = .ok (.goto 4, 3) by decide +kernel) (by decide), ?_⟩
  refine List.forall_mem_cons.mpr ⟨mx_ok_iconst (show decode b_xw_crosses 34 = .ok (.iconst 0, 1) by decide +kernel) (by decide), ?_⟩
  refine List.forall_mem_cons.mpr ⟨mx_ok_zret (show decode b_xw_crosses 35 = .ok (.ireturn, 1) by decide +kernel) rfl, ?_⟩
  exact fun _ h => absurd h List.not_mem_nil
set_option maxRecDepth 100000 in
set_option maxHeartbeats 4000000 in
theorem ct_xw_crosses (l : Launch) (np nd : Nat) : mx_Ct l vw_T vw_cl (kx np nd) { frames := 2, cells := 0, slots := 0, locals := 40 } y_xw_crosses b_xw_crosses 1 (some .boolean) (pre_xw_crosses np nd) (fn_xw_crosses np nd) := by
  refine mx_ct_of (tb_xw_crosses np nd ) (by decide) (ok_xw_crosses l np nd ) (fun as u h => by obtain ⟨_, rfl, -⟩ := h; exact Nat.le_of_ble_eq_true rfl) ?_
  intro as u hpre At hc hw
  obtain ⟨a1, rfl, hp⟩ := hpre
  exact hc 200 [] _ _ _ _ (
    And.intro rfl (
    And.intro ⟨_, rfl, trivial⟩ (
    And.intro rfl (
    And.intro ⟨_, rfl, trivial⟩ (
    And.intro (fun h7 => 
     And.intro (Or.inl rfl) (
     congrArg (mx_rI u) (show 0 = (xw_crosses a1 ) from (if_pos h7).symm))) (fun h7 => 
     And.intro rfl (
     And.intro ⟨_, rfl, trivial⟩ (
     And.intro (fun h14 => 
      And.intro (Or.inl rfl) (
      congrArg (mx_rI u) (show 0 = (xw_crosses a1 ) from ((if_neg h7).trans (if_neg h14)).symm))) (fun h14 => 
      And.intro rfl (
      And.intro ⟨_, rfl, trivial⟩ (
      And.intro rfl (
      And.intro ⟨_, rfl, trivial⟩ (
      And.intro (fun h27 => 
       And.intro (Or.inl rfl) (
       congrArg (mx_rI u) (show 0 = (xw_crosses a1 ) from ((if_neg h7).trans ((if_pos h14).trans (if_pos h27))).symm))) (fun h27 => 
       And.intro (Or.inr rfl) (
       congrArg (mx_rI u) (show 1 = (xw_crosses a1 ) from ((if_neg h7).trans ((if_pos h14).trans (if_neg h27))).symm))))))))))))))))
/-! WideMachine$Word.conditionRegister(I)I -/
def xw_conditionRegister (a1 : Int32) : Int32 :=
  if ((a1 >>> ((1 : Int32) &&& 31)) &&& (7 : Int32)) = 1 then
   16
  else
  if ((a1 >>> ((1 : Int32) &&& 31)) &&& (7 : Int32)) = 2 then
   17
  else
  if ((a1 >>> ((1 : Int32) &&& 31)) &&& (7 : Int32)) = 3 then
   18
  else
  if ((a1 >>> ((1 : Int32) &&& 31)) &&& (7 : Int32)) = 4 then
   1
  else
  if ((a1 >>> ((1 : Int32) &&& 31)) &&& (7 : Int32)) = 5 then
   2
  else
  (-1)
def pre_xw_conditionRegister (np nd : Nat) : List mx_V → mx_S → Prop := fun as u => ∃ (a1 : Int32), as = [.inl a1] ∧ True
def fn_xw_conditionRegister (np nd : Nat) : mx_F := fun as u => match as with
  | [.inl a1] => mx_rI u (xw_conditionRegister a1 )
  | _ => (none, u)
def tb_xw_conditionRegister (np nd : Nat) : List (Nat × mx_T) := [
  (0, mx_iload_n 0 0),
  (1, mx_iconst 1 1),
  (2, mx_ishr 2),
  (3, mx_bipush 7 3),
  (5, mx_iand 5),
  (6, mx_tsw 53 [(1, 40), (2, 43), (3, 46), (4, 49), (5, 51)] 6),
  (40, mx_bipush 16 40),
  (42, mx_iret 42),
  (43, mx_bipush 17 43),
  (45, mx_iret 45),
  (46, mx_bipush 18 46),
  (48, mx_iret 48),
  (49, mx_iconst 1 49),
  (50, mx_iret 50),
  (51, mx_iconst 2 51),
  (52, mx_iret 52),
  (53, mx_iconst (-1) 53),
  (54, mx_iret 54)]
set_option maxRecDepth 100000 in
set_option maxHeartbeats 4000000 in
theorem ok_xw_conditionRegister (l : Launch) (np nd : Nat) : ∀ q ∈ tb_xw_conditionRegister np nd , mx_Ok l ({ frames := 0, cells := 0, slots := 0, locals := 0 } : Room) b_xw_conditionRegister 1 "WideMachine$Word" (some .int) vw_T vw_cl (kx np nd) q.1 q.2 := by
  refine List.forall_mem_cons.mpr ⟨mx_ok_iload_n (show decode b_xw_conditionRegister 0 = .ok (.iload_n 0, 1) by decide +kernel) rfl, ?_⟩
  refine List.forall_mem_cons.mpr ⟨mx_ok_iconst (show decode b_xw_conditionRegister 1 = .ok (.iconst 1, 1) by decide +kernel) (by decide), ?_⟩
  refine List.forall_mem_cons.mpr ⟨mx_ok_ishr (show decode b_xw_conditionRegister 2 = .ok (.ishr, 1) by decide +kernel), ?_⟩
  refine List.forall_mem_cons.mpr ⟨mx_ok_bipush (show decode b_xw_conditionRegister 3 = .ok (.bipush 7, 2) by decide +kernel) (by decide), ?_⟩
  refine List.forall_mem_cons.mpr ⟨mx_ok_iand (show decode b_xw_conditionRegister 5 = .ok (.iand, 1) by decide +kernel), ?_⟩
  refine List.forall_mem_cons.mpr ⟨mx_ok_tsw (show decode b_xw_conditionRegister 6 = .ok (.tableswitch 47 1 5 #[34, 37, 40, 43, 45], 34) by decide +kernel) (by decide) (by decide), ?_⟩
  refine List.forall_mem_cons.mpr ⟨mx_ok_bipush (show decode b_xw_conditionRegister 40 = .ok (.bipush 16, 2) by decide +kernel) (by decide), ?_⟩
  refine List.forall_mem_cons.mpr ⟨mx_ok_iret (show decode b_xw_conditionRegister 42 = .ok (.ireturn, 1) by decide +kernel) rfl, ?_⟩
  refine List.forall_mem_cons.mpr ⟨mx_ok_bipush (show decode b_xw_conditionRegister 43 = .ok (.bipush 17, 2) by decide +kernel) (by decide), ?_⟩
  refine List.forall_mem_cons.mpr ⟨mx_ok_iret (show decode b_xw_conditionRegister 45 = .ok (.ireturn, 1) by decide +kernel) rfl, ?_⟩
  refine List.forall_mem_cons.mpr ⟨mx_ok_bipush (show decode b_xw_conditionRegister 46 = .ok (.bipush 18, 2) by decide +kernel) (by decide), ?_⟩
  refine List.forall_mem_cons.mpr ⟨mx_ok_iret (show decode b_xw_conditionRegister 48 = .ok (.ireturn, 1) by decide +kernel) rfl, ?_⟩
  refine List.forall_mem_cons.mpr ⟨mx_ok_iconst (show decode b_xw_conditionRegister 49 = .ok (.iconst 1, 1) by decide +kernel) (by decide), ?_⟩
  refine List.forall_mem_cons.mpr ⟨mx_ok_iret (show decode b_xw_conditionRegister 50 = .ok (.ireturn, 1) by decide +kernel) rfl, ?_⟩
  refine List.forall_mem_cons.mpr ⟨mx_ok_iconst (show decode b_xw_conditionRegister 51 = .ok (.iconst 2, 1) by decide +kernel) (by decide), ?_⟩
  refine List.forall_mem_cons.mpr ⟨mx_ok_iret (show decode b_xw_conditionRegister 52 = .ok (.ireturn, 1) by decide +kernel) rfl, ?_⟩
  refine List.forall_mem_cons.mpr ⟨mx_ok_iconst (show decode b_xw_conditionRegister 53 = .ok (.iconst (-1), 1) by decide +kernel) (by decide), ?_⟩
  refine List.forall_mem_cons.mpr ⟨mx_ok_iret (show decode b_xw_conditionRegister 54 = .ok (.ireturn, 1) by decide +kernel) rfl, ?_⟩
  exact fun _ h => absurd h List.not_mem_nil
set_option maxRecDepth 100000 in
set_option maxHeartbeats 4000000 in
theorem ct_xw_conditionRegister (l : Launch) (np nd : Nat) : mx_Ct l vw_T vw_cl (kx np nd) { frames := 0, cells := 0, slots := 0, locals := 0 } y_xw_conditionRegister b_xw_conditionRegister 1 (some .int) (pre_xw_conditionRegister np nd) (fn_xw_conditionRegister np nd) := by
  refine mx_ct_of (tb_xw_conditionRegister np nd ) (by decide) (ok_xw_conditionRegister l np nd ) (fun as u h => by obtain ⟨_, rfl, -⟩ := h; exact Nat.le_of_ble_eq_true rfl) ?_
  intro as u hpre At hc hw
  obtain ⟨a1, rfl, hp⟩ := hpre
  exact hc 200 [] _ _ _ _ (
    And.intro (fun h6_0 => 
     congrArg (mx_rI u) (show 16 = (xw_conditionRegister a1 ) from (if_pos h6_0).symm)) (fun h6_0 => 
    And.intro (fun h6_1 => 
     congrArg (mx_rI u) (show 17 = (xw_conditionRegister a1 ) from ((if_neg h6_0).trans (if_pos h6_1)).symm)) (fun h6_1 => 
    And.intro (fun h6_2 => 
     congrArg (mx_rI u) (show 18 = (xw_conditionRegister a1 ) from ((if_neg h6_0).trans ((if_neg h6_1).trans (if_pos h6_2))).symm)) (fun h6_2 => 
    And.intro (fun h6_3 => 
     congrArg (mx_rI u) (show 1 = (xw_conditionRegister a1 ) from ((if_neg h6_0).trans ((if_neg h6_1).trans ((if_neg h6_2).trans (if_pos h6_3)))).symm)) (fun h6_3 => 
    And.intro (fun h6_4 => 
     congrArg (mx_rI u) (show 2 = (xw_conditionRegister a1 ) from ((if_neg h6_0).trans ((if_neg h6_1).trans ((if_neg h6_2).trans ((if_neg h6_3).trans (if_pos h6_4))))).symm)) (fun h6_4 => 
     congrArg (mx_rI u) (show (-1) = (xw_conditionRegister a1 ) from ((if_neg h6_0).trans ((if_neg h6_1).trans ((if_neg h6_2).trans ((if_neg h6_3).trans (if_neg h6_4))))).symm)))))))
/-! WideMachine$Word.numberB(I)I -/
def xw_numberB (a1 : Int32) : Int32 :=
  ((a1 <<< ((5 : Int32) &&& 31)) >>> ((27 : Int32) &&& 31))
def pre_xw_numberB (np nd : Nat) : List mx_V → mx_S → Prop := fun as u => ∃ (a1 : Int32), as = [.inl a1] ∧ True
def fn_xw_numberB (np nd : Nat) : mx_F := fun as u => match as with
  | [.inl a1] => mx_rI u (xw_numberB a1 )
  | _ => (none, u)
def tb_xw_numberB (np nd : Nat) : List (Nat × mx_T) := [
  (0, mx_iload_n 0 0),
  (1, mx_iconst 5 1),
  (2, mx_ishl 2),
  (3, mx_bipush 27 3),
  (5, mx_ishr 5),
  (6, mx_iret 6)]
set_option maxRecDepth 100000 in
set_option maxHeartbeats 4000000 in
theorem ok_xw_numberB (l : Launch) (np nd : Nat) : ∀ q ∈ tb_xw_numberB np nd , mx_Ok l ({ frames := 0, cells := 0, slots := 0, locals := 0 } : Room) b_xw_numberB 1 "WideMachine$Word" (some .int) vw_T vw_cl (kx np nd) q.1 q.2 := by
  refine List.forall_mem_cons.mpr ⟨mx_ok_iload_n (show decode b_xw_numberB 0 = .ok (.iload_n 0, 1) by decide +kernel) rfl, ?_⟩
  refine List.forall_mem_cons.mpr ⟨mx_ok_iconst (show decode b_xw_numberB 1 = .ok (.iconst 5, 1) by decide +kernel) (by decide), ?_⟩
  refine List.forall_mem_cons.mpr ⟨mx_ok_ishl (show decode b_xw_numberB 2 = .ok (.ishl, 1) by decide +kernel), ?_⟩
  refine List.forall_mem_cons.mpr ⟨mx_ok_bipush (show decode b_xw_numberB 3 = .ok (.bipush 27, 2) by decide +kernel) (by decide), ?_⟩
  refine List.forall_mem_cons.mpr ⟨mx_ok_ishr (show decode b_xw_numberB 5 = .ok (.ishr, 1) by decide +kernel), ?_⟩
  refine List.forall_mem_cons.mpr ⟨mx_ok_iret (show decode b_xw_numberB 6 = .ok (.ireturn, 1) by decide +kernel) rfl, ?_⟩
  exact fun _ h => absurd h List.not_mem_nil
set_option maxRecDepth 100000 in
set_option maxHeartbeats 4000000 in
theorem ct_xw_numberB (l : Launch) (np nd : Nat) : mx_Ct l vw_T vw_cl (kx np nd) { frames := 0, cells := 0, slots := 0, locals := 0 } y_xw_numberB b_xw_numberB 1 (some .int) (pre_xw_numberB np nd) (fn_xw_numberB np nd) := by
  refine mx_ct_of (tb_xw_numberB np nd ) (by decide) (ok_xw_numberB l np nd ) (fun as u h => by obtain ⟨_, rfl, -⟩ := h; exact Nat.le_of_ble_eq_true rfl) ?_
  intro as u hpre At hc hw
  obtain ⟨a1, rfl, hp⟩ := hpre
  exact hc 200 [] _ _ _ _ (
    congrArg (mx_rI u) (show ((a1 <<< ((5 : Int32) &&& 31)) >>> ((27 : Int32) &&& 31)) = (xw_numberB a1 ) from (rfl).symm))
/-! WideMachine$Word.target(I)I -/
def xw_target (a1 : Int32) : Int32 :=
  (a1.toUInt32 >>> ((12 : Int32).toUInt32 &&& Int32.toUInt32 31)).toInt32
def pre_xw_target (np nd : Nat) : List mx_V → mx_S → Prop := fun as u => ∃ (a1 : Int32), as = [.inl a1] ∧ True
def fn_xw_target (np nd : Nat) : mx_F := fun as u => match as with
  | [.inl a1] => mx_rI u (xw_target a1 )
  | _ => (none, u)
def tb_xw_target (np nd : Nat) : List (Nat × mx_T) := [
  (0, mx_iload_n 0 0),
  (1, mx_bipush 12 1),
  (3, mx_iushr 3),
  (4, mx_iret 4)]
set_option maxRecDepth 100000 in
set_option maxHeartbeats 4000000 in
theorem ok_xw_target (l : Launch) (np nd : Nat) : ∀ q ∈ tb_xw_target np nd , mx_Ok l ({ frames := 0, cells := 0, slots := 0, locals := 0 } : Room) b_xw_target 1 "WideMachine$Word" (some .int) vw_T vw_cl (kx np nd) q.1 q.2 := by
  refine List.forall_mem_cons.mpr ⟨mx_ok_iload_n (show decode b_xw_target 0 = .ok (.iload_n 0, 1) by decide +kernel) rfl, ?_⟩
  refine List.forall_mem_cons.mpr ⟨mx_ok_bipush (show decode b_xw_target 1 = .ok (.bipush 12, 2) by decide +kernel) (by decide), ?_⟩
  refine List.forall_mem_cons.mpr ⟨mx_ok_iushr (show decode b_xw_target 3 = .ok (.iushr, 1) by decide +kernel), ?_⟩
  refine List.forall_mem_cons.mpr ⟨mx_ok_iret (show decode b_xw_target 4 = .ok (.ireturn, 1) by decide +kernel) rfl, ?_⟩
  exact fun _ h => absurd h List.not_mem_nil
set_option maxRecDepth 100000 in
set_option maxHeartbeats 4000000 in
theorem ct_xw_target (l : Launch) (np nd : Nat) : mx_Ct l vw_T vw_cl (kx np nd) { frames := 0, cells := 0, slots := 0, locals := 0 } y_xw_target b_xw_target 1 (some .int) (pre_xw_target np nd) (fn_xw_target np nd) := by
  refine mx_ct_of (tb_xw_target np nd ) (by decide) (ok_xw_target l np nd ) (fun as u h => by obtain ⟨_, rfl, -⟩ := h; exact Nat.le_of_ble_eq_true rfl) ?_
  intro as u hpre At hc hw
  obtain ⟨a1, rfl, hp⟩ := hpre
  exact hc 200 [] _ _ _ _ (
    congrArg (mx_rI u) (show (a1.toUInt32 >>> ((12 : Int32).toUInt32 &&& Int32.toUInt32 31)).toInt32 = (xw_target a1 ) from (rfl).symm))
/-! WideMachine$Word.number(I)I -/
def xw_number (a1 : Int32) : Int32 :=
  (a1 >>> ((17 : Int32) &&& 31))
def pre_xw_number (np nd : Nat) : List mx_V → mx_S → Prop := fun as u => ∃ (a1 : Int32), as = [.inl a1] ∧ True
def fn_xw_number (np nd : Nat) : mx_F := fun as u => match as with
  | [.inl a1] => mx_rI u (xw_number a1 )
  | _ => (none, u)
def tb_xw_number (np nd : Nat) : List (Nat × mx_T) := [
  (0, mx_iload_n 0 0),
  (1, mx_bipush 17 1),
  (3, mx_ishr 3),
  (4, mx_iret 4)]
set_option maxRecDepth 100000 in
set_option maxHeartbeats 4000000 in
theorem ok_xw_number (l : Launch) (np nd : Nat) : ∀ q ∈ tb_xw_number np nd , mx_Ok l ({ frames := 0, cells := 0, slots := 0, locals := 0 } : Room) b_xw_number 1 "WideMachine$Word" (some .int) vw_T vw_cl (kx np nd) q.1 q.2 := by
  refine List.forall_mem_cons.mpr ⟨mx_ok_iload_n (show decode b_xw_number 0 = .ok (.iload_n 0, 1) by decide +kernel) rfl, ?_⟩
  refine List.forall_mem_cons.mpr ⟨mx_ok_bipush (show decode b_xw_number 1 = .ok (.bipush 17, 2) by decide +kernel) (by decide), ?_⟩
  refine List.forall_mem_cons.mpr ⟨mx_ok_ishr (show decode b_xw_number 3 = .ok (.ishr, 1) by decide +kernel), ?_⟩
  refine List.forall_mem_cons.mpr ⟨mx_ok_iret (show decode b_xw_number 4 = .ok (.ireturn, 1) by decide +kernel) rfl, ?_⟩
  exact fun _ h => absurd h List.not_mem_nil
set_option maxRecDepth 100000 in
set_option maxHeartbeats 4000000 in
theorem ct_xw_number (l : Launch) (np nd : Nat) : mx_Ct l vw_T vw_cl (kx np nd) { frames := 0, cells := 0, slots := 0, locals := 0 } y_xw_number b_xw_number 1 (some .int) (pre_xw_number np nd) (fn_xw_number np nd) := by
  refine mx_ct_of (tb_xw_number np nd ) (by decide) (ok_xw_number l np nd ) (fun as u h => by obtain ⟨_, rfl, -⟩ := h; exact Nat.le_of_ble_eq_true rfl) ?_
  intro as u hpre At hc hw
  obtain ⟨a1, rfl, hp⟩ := hpre
  exact hc 200 [] _ _ _ _ (
    congrArg (mx_rI u) (show (a1 >>> ((17 : Int32) &&& 31)) = (xw_number a1 ) from (rfl).symm))
/-! WideMachine$Word.kind(I)I -/
def xw_kind (a1 : Int32) : Int32 :=
  ((a1 >>> ((5 : Int32) &&& 31)) &&& (3 : Int32))
def pre_xw_kind (np nd : Nat) : List mx_V → mx_S → Prop := fun as u => ∃ (a1 : Int32), as = [.inl a1] ∧ True
def fn_xw_kind (np nd : Nat) : mx_F := fun as u => match as with
  | [.inl a1] => mx_rI u (xw_kind a1 )
  | _ => (none, u)
def tb_xw_kind (np nd : Nat) : List (Nat × mx_T) := [
  (0, mx_iload_n 0 0),
  (1, mx_iconst 5 1),
  (2, mx_ishr 2),
  (3, mx_iconst 3 3),
  (4, mx_iand 4),
  (5, mx_iret 5)]
set_option maxRecDepth 100000 in
set_option maxHeartbeats 4000000 in
theorem ok_xw_kind (l : Launch) (np nd : Nat) : ∀ q ∈ tb_xw_kind np nd , mx_Ok l ({ frames := 0, cells := 0, slots := 0, locals := 0 } : Room) b_xw_kind 1 "WideMachine$Word" (some .int) vw_T vw_cl (kx np nd) q.1 q.2 := by
  refine List.forall_mem_cons.mpr ⟨mx_ok_iload_n (show decode b_xw_kind 0 = .ok (.iload_n 0, 1) by decide +kernel) rfl, ?_⟩
  refine List.forall_mem_cons.mpr ⟨mx_ok_iconst (show decode b_xw_kind 1 = .ok (.iconst 5, 1) by decide +kernel) (by decide), ?_⟩
  refine List.forall_mem_cons.mpr ⟨mx_ok_ishr (show decode b_xw_kind 2 = .ok (.ishr, 1) by decide +kernel), ?_⟩
  refine List.forall_mem_cons.mpr ⟨mx_ok_iconst (show decode b_xw_kind 3 = .ok (.iconst 3, 1) by decide +kernel) (by decide), ?_⟩
  refine List.forall_mem_cons.mpr ⟨mx_ok_iand (show decode b_xw_kind 4 = .ok (.iand, 1) by decide +kernel), ?_⟩
  refine List.forall_mem_cons.mpr ⟨mx_ok_iret (show decode b_xw_kind 5 = .ok (.ireturn, 1) by decide +kernel) rfl, ?_⟩
  exact fun _ h => absurd h List.not_mem_nil
set_option maxRecDepth 100000 in
set_option maxHeartbeats 4000000 in
theorem ct_xw_kind (l : Launch) (np nd : Nat) : mx_Ct l vw_T vw_cl (kx np nd) { frames := 0, cells := 0, slots := 0, locals := 0 } y_xw_kind b_xw_kind 1 (some .int) (pre_xw_kind np nd) (fn_xw_kind np nd) := by
  refine mx_ct_of (tb_xw_kind np nd ) (by decide) (ok_xw_kind l np nd ) (fun as u h => by obtain ⟨_, rfl, -⟩ := h; exact Nat.le_of_ble_eq_true rfl) ?_
  intro as u hpre At hc hw
  obtain ⟨a1, rfl, hp⟩ := hpre
  exact hc 200 [] _ _ _ _ (
    congrArg (mx_rI u) (show ((a1 >>> ((5 : Int32) &&& 31)) &&& (3 : Int32)) = (xw_kind a1 ) from (rfl).symm))
/-! WideMachine$Values.nearestInt(J)I -/
def xv_nearestInt (a1 : Int64) : Int32 :=
  if (lg_cmp a1 2147483647) ≤ 0 then
   if 0 ≤ (lg_cmp a1 (-2147483648)) then
    a1.toInt32
   else
    (-2147483648)
  else
   2147483647
def pre_xv_nearestInt (np nd : Nat) : List mx_V → mx_S → Prop := fun as u => ∃ (a1 : Int64), as = [.inr (.inl a1)] ∧ True
def fn_xv_nearestInt (np nd : Nat) : mx_F := fun as u => match as with
  | [.inr (.inl a1)] => mx_rI u (xv_nearestInt a1 )
  | _ => (none, u)
def tb_xv_nearestInt (np nd : Nat) : List (Nat × mx_T) := [
  (0, mx_lload_n 0 0),
  (1, mx_ldc2 2147483647 1),
  (4, mx_lcmp 4),
  (5, mx_if_le 11 5),
  (8, mx_ldc 2147483647 8),
  (10, mx_iret 10),
  (11, mx_lload_n 0 11),
  (12, mx_ldc2 (-2147483648) 12),
  (15, mx_lcmp 15),
  (16, mx_if_ge 24 16),
  (19, mx_ldc (-2147483648) 19),
  (21, mx_goto 26 21),
  (24, mx_lload_n 0 24),
  (25, mx_l2i 25),
  (26, mx_iret 26)]
set_option maxRecDepth 100000 in
set_option maxHeartbeats 4000000 in
theorem ok_xv_nearestInt (l : Launch) (np nd : Nat) : ∀ q ∈ tb_xv_nearestInt np nd , mx_Ok l ({ frames := 0, cells := 0, slots := 0, locals := 0 } : Room) b_xv_nearestInt 2 "WideMachine$Values" (some .int) vw_T vw_cl (kx np nd) q.1 q.2 := by
  refine List.forall_mem_cons.mpr ⟨mx_ok_lload_n (show decode b_xv_nearestInt 0 = .ok (.lload_n 0, 1) by decide +kernel) rfl, ?_⟩
  refine List.forall_mem_cons.mpr ⟨mx_ok_ldc2 (show decode b_xv_nearestInt 1 = .ok (.ldc2_w 20, 3) by decide +kernel) vm_184, ?_⟩
  refine List.forall_mem_cons.mpr ⟨mx_ok_lcmp (show decode b_xv_nearestInt 4 = .ok (.lcmp, 1) by decide +kernel), ?_⟩
  refine List.forall_mem_cons.mpr ⟨mx_ok_if_le (show decode b_xv_nearestInt 5 = .ok (.ifCond .le 6, 3) by decide +kernel) (by decide), ?_⟩
  refine List.forall_mem_cons.mpr ⟨mx_ok_ldc (show decode b_xv_nearestInt 8 = .ok (.ldc 22, 2) by decide +kernel) vm_185, ?_⟩
  refine List.forall_mem_cons.mpr ⟨mx_ok_iret (show decode b_xv_nearestInt 10 = .ok (.ireturn, 1) by decide +kernel) rfl, ?_⟩
  refine List.forall_mem_cons.mpr ⟨mx_ok_lload_n (show decode b_xv_nearestInt 11 = .ok (.lload_n 0, 1) by decide +kernel) rfl, ?_⟩
  refine List.forall_mem_cons.mpr ⟨mx_ok_ldc2 (show decode b_xv_nearestInt 12 = .ok (.ldc2_w 23, 3) by decide +kernel) vm_186, ?_⟩
  refine List.forall_mem_cons.mpr ⟨mx_ok_lcmp (show decode b_xv_nearestInt 15 = .ok (.lcmp, 1) by decide +kernel), ?_⟩
  refine List.forall_mem_cons.mpr ⟨mx_ok_if_ge (show decode b_xv_nearestInt 16 = .ok (.ifCond .ge 8, 3) by decide +kernel) (by decide), ?_⟩
  refine List.forall_mem_cons.mpr ⟨mx_ok_ldc (show decode b_xv_nearestInt 19 = .ok (.ldc 25, 2) by decide +kernel) vm_187, ?_⟩
  refine List.forall_mem_cons.mpr ⟨mx_ok_goto (show decode b_xv_nearestInt 21 = .ok (.goto 5, 3) by decide +kernel) (by decide), ?_⟩
  refine List.forall_mem_cons.mpr ⟨mx_ok_lload_n (show decode b_xv_nearestInt 24 = .ok (.lload_n 0, 1) by decide +kernel) rfl, ?_⟩
  refine List.forall_mem_cons.mpr ⟨mx_ok_l2i (show decode b_xv_nearestInt 25 = .ok (.l2i, 1) by decide +kernel), ?_⟩
  refine List.forall_mem_cons.mpr ⟨mx_ok_iret (show decode b_xv_nearestInt 26 = .ok (.ireturn, 1) by decide +kernel) rfl, ?_⟩
  exact fun _ h => absurd h List.not_mem_nil
set_option maxRecDepth 100000 in
set_option maxHeartbeats 4000000 in
theorem ct_xv_nearestInt (l : Launch) (np nd : Nat) : mx_Ct l vw_T vw_cl (kx np nd) { frames := 0, cells := 0, slots := 0, locals := 0 } y_xv_nearestInt b_xv_nearestInt 2 (some .int) (pre_xv_nearestInt np nd) (fn_xv_nearestInt np nd) := by
  refine mx_ct_of (tb_xv_nearestInt np nd ) (by decide) (ok_xv_nearestInt l np nd ) (fun as u h => by obtain ⟨_, rfl, -⟩ := h; exact Nat.le_of_ble_eq_true rfl) ?_
  intro as u hpre At hc hw
  obtain ⟨a1, rfl, hp⟩ := hpre
  exact hc 200 [] _ _ _ _ (
    And.intro (fun h5 => 
     And.intro (fun h16 => 
      congrArg (mx_rI u) (show a1.toInt32 = (xv_nearestInt a1 ) from ((if_pos h5).trans (if_pos h16)).symm)) (fun h16 => 
      congrArg (mx_rI u) (show (-2147483648) = (xv_nearestInt a1 ) from ((if_pos h5).trans (if_neg h16)).symm))) (fun h5 => 
     congrArg (mx_rI u) (show 2147483647 = (xv_nearestInt a1 ) from (if_neg h5).symm)))
/-! WideMachine$Values.bitsLikeHighest(I)I -/
def xv_bitsLikeHighest_l10 (a1 : Int32) : Nat → Int32 → Int32 → Int32 → (Int32)
  | 0, _, _, _ => 0
  | n + 1, v1, v2, v3 =>
    if v3 < 0 then
     v2
    else
     if ((a1.toUInt32 >>> (v3.toUInt32 &&& Int32.toUInt32 31)).toInt32 &&& (1 : Int32)) = v1 then
      xv_bitsLikeHighest_l10 a1 n v1 (v2 + 1) (v3 + (-1))
     else
      v2
def q_xv_bitsLikeHighest_l10 (np nd : Nat) (a1 : Int32) (u : mx_S) : Nat → Int32 → Int32 → Int32 → Prop
  | 0, _, _, _ => False
  | n + 1, v1, v2, v3 =>
    ((v3 < 0) → 
     True) ∧ ((¬ (v3 < 0)) → 
     ((¬ (((a1.toUInt32 >>> (v3.toUInt32 &&& Int32.toUInt32 31)).toInt32 &&& (1 : Int32)) = v1)) → 
      True) ∧ ((((a1.toUInt32 >>> (v3.toUInt32 &&& Int32.toUInt32 31)).toInt32 &&& (1 : Int32)) = v1) → 
      q_xv_bitsLikeHighest_l10 np nd a1 u n v1 (v2 + 1) (v3 + (-1))))
def xv_bitsLikeHighest (a1 : Int32) : Int32 :=
  xv_bitsLikeHighest_l10 a1 33 (a1.toUInt32 >>> ((31 : Int32).toUInt32 &&& Int32.toUInt32 31)).toInt32 0 30
def q_xv_bitsLikeHighest (np nd : Nat) (a1 : Int32) (u : mx_S) : Prop :=
  q_xv_bitsLikeHighest_l10 np nd a1 u 33 (a1.toUInt32 >>> ((31 : Int32).toUInt32 &&& Int32.toUInt32 31)).toInt32 0 30
def pre_xv_bitsLikeHighest (np nd : Nat) : List mx_V → mx_S → Prop := fun as u => ∃ (a1 : Int32), as = [.inl a1] ∧ q_xv_bitsLikeHighest np nd a1 u
def fn_xv_bitsLikeHighest (np nd : Nat) : mx_F := fun as u => match as with
  | [.inl a1] => mx_rI u (xv_bitsLikeHighest a1 )
  | _ => (none, u)
def tb_xv_bitsLikeHighest (np nd : Nat) : List (Nat × mx_T) := [
  (0, mx_iload_n 0 0),
  (1, mx_bipush 31 1),
  (3, mx_iushr 3),
  (4, mx_istore_n 1 4),
  (5, mx_iconst 0 5),
  (6, mx_istore_n 2 6),
  (7, mx_bipush 30 7),
  (9, mx_istore_n 3 9),
  (10, mx_iload_n 3 10),
  (11, mx_if_lt 32 11),
  (14, mx_iload_n 0 14),
  (15, mx_iload_n 3 15),
  (16, mx_iushr 16),
  (17, mx_iconst 1 17),
  (18, mx_iand 18),
  (19, mx_iload_n 1 19),
  (20, mx_icmp_ne 32 20),
  (23, mx_iinc 2 1 23),
  (26, mx_iinc 3 (-1) 26),
  (29, mx_goto 10 29),
  (32, mx_iload_n 2 32),
  (33, mx_iret 33)]
set_option maxRecDepth 100000 in
set_option maxHeartbeats 4000000 in
theorem ok_xv_bitsLikeHighest (l : Launch) (np nd : Nat) : ∀ q ∈ tb_xv_bitsLikeHighest np nd , mx_Ok l ({ frames := 0, cells := 0, slots := 0, locals := 0 } : Room) b_xv_bitsLikeHighest 4 "WideMachine$Values" (some .int) vw_T vw_cl (kx np nd) q.1 q.2 := by
  refine List.forall_mem_cons.mpr ⟨mx_ok_iload_n (show decode b_xv_bitsLikeHighest 0 = .ok (.iload_n 0, 1) by decide +kernel) rfl, ?_⟩
  refine List.forall_mem_cons.mpr ⟨mx_ok_bipush (show decode b_xv_bitsLikeHighest 1 = .ok (.bipush 31, 2) by decide +kernel) (by decide), ?_⟩
  refine List.forall_mem_cons.mpr ⟨mx_ok_iushr (show decode b_xv_bitsLikeHighest 3 = .ok (.iushr, 1) by decide +kernel), ?_⟩
  refine List.forall_mem_cons.mpr ⟨mx_ok_istore_n (show decode b_xv_bitsLikeHighest 4 = .ok (.istore_n 1, 1) by decide +kernel) rfl (by decide), ?_⟩
  refine List.forall_mem_cons.mpr ⟨mx_ok_iconst (show decode b_xv_bitsLikeHighest 5 = .ok (.iconst 0, 1) by decide +kernel) (by decide), ?_⟩
  refine List.forall_mem_cons.mpr ⟨mx_ok_istore_n (show decode b_xv_bitsLikeHighest 6 = .ok (.istore_n 2, 1) by decide +kernel) rfl (by decide), ?_⟩
  refine List.forall_mem_cons.mpr ⟨mx_ok_bipush (show decode b_xv_bitsLikeHighest 7 = .ok (.bipush 30, 2) by decide +kernel) (by decide), ?_⟩
  refine List.forall_mem_cons.mpr ⟨mx_ok_istore_n (show decode b_xv_bitsLikeHighest 9 = .ok (.istore_n 3, 1) by decide +kernel) rfl (by decide), ?_⟩
  refine List.forall_mem_cons.mpr ⟨mx_ok_iload_n (show decode b_xv_bitsLikeHighest 10 = .ok (.iload_n 3, 1) by decide +kernel) rfl, ?_⟩
  refine List.forall_mem_cons.mpr ⟨mx_ok_if_lt (show decode b_xv_bitsLikeHighest 11 = .ok (.ifCond .lt 21, 3) by decide +kernel) (by decide), ?_⟩
  refine List.forall_mem_cons.mpr ⟨mx_ok_iload_n (show decode b_xv_bitsLikeHighest 14 = .ok (.iload_n 0, 1) by decide +kernel) rfl, ?_⟩
  refine List.forall_mem_cons.mpr ⟨mx_ok_iload_n (show decode b_xv_bitsLikeHighest 15 = .ok (.iload_n 3, 1) by decide +kernel) rfl, ?_⟩
  refine List.forall_mem_cons.mpr ⟨mx_ok_iushr (show decode b_xv_bitsLikeHighest 16 = .ok (.iushr, 1) by decide +kernel), ?_⟩
  refine List.forall_mem_cons.mpr ⟨mx_ok_iconst (show decode b_xv_bitsLikeHighest 17 = .ok (.iconst 1, 1) by decide +kernel) (by decide), ?_⟩
  refine List.forall_mem_cons.mpr ⟨mx_ok_iand (show decode b_xv_bitsLikeHighest 18 = .ok (.iand, 1) by decide +kernel), ?_⟩
  refine List.forall_mem_cons.mpr ⟨mx_ok_iload_n (show decode b_xv_bitsLikeHighest 19 = .ok (.iload_n 1, 1) by decide +kernel) rfl, ?_⟩
  refine List.forall_mem_cons.mpr ⟨mx_ok_icmp_ne (show decode b_xv_bitsLikeHighest 20 = .ok (.if_icmp .ne 12, 3) by decide +kernel) (by decide), ?_⟩
  refine List.forall_mem_cons.mpr ⟨mx_ok_iinc (show decode b_xv_bitsLikeHighest 23 = .ok (.iinc 2 1, 3) by decide +kernel) (by decide) (by decide), ?_⟩
  refine List.forall_mem_cons.mpr ⟨mx_ok_iinc (show decode b_xv_bitsLikeHighest 26 = .ok (.iinc 3 (-1), 3) by decide +kernel) (by decide) (by decide), ?_⟩
  refine List.forall_mem_cons.mpr ⟨mx_ok_goto (show decode b_xv_bitsLikeHighest 29 = .ok (.goto (-19), 3) by decide +kernel) (by decide), ?_⟩
  refine List.forall_mem_cons.mpr ⟨mx_ok_iload_n (show decode b_xv_bitsLikeHighest 32 = .ok (.iload_n 2, 1) by decide +kernel) rfl, ?_⟩
  refine List.forall_mem_cons.mpr ⟨mx_ok_iret (show decode b_xv_bitsLikeHighest 33 = .ok (.ireturn, 1) by decide +kernel) rfl, ?_⟩
  exact fun _ h => absurd h List.not_mem_nil
set_option maxRecDepth 100000 in
set_option maxHeartbeats 4000000 in
theorem ct_xv_bitsLikeHighest (l : Launch) (np nd : Nat) : mx_Ct l vw_T vw_cl (kx np nd) { frames := 0, cells := 0, slots := 0, locals := 0 } y_xv_bitsLikeHighest b_xv_bitsLikeHighest 4 (some .int) (pre_xv_bitsLikeHighest np nd) (fn_xv_bitsLikeHighest np nd) := by
  refine mx_ct_of (tb_xv_bitsLikeHighest np nd ) (by decide) (ok_xv_bitsLikeHighest l np nd ) (fun as u h => by obtain ⟨_, rfl, -⟩ := h; exact Nat.le_of_ble_eq_true rfl) ?_
  intro as u hpre At hc hw
  obtain ⟨a1, rfl, hp⟩ := hpre
  obtain ⟨RES, hRES⟩ : ∃ z, z = (xv_bitsLikeHighest a1 ) := ⟨_, rfl⟩
  have hfn : fn_xv_bitsLikeHighest np nd [.inl a1] u = mx_rI u RES := by rw [hRES]; rfl
  rw [hfn] at hc
  have lp10 : ∀ (n10 : Nat) (v1 : Int32) (v2 : Int32) (v3 : Int32), q_xv_bitsLikeHighest_l10 np nd a1 u n10 v1 v2 v3 → xv_bitsLikeHighest_l10 a1 n10 v1 v2 v3 = RES → At 10 [(1, .inl v1), (2, .inl v2), (3, .inl v3), (0, .inl a1)] [] u := by
    intro n10
    induction n10 with
    | zero =>
      intro v1 v2 v3 hi he
      exact hi.elim
    | succ n10 ih10 =>
      intro v1 v2 v3 hi10 he10
      exact hc 200 [10] _ _ _ _ (
        And.intro (fun h11 => 
         congrArg (mx_rI u) (show v2 = RES from (if_pos h11).symm.trans he10)) (fun h11 => 
         And.intro (fun h20 => 
          congrArg (mx_rI u) (show v2 = RES from ((if_neg h11).trans (if_neg h20)).symm.trans he10)) (fun h20 => 
          hw [2, 1, 0, 3] _ _ _ _ (ih10 v1 (v2 + 1) (v3 + (-1)) ((hi10.2 h11).2 h20) (((if_neg h11).trans (if_pos h20)).symm.trans he10)))))
  exact hc 200 [10] _ _ _ _ (
    hw [2, 1, 0, 3] _ _ _ _ (lp10 33 (a1.toUInt32 >>> ((31 : Int32).toUInt32 &&& Int32.toUInt32 31)).toInt32 0 30 hp ((rfl).symm.trans hRES.symm)))
/-! WideMachine$Values.ofL(III)I -/
def xv_ofL (a1 : Int32) (a2 : Int32) (a3 : Int32) : Int32 :=
  if a1 = 0 then
   (a2 + a3)
  else
  if a1 = 1 then
   (a2 - a3)
  else
  if a1 = 2 then
   (a2 &&& a3)
  else
  if a1 = 3 then
   (a2 ||| a3)
  else
  if a1 = 4 then
   (a2 ^^^ a3)
  else
  if a1 = 5 then
   if a2 = a3 then
    1
   else
    0
  else
  if a1 = 6 then
   if a2 ≤ a3 then
    0
   else
    1
  else
  if a1 = 7 then
   if a3 ≤ a2 then
    0
   else
    1
  else
  if a1 = 8 then
   (xv_nearestInt (a2.toInt64 + a3.toInt64) )
  else
  if a1 = 9 then
   (xv_bitsLikeHighest a3 )
  else
  0
def q_xv_ofL (np nd : Nat) (a1 : Int32) (a2 : Int32) (a3 : Int32) (u : mx_S) : Prop :=
  ((a1 = 0) → 
   True) ∧ (¬ (a1 = 0) → 
  ((a1 = 1) → 
   True) ∧ (¬ (a1 = 1) → 
  ((a1 = 2) → 
   True) ∧ (¬ (a1 = 2) → 
  ((a1 = 3) → 
   True) ∧ (¬ (a1 = 3) → 
  ((a1 = 4) → 
   True) ∧ (¬ (a1 = 4) → 
  ((a1 = 5) → 
   True) ∧ (¬ (a1 = 5) → 
  ((a1 = 6) → 
   True) ∧ (¬ (a1 = 6) → 
  ((a1 = 7) → 
   True) ∧ (¬ (a1 = 7) → 
  ((a1 = 8) → 
   True) ∧ (¬ (a1 = 8) → 
  ((a1 = 9) → 
   ((q_xv_bitsLikeHighest np nd a3 u))) ∧ (¬ (a1 = 9) → 
   True))))))))))
def pre_xv_ofL (np nd : Nat) : List mx_V → mx_S → Prop := fun as u => ∃ (a1 : Int32) (a2 : Int32) (a3 : Int32), as = [.inl a1, .inl a2, .inl a3] ∧ q_xv_ofL np nd a1 a2 a3 u
def fn_xv_ofL (np nd : Nat) : mx_F := fun as u => match as with
  | [.inl a1, .inl a2, .inl a3] => mx_rI u (xv_ofL a1 a2 a3 )
  | _ => (none, u)
def tb_xv_ofL (np nd : Nat) : List (Nat × mx_T) := [
  (0, mx_iload_n 0 0),
  (1, mx_tsw 123 [(0, 56), (1, 60), (2, 64), (3, 68), (4, 72), (5, 76), (6, 87), (7, 98), (8, 109), (9, 118)] 1),
  (56, mx_iload_n 1 56),
  (57, mx_iload_n 2 57),
  (58, mx_iadd 58),
  (59, mx_iret 59),
  (60, mx_iload_n 1 60),
  (61, mx_iload_n 2 61),
  (62, mx_isub 62),
  (63, mx_iret 63),
  (64, mx_iload_n 1 64),
  (65, mx_iload_n 2 65),
  (66, mx_iand 66),
  (67, mx_iret 67),
  (68, mx_iload_n 1 68),
  (69, mx_iload_n 2 69),
  (70, mx_ior 70),
  (71, mx_iret 71),
  (72, mx_iload_n 1 72),
  (73, mx_iload_n 2 73),
  (74, mx_ixor 74),
  (75, mx_iret 75),
  (76, mx_iload_n 1 76),
  (77, mx_iload_n 2 77),
  (78, mx_icmp_ne 85 78),
  (81, mx_iconst 1 81),
  (82, mx_goto 86 82),
  (85, mx_iconst 0 85),
  (86, mx_iret 86),
  (87, mx_iload_n 1 87),
  (88, mx_iload_n 2 88),
  (89, mx_icmp_le 96 89),
  (92, mx_iconst 1 92),
  (93, mx_goto 97 93),
  (96, mx_iconst 0 96),
  (97, mx_iret 97),
  (98, mx_iload_n 1 98),
  (99, mx_iload_n 2 99),
  (100, mx_icmp_ge 107 100),
  (103, mx_iconst 1 103),
  (104, mx_goto 108 104),
  (107, mx_iconst 0 107),
  (108, mx_iret 108),
  (109, mx_iload_n 1 109),
  (110, mx_i2l 110),
  (111, mx_iload_n 2 111),
  (112, mx_i2l 112),
  (113, mx_ladd 113),
  (114, mx_invS 1 (pre_xv_nearestInt np nd) (fn_xv_nearestInt np nd) 114),
  (117, mx_iret 117),
  (118, mx_iload_n 2 118),
  (119, mx_invS 1 (pre_xv_bitsLikeHighest np nd) (fn_xv_bitsLikeHighest np nd) 119),
  (122, mx_iret 122),
  (123, mx_iconst 0 123),
  (124, mx_iret 124)]
set_option maxRecDepth 100000 in
set_option maxHeartbeats 4000000 in
theorem ok_xv_ofL (l : Launch) (np nd : Nat) : ∀ q ∈ tb_xv_ofL np nd , mx_Ok l ({ frames := 1, cells := 0, slots := 0, locals := 23 } : Room) b_xv_ofL 3 "WideMachine$Values" (some .int) vw_T vw_cl (kx np nd) q.1 q.2 := by
  refine List.forall_mem_cons.mpr ⟨mx_ok_iload_n (show decode b_xv_ofL 0 = .ok (.iload_n 0, 1) by decide +kernel) rfl, ?_⟩
  refine List.forall_mem_cons.mpr ⟨mx_ok_tsw (show decode b_xv_ofL 1 = .ok (.tableswitch 122 0 9 #[55, 59, 63, 67, 71, 75, 86, 97, 108, 117], 55) by decide +kernel) (by decide) (by decide), ?_⟩
  refine List.forall_mem_cons.mpr ⟨mx_ok_iload_n (show decode b_xv_ofL 56 = .ok (.iload_n 1, 1) by decide +kernel) rfl, ?_⟩
  refine List.forall_mem_cons.mpr ⟨mx_ok_iload_n (show decode b_xv_ofL 57 = .ok (.iload_n 2, 1) by decide +kernel) rfl, ?_⟩
  refine List.forall_mem_cons.mpr ⟨mx_ok_iadd (show decode b_xv_ofL 58 = .ok (.iadd, 1) by decide +kernel), ?_⟩
  refine List.forall_mem_cons.mpr ⟨mx_ok_iret (show decode b_xv_ofL 59 = .ok (.ireturn, 1) by decide +kernel) rfl, ?_⟩
  refine List.forall_mem_cons.mpr ⟨mx_ok_iload_n (show decode b_xv_ofL 60 = .ok (.iload_n 1, 1) by decide +kernel) rfl, ?_⟩
  refine List.forall_mem_cons.mpr ⟨mx_ok_iload_n (show decode b_xv_ofL 61 = .ok (.iload_n 2, 1) by decide +kernel) rfl, ?_⟩
  refine List.forall_mem_cons.mpr ⟨mx_ok_isub (show decode b_xv_ofL 62 = .ok (.isub, 1) by decide +kernel), ?_⟩
  refine List.forall_mem_cons.mpr ⟨mx_ok_iret (show decode b_xv_ofL 63 = .ok (.ireturn, 1) by decide +kernel) rfl, ?_⟩
  refine List.forall_mem_cons.mpr ⟨mx_ok_iload_n (show decode b_xv_ofL 64 = .ok (.iload_n 1, 1) by decide +kernel) rfl, ?_⟩
  refine List.forall_mem_cons.mpr ⟨mx_ok_iload_n (show decode b_xv_ofL 65 = .ok (.iload_n 2, 1) by decide +kernel) rfl, ?_⟩
  refine List.forall_mem_cons.mpr ⟨mx_ok_iand (show decode b_xv_ofL 66 = .ok (.iand, 1) by decide +kernel), ?_⟩
  refine List.forall_mem_cons.mpr ⟨mx_ok_iret (show decode b_xv_ofL 67 = .ok (.ireturn, 1) by decide +kernel) rfl, ?_⟩
  refine List.forall_mem_cons.mpr ⟨mx_ok_iload_n (show decode b_xv_ofL 68 = .ok (.iload_n 1, 1) by decide +kernel) rfl, ?_⟩
  refine List.forall_mem_cons.mpr ⟨mx_ok_iload_n (show decode b_xv_ofL 69 = .ok (.iload_n 2, 1) by decide +kernel) rfl, ?_⟩
  refine List.forall_mem_cons.mpr ⟨mx_ok_ior (show decode b_xv_ofL 70 = .ok (.ior, 1) by decide +kernel), ?_⟩
  refine List.forall_mem_cons.mpr ⟨mx_ok_iret (show decode b_xv_ofL 71 = .ok (.ireturn, 1) by decide +kernel) rfl, ?_⟩
  refine List.forall_mem_cons.mpr ⟨mx_ok_iload_n (show decode b_xv_ofL 72 = .ok (.iload_n 1, 1) by decide +kernel) rfl, ?_⟩
  refine List.forall_mem_cons.mpr ⟨mx_ok_iload_n (show decode b_xv_ofL 73 = .ok (.iload_n 2, 1) by decide +kernel) rfl, ?_⟩
  refine List.forall_mem_cons.mpr ⟨mx_ok_ixor (show decode b_xv_ofL 74 = .ok (.ixor, 1) by decide +kernel), ?_⟩
  refine List.forall_mem_cons.mpr ⟨mx_ok_iret (show decode b_xv_ofL 75 = .ok (.ireturn, 1) by decide +kernel) rfl, ?_⟩
  refine List.forall_mem_cons.mpr ⟨mx_ok_iload_n (show decode b_xv_ofL 76 = .ok (.iload_n 1, 1) by decide +kernel) rfl, ?_⟩
  refine List.forall_mem_cons.mpr ⟨mx_ok_iload_n (show decode b_xv_ofL 77 = .ok (.iload_n 2, 1) by decide +kernel) rfl, ?_⟩
  refine List.forall_mem_cons.mpr ⟨mx_ok_icmp_ne (show decode b_xv_ofL 78 = .ok (.if_icmp .ne 7, 3) by decide +kernel) (by decide), ?_⟩
  refine List.forall_mem_cons.mpr ⟨mx_ok_iconst (show decode b_xv_ofL 81 = .ok (.iconst 1, 1) by decide +kernel) (by decide), ?_⟩
  refine List.forall_mem_cons.mpr ⟨mx_ok_goto (show decode b_xv_ofL 82 = .ok (.goto 4, 3) by decide +kernel) (by decide), ?_⟩
  refine List.forall_mem_cons.mpr ⟨mx_ok_iconst (show decode b_xv_ofL 85 = .ok (.iconst 0, 1) by decide +kernel) (by decide), ?_⟩
  refine List.forall_mem_cons.mpr ⟨mx_ok_iret (show decode b_xv_ofL 86 = .ok (.ireturn, 1) by decide +kernel) rfl, ?_⟩
  refine List.forall_mem_cons.mpr ⟨mx_ok_iload_n (show decode b_xv_ofL 87 = .ok (.iload_n 1, 1) by decide +kernel) rfl, ?_⟩
  refine List.forall_mem_cons.mpr ⟨mx_ok_iload_n (show decode b_xv_ofL 88 = .ok (.iload_n 2, 1) by decide +kernel) rfl, ?_⟩
  refine List.forall_mem_cons.mpr ⟨mx_ok_icmp_le (show decode b_xv_ofL 89 = .ok (.if_icmp .le 7, 3) by decide +kernel) (by decide), ?_⟩
  refine List.forall_mem_cons.mpr ⟨mx_ok_iconst (show decode b_xv_ofL 92 = .ok (.iconst 1, 1) by decide +kernel) (by decide), ?_⟩
  refine List.forall_mem_cons.mpr ⟨mx_ok_goto (show decode b_xv_ofL 93 = .ok (.goto 4, 3) by decide +kernel) (by decide), ?_⟩
  refine List.forall_mem_cons.mpr ⟨mx_ok_iconst (show decode b_xv_ofL 96 = .ok (.iconst 0, 1) by decide +kernel) (by decide), ?_⟩
  refine List.forall_mem_cons.mpr ⟨mx_ok_iret (show decode b_xv_ofL 97 = .ok (.ireturn, 1) by decide +kernel) rfl, ?_⟩
  refine List.forall_mem_cons.mpr ⟨mx_ok_iload_n (show decode b_xv_ofL 98 = .ok (.iload_n 1, 1) by decide +kernel) rfl, ?_⟩
  refine List.forall_mem_cons.mpr ⟨mx_ok_iload_n (show decode b_xv_ofL 99 = .ok (.iload_n 2, 1) by decide +kernel) rfl, ?_⟩
  refine List.forall_mem_cons.mpr ⟨mx_ok_icmp_ge (show decode b_xv_ofL 100 = .ok (.if_icmp .ge 7, 3) by decide +kernel) (by decide), ?_⟩
  refine List.forall_mem_cons.mpr ⟨mx_ok_iconst (show decode b_xv_ofL 103 = .ok (.iconst 1, 1) by decide +kernel) (by decide), ?_⟩
  refine List.forall_mem_cons.mpr ⟨mx_ok_goto (show decode b_xv_ofL 104 = .ok (.goto 4, 3) by decide +kernel) (by decide), ?_⟩
  refine List.forall_mem_cons.mpr ⟨mx_ok_iconst (show decode b_xv_ofL 107 = .ok (.iconst 0, 1) by decide +kernel) (by decide), ?_⟩
  refine List.forall_mem_cons.mpr ⟨mx_ok_iret (show decode b_xv_ofL 108 = .ok (.ireturn, 1) by decide +kernel) rfl, ?_⟩
  refine List.forall_mem_cons.mpr ⟨mx_ok_iload_n (show decode b_xv_ofL 109 = .ok (.iload_n 1, 1) by decide +kernel) rfl, ?_⟩
  refine List.forall_mem_cons.mpr ⟨mx_ok_i2l (show decode b_xv_ofL 110 = .ok (.i2l, 1) by decide +kernel), ?_⟩
  refine List.forall_mem_cons.mpr ⟨mx_ok_iload_n (show decode b_xv_ofL 111 = .ok (.iload_n 2, 1) by decide +kernel) rfl, ?_⟩
  refine List.forall_mem_cons.mpr ⟨mx_ok_i2l (show decode b_xv_ofL 112 = .ok (.i2l, 1) by decide +kernel), ?_⟩
  refine List.forall_mem_cons.mpr ⟨mx_ok_ladd (show decode b_xv_ofL 113 = .ok (.ladd, 1) by decide +kernel), ?_⟩
  refine List.forall_mem_cons.mpr ⟨mx_ok_invS vw_G (ct_xv_nearestInt l np nd) ⟨vm_188, vm_189, vm_190, ⟨by decide +kernel, by decide +kernel, by decide +kernel⟩, ⟨by decide, by decide⟩, rfl, rfl⟩ vm_191 (show decode b_xv_ofL 114 = .ok (.invokestatic 7, 3) by decide +kernel), ?_⟩
  refine List.forall_mem_cons.mpr ⟨mx_ok_iret (show decode b_xv_ofL 117 = .ok (.ireturn, 1) by decide +kernel) rfl, ?_⟩
  refine List.forall_mem_cons.mpr ⟨mx_ok_iload_n (show decode b_xv_ofL 118 = .ok (.iload_n 2, 1) by decide +kernel) rfl, ?_⟩
  refine List.forall_mem_cons.mpr ⟨mx_ok_invS vw_G (ct_xv_bitsLikeHighest l np nd) ⟨vm_192, vm_193, vm_190, ⟨by decide +kernel, by decide +kernel, by decide +kernel⟩, ⟨by decide, by decide⟩, rfl, rfl⟩ vm_194 (show decode b_xv_ofL 119 = .ok (.invokestatic 13, 3) by decide +kernel), ?_⟩
  refine List.forall_mem_cons.mpr ⟨mx_ok_iret (show decode b_xv_ofL 122 = .ok (.ireturn, 1) by decide +kernel) rfl, ?_⟩
  refine List.forall_mem_cons.mpr ⟨mx_ok_iconst (show decode b_xv_ofL 123 = .ok (.iconst 0, 1) by decide +kernel) (by decide), ?_⟩
  refine List.forall_mem_cons.mpr ⟨mx_ok_iret (show decode b_xv_ofL 124 = .ok (.ireturn, 1) by decide +kernel) rfl, ?_⟩
  exact fun _ h => absurd h List.not_mem_nil
set_option maxRecDepth 100000 in
set_option maxHeartbeats 4000000 in
theorem ct_xv_ofL (l : Launch) (np nd : Nat) : mx_Ct l vw_T vw_cl (kx np nd) { frames := 1, cells := 0, slots := 0, locals := 23 } y_xv_ofL b_xv_ofL 3 (some .int) (pre_xv_ofL np nd) (fn_xv_ofL np nd) := by
  refine mx_ct_of (tb_xv_ofL np nd ) (by decide) (ok_xv_ofL l np nd ) (fun as u h => by obtain ⟨_, _, _, rfl, -⟩ := h; exact Nat.le_of_ble_eq_true rfl) ?_
  intro as u hpre At hc hw
  obtain ⟨a1, a2, a3, rfl, hp⟩ := hpre
  exact hc 200 [] _ _ _ _ (
    And.intro (fun h1_0 => 
     congrArg (mx_rI u) (show (a2 + a3) = (xv_ofL a1 a2 a3 ) from (if_pos h1_0).symm)) (fun h1_0 => 
    And.intro (fun h1_1 => 
     congrArg (mx_rI u) (show (a2 - a3) = (xv_ofL a1 a2 a3 ) from ((if_neg h1_0).trans (if_pos h1_1)).symm)) (fun h1_1 => 
    And.intro (fun h1_2 => 
     congrArg (mx_rI u) (show (a2 &&& a3) = (xv_ofL a1 a2 a3 ) from ((if_neg h1_0).trans ((if_neg h1_1).trans (if_pos h1_2))).symm)) (fun h1_2 => 
    And.intro (fun h1_3 => 
     congrArg (mx_rI u) (show (a2 ||| a3) = (xv_ofL a1 a2 a3 ) from ((if_neg h1_0).trans ((if_neg h1_1).trans ((if_neg h1_2).trans (if_pos h1_3)))).symm)) (fun h1_3 => 
    And.intro (fun h1_4 => 
     congrArg (mx_rI u) (show (a2 ^^^ a3) = (xv_ofL a1 a2 a3 ) from ((if_neg h1_0).trans ((if_neg h1_1).trans ((if_neg h1_2).trans ((if_neg h1_3).trans (if_pos h1_4))))).symm)) (fun h1_4 => 
    And.intro (fun h1_5 => 
     And.intro (fun h78 => 
      congrArg (mx_rI u) (show 0 = (xv_ofL a1 a2 a3 ) from ((if_neg h1_0).trans ((if_neg h1_1).trans ((if_neg h1_2).trans ((if_neg h1_3).trans ((if_neg h1_4).trans ((if_pos h1_5).trans (if_neg h78))))))).symm)) (fun h78 => 
      congrArg (mx_rI u) (show 1 = (xv_ofL a1 a2 a3 ) from ((if_neg h1_0).trans ((if_neg h1_1).trans ((if_neg h1_2).trans ((if_neg h1_3).trans ((if_neg h1_4).trans ((if_pos h1_5).trans (if_pos h78))))))).symm))) (fun h1_5 => 
    And.intro (fun h1_6 => 
     And.intro (fun h89 => 
      congrArg (mx_rI u) (show 0 = (xv_ofL a1 a2 a3 ) from ((if_neg h1_0).trans ((if_neg h1_1).trans ((if_neg h1_2).trans ((if_neg h1_3).trans ((if_neg h1_4).trans ((if_neg h1_5).trans ((if_pos h1_6).trans (if_pos h89)))))))).symm)) (fun h89 => 
      congrArg (mx_rI u) (show 1 = (xv_ofL a1 a2 a3 ) from ((if_neg h1_0).trans ((if_neg h1_1).trans ((if_neg h1_2).trans ((if_neg h1_3).trans ((if_neg h1_4).trans ((if_neg h1_5).trans ((if_pos h1_6).trans (if_neg h89)))))))).symm))) (fun h1_6 => 
    And.intro (fun h1_7 => 
     And.intro (fun h100 => 
      congrArg (mx_rI u) (show 0 = (xv_ofL a1 a2 a3 ) from ((if_neg h1_0).trans ((if_neg h1_1).trans ((if_neg h1_2).trans ((if_neg h1_3).trans ((if_neg h1_4).trans ((if_neg h1_5).trans ((if_neg h1_6).trans ((if_pos h1_7).trans (if_pos h100))))))))).symm)) (fun h100 => 
      congrArg (mx_rI u) (show 1 = (xv_ofL a1 a2 a3 ) from ((if_neg h1_0).trans ((if_neg h1_1).trans ((if_neg h1_2).trans ((if_neg h1_3).trans ((if_neg h1_4).trans ((if_neg h1_5).trans ((if_neg h1_6).trans ((if_pos h1_7).trans (if_neg h100))))))))).symm))) (fun h1_7 => 
    And.intro (fun h1_8 => 
     And.intro rfl (
     And.intro ⟨_, rfl, trivial⟩ (
     congrArg (mx_rI u) (show (xv_nearestInt (a2.toInt64 + a3.toInt64) ) = (xv_ofL a1 a2 a3 ) from ((if_neg h1_0).trans ((if_neg h1_1).trans ((if_neg h1_2).trans ((if_neg h1_3).trans ((if_neg h1_4).trans ((if_neg h1_5).trans ((if_neg h1_6).trans ((if_neg h1_7).trans (if_pos h1_8))))))))).symm)))) (fun h1_8 => 
    And.intro (fun h1_9 => 
     And.intro rfl (
     And.intro ⟨_, rfl, ((((((((((hp.2 h1_0).2 h1_1).2 h1_2).2 h1_3).2 h1_4).2 h1_5).2 h1_6).2 h1_7).2 h1_8).1 h1_9)⟩ (
     congrArg (mx_rI u) (show (xv_bitsLikeHighest a3 ) = (xv_ofL a1 a2 a3 ) from ((if_neg h1_0).trans ((if_neg h1_1).trans ((if_neg h1_2).trans ((if_neg h1_3).trans ((if_neg h1_4).trans ((if_neg h1_5).trans ((if_neg h1_6).trans ((if_neg h1_7).trans ((if_neg h1_8).trans (if_pos h1_9)))))))))).symm)))) (fun h1_9 => 
     congrArg (mx_rI u) (show 0 = (xv_ofL a1 a2 a3 ) from ((if_neg h1_0).trans ((if_neg h1_1).trans ((if_neg h1_2).trans ((if_neg h1_3).trans ((if_neg h1_4).trans ((if_neg h1_5).trans ((if_neg h1_6).trans ((if_neg h1_7).trans ((if_neg h1_8).trans (if_neg h1_9)))))))))).symm))))))))))))
/-! WideMachine$Values.ofS(III)I -/
def xv_ofS (a1 : Int32) (a2 : Int32) (a3 : Int32) : Int32 :=
  if a1 = 16 then
   (a2 + a3)
  else
  if a1 = 17 then
   (a2 - a3)
  else
  if a1 = 18 then
   (a2 <<< ((a3 &&& (31 : Int32)) &&& 31))
  else
  if a1 = 19 then
   (a2 >>> ((a3 &&& (31 : Int32)) &&& 31))
  else
  if a1 = 20 then
   (a2.toUInt32 >>> ((a3 &&& (31 : Int32)).toUInt32 &&& Int32.toUInt32 31)).toInt32
  else
  0
def pre_xv_ofS (np nd : Nat) : List mx_V → mx_S → Prop := fun as u => ∃ (a1 : Int32) (a2 : Int32) (a3 : Int32), as = [.inl a1, .inl a2, .inl a3] ∧ True
def fn_xv_ofS (np nd : Nat) : mx_F := fun as u => match as with
  | [.inl a1, .inl a2, .inl a3] => mx_rI u (xv_ofS a1 a2 a3 )
  | _ => (none, u)
def tb_xv_ofS (np nd : Nat) : List (Nat × mx_T) := [
  (0, mx_iload_n 0 0),
  (1, mx_tsw 65 [(16, 36), (17, 40), (18, 44), (19, 51), (20, 58)] 1),
  (36, mx_iload_n 1 36),
  (37, mx_iload_n 2 37),
  (38, mx_iadd 38),
  (39, mx_iret 39),
  (40, mx_iload_n 1 40),
  (41, mx_iload_n 2 41),
  (42, mx_isub 42),
  (43, mx_iret 43),
  (44, mx_iload_n 1 44),
  (45, mx_iload_n 2 45),
  (46, mx_bipush 31 46),
  (48, mx_iand 48),
  (49, mx_ishl 49),
  (50, mx_iret 50),
  (51, mx_iload_n 1 51),
  (52, mx_iload_n 2 52),
  (53, mx_bipush 31 53),
  (55, mx_iand 55),
  (56, mx_ishr 56),
  (57, mx_iret 57),
  (58, mx_iload_n 1 58),
  (59, mx_iload_n 2 59),
  (60, mx_bipush 31 60),
  (62, mx_iand 62),
  (63, mx_iushr 63),
  (64, mx_iret 64),
  (65, mx_iconst 0 65),
  (66, mx_iret 66)]
set_option maxRecDepth 100000 in
set_option maxHeartbeats 4000000 in
theorem ok_xv_ofS (l : Launch) (np nd : Nat) : ∀ q ∈ tb_xv_ofS np nd , mx_Ok l ({ frames := 0, cells := 0, slots := 0, locals := 0 } : Room) b_xv_ofS 3 "WideMachine$Values" (some .int) vw_T vw_cl (kx np nd) q.1 q.2 := by
  refine List.forall_mem_cons.mpr ⟨mx_ok_iload_n (show decode b_xv_ofS 0 = .ok (.iload_n 0, 1) by decide +kernel) rfl, ?_⟩
  refine List.forall_mem_cons.mpr ⟨mx_ok_tsw (show decode b_xv_ofS 1 = .ok (.tableswitch 64 16 20 #[35, 39, 43, 50, 57], 35) by decide +kernel) (by decide) (by decide), ?_⟩
  refine List.forall_mem_cons.mpr ⟨mx_ok_iload_n (show decode b_xv_ofS 36 = .ok (.iload_n 1, 1) by decide +kernel) rfl, ?_⟩
  refine List.forall_mem_cons.mpr ⟨mx_ok_iload_n (show decode b_xv_ofS 37 = .ok (.iload_n 2, 1) by decide +kernel) rfl, ?_⟩
  refine List.forall_mem_cons.mpr ⟨mx_ok_iadd (show decode b_xv_ofS 38 = .ok (.iadd, 1) by decide +kernel), ?_⟩
  refine List.forall_mem_cons.mpr ⟨mx_ok_iret (show decode b_xv_ofS 39 = .ok (.ireturn, 1) by decide +kernel) rfl, ?_⟩
  refine List.forall_mem_cons.mpr ⟨mx_ok_iload_n (show decode b_xv_ofS 40 = .ok (.iload_n 1, 1) by decide +kernel) rfl, ?_⟩
  refine List.forall_mem_cons.mpr ⟨mx_ok_iload_n (show decode b_xv_ofS 41 = .ok (.iload_n 2, 1) by decide +kernel) rfl, ?_⟩
  refine List.forall_mem_cons.mpr ⟨mx_ok_isub (show decode b_xv_ofS 42 = .ok (.isub, 1) by decide +kernel), ?_⟩
  refine List.forall_mem_cons.mpr ⟨mx_ok_iret (show decode b_xv_ofS 43 = .ok (.ireturn, 1) by decide +kernel) rfl, ?_⟩
  refine List.forall_mem_cons.mpr ⟨mx_ok_iload_n (show decode b_xv_ofS 44 = .ok (.iload_n 1, 1) by decide +kernel) rfl, ?_⟩
  refine List.forall_mem_cons.mpr ⟨mx_ok_iload_n (show decode b_xv_ofS 45 = .ok (.iload_n 2, 1) by decide +kernel) rfl, ?_⟩
  refine List.forall_mem_cons.mpr ⟨mx_ok_bipush (show decode b_xv_ofS 46 = .ok (.bipush 31, 2) by decide +kernel) (by decide), ?_⟩
  refine List.forall_mem_cons.mpr ⟨mx_ok_iand (show decode b_xv_ofS 48 = .ok (.iand, 1) by decide +kernel), ?_⟩
  refine List.forall_mem_cons.mpr ⟨mx_ok_ishl (show decode b_xv_ofS 49 = .ok (.ishl, 1) by decide +kernel), ?_⟩
  refine List.forall_mem_cons.mpr ⟨mx_ok_iret (show decode b_xv_ofS 50 = .ok (.ireturn, 1) by decide +kernel) rfl, ?_⟩
  refine List.forall_mem_cons.mpr ⟨mx_ok_iload_n (show decode b_xv_ofS 51 = .ok (.iload_n 1, 1) by decide +kernel) rfl, ?_⟩
  refine List.forall_mem_cons.mpr ⟨mx_ok_iload_n (show decode b_xv_ofS 52 = .ok (.iload_n 2, 1) by decide +kernel) rfl, ?_⟩
  refine List.forall_mem_cons.mpr ⟨mx_ok_bipush (show decode b_xv_ofS 53 = .ok (.bipush 31, 2) by decide +kernel) (by decide), ?_⟩
  refine List.forall_mem_cons.mpr ⟨mx_ok_iand (show decode b_xv_ofS 55 = .ok (.iand, 1) by decide +kernel), ?_⟩
  refine List.forall_mem_cons.mpr ⟨mx_ok_ishr (show decode b_xv_ofS 56 = .ok (.ishr, 1) by decide +kernel), ?_⟩
  refine List.forall_mem_cons.mpr ⟨mx_ok_iret (show decode b_xv_ofS 57 = .ok (.ireturn, 1) by decide +kernel) rfl, ?_⟩
  refine List.forall_mem_cons.mpr ⟨mx_ok_iload_n (show decode b_xv_ofS 58 = .ok (.iload_n 1, 1) by decide +kernel) rfl, ?_⟩
  refine List.forall_mem_cons.mpr ⟨mx_ok_iload_n (show decode b_xv_ofS 59 = .ok (.iload_n 2, 1) by decide +kernel) rfl, ?_⟩
  refine List.forall_mem_cons.mpr ⟨mx_ok_bipush (show decode b_xv_ofS 60 = .ok (.bipush 31, 2) by decide +kernel) (by decide), ?_⟩
  refine List.forall_mem_cons.mpr ⟨mx_ok_iand (show decode b_xv_ofS 62 = .ok (.iand, 1) by decide +kernel), ?_⟩
  refine List.forall_mem_cons.mpr ⟨mx_ok_iushr (show decode b_xv_ofS 63 = .ok (.iushr, 1) by decide +kernel), ?_⟩
  refine List.forall_mem_cons.mpr ⟨mx_ok_iret (show decode b_xv_ofS 64 = .ok (.ireturn, 1) by decide +kernel) rfl, ?_⟩
  refine List.forall_mem_cons.mpr ⟨mx_ok_iconst (show decode b_xv_ofS 65 = .ok (.iconst 0, 1) by decide +kernel) (by decide), ?_⟩
  refine List.forall_mem_cons.mpr ⟨mx_ok_iret (show decode b_xv_ofS 66 = .ok (.ireturn, 1) by decide +kernel) rfl, ?_⟩
  exact fun _ h => absurd h List.not_mem_nil
set_option maxRecDepth 100000 in
set_option maxHeartbeats 4000000 in
theorem ct_xv_ofS (l : Launch) (np nd : Nat) : mx_Ct l vw_T vw_cl (kx np nd) { frames := 0, cells := 0, slots := 0, locals := 0 } y_xv_ofS b_xv_ofS 3 (some .int) (pre_xv_ofS np nd) (fn_xv_ofS np nd) := by
  refine mx_ct_of (tb_xv_ofS np nd ) (by decide) (ok_xv_ofS l np nd ) (fun as u h => by obtain ⟨_, _, _, rfl, -⟩ := h; exact Nat.le_of_ble_eq_true rfl) ?_
  intro as u hpre At hc hw
  obtain ⟨a1, a2, a3, rfl, hp⟩ := hpre
  exact hc 200 [] _ _ _ _ (
    And.intro (fun h1_0 => 
     congrArg (mx_rI u) (show (a2 + a3) = (xv_ofS a1 a2 a3 ) from (if_pos h1_0).symm)) (fun h1_0 => 
    And.intro (fun h1_1 => 
     congrArg (mx_rI u) (show (a2 - a3) = (xv_ofS a1 a2 a3 ) from ((if_neg h1_0).trans (if_pos h1_1)).symm)) (fun h1_1 => 
    And.intro (fun h1_2 => 
     congrArg (mx_rI u) (show (a2 <<< ((a3 &&& (31 : Int32)) &&& 31)) = (xv_ofS a1 a2 a3 ) from ((if_neg h1_0).trans ((if_neg h1_1).trans (if_pos h1_2))).symm)) (fun h1_2 => 
    And.intro (fun h1_3 => 
     congrArg (mx_rI u) (show (a2 >>> ((a3 &&& (31 : Int32)) &&& 31)) = (xv_ofS a1 a2 a3 ) from ((if_neg h1_0).trans ((if_neg h1_1).trans ((if_neg h1_2).trans (if_pos h1_3)))).symm)) (fun h1_3 => 
    And.intro (fun h1_4 => 
     congrArg (mx_rI u) (show (a2.toUInt32 >>> ((a3 &&& (31 : Int32)).toUInt32 &&& Int32.toUInt32 31)).toInt32 = (xv_ofS a1 a2 a3 ) from ((if_neg h1_0).trans ((if_neg h1_1).trans ((if_neg h1_2).trans ((if_neg h1_3).trans (if_pos h1_4))))).symm)) (fun h1_4 => 
     congrArg (mx_rI u) (show 0 = (xv_ofS a1 a2 a3 ) from ((if_neg h1_0).trans ((if_neg h1_1).trans ((if_neg h1_2).trans ((if_neg h1_3).trans (if_neg h1_4))))).symm)))))))
/-! WideMachine$Values.ofM(III)I -/
def xv_ofM (a1 : Int32) (a2 : Int32) (a3 : Int32) : Int32 :=
  if a1 = 32 then
   (a2.toInt16.toInt32 * a3.toInt16.toInt32)
  else
  if a1 = 33 then
   ((a2 >>> ((16 : Int32) &&& 31)) * (a3 >>> ((16 : Int32) &&& 31)))
  else
  if a1 = 34 then
   ((a2 &&& (65535 : Int32)) * (a3 &&& (65535 : Int32)))
  else
  if a1 = 35 then
   (xv_nearestInt (2 * (a2.toInt16.toInt32 * a3.toInt16.toInt32).toInt64) )
  else
  0
def pre_xv_ofM (np nd : Nat) : List mx_V → mx_S → Prop := fun as u => ∃ (a1 : Int32) (a2 : Int32) (a3 : Int32), as = [.inl a1, .inl a2, .inl a3] ∧ True
def fn_xv_ofM (np nd : Nat) : mx_F := fun as u => match as with
  | [.inl a1, .inl a2, .inl a3] => mx_rI u (xv_ofM a1 a2 a3 )
  | _ => (none, u)
def tb_xv_ofM (np nd : Nat) : List (Nat × mx_T) := [
  (0, mx_iload_n 0 0),
  (1, mx_tsw 72 [(32, 32), (33, 38), (34, 48), (35, 58)] 1),
  (32, mx_iload_n 1 32),
  (33, mx_i2s 33),
  (34, mx_iload_n 2 34),
  (35, mx_i2s 35),
  (36, mx_imul 36),
  (37, mx_iret 37),
  (38, mx_iload_n 1 38),
  (39, mx_bipush 16 39),
  (41, mx_ishr 41),
  (42, mx_iload_n 2 42),
  (43, mx_bipush 16 43),
  (45, mx_ishr 45),
  (46, mx_imul 46),
  (47, mx_iret 47),
  (48, mx_iload_n 1 48),
  (49, mx_ldc 65535 49),
  (51, mx_iand 51),
  (52, mx_iload_n 2 52),
  (53, mx_ldc 65535 53),
  (55, mx_iand 55),
  (56, mx_imul 56),
  (57, mx_iret 57),
  (58, mx_ldc2 2 58),
  (61, mx_iload_n 1 61),
  (62, mx_i2s 62),
  (63, mx_iload_n 2 63),
  (64, mx_i2s 64),
  (65, mx_imul 65),
  (66, mx_i2l 66),
  (67, mx_lmul 67),
  (68, mx_invS 1 (pre_xv_nearestInt np nd) (fn_xv_nearestInt np nd) 68),
  (71, mx_iret 71),
  (72, mx_iconst 0 72),
  (73, mx_iret 73)]
set_option maxRecDepth 100000 in
set_option maxHeartbeats 4000000 in
theorem ok_xv_ofM (l : Launch) (np nd : Nat) : ∀ q ∈ tb_xv_ofM np nd , mx_Ok l ({ frames := 1, cells := 0, slots := 0, locals := 21 } : Room) b_xv_ofM 3 "WideMachine$Values" (some .int) vw_T vw_cl (kx np nd) q.1 q.2 := by
  refine List.forall_mem_cons.mpr ⟨mx_ok_iload_n (show decode b_xv_ofM 0 = .ok (.iload_n 0, 1) by decide +kernel) rfl, ?_⟩
  refine List.forall_mem_cons.mpr ⟨mx_ok_tsw (show decode b_xv_ofM 1 = .ok (.tableswitch 71 32 35 #[31, 37, 47, 57], 31) by decide +kernel) (by decide) (by decide), ?_⟩
  refine List.forall_mem_cons.mpr ⟨mx_ok_iload_n (show decode b_xv_ofM 32 = .ok (.iload_n 1, 1) by decide +kernel) rfl, ?_⟩
  refine List.forall_mem_cons.mpr ⟨mx_ok_i2s (show decode b_xv_ofM 33 = .ok (.i2s, 1) by decide +kernel), ?_⟩
  refine List.forall_mem_cons.mpr ⟨mx_ok_iload_n (show decode b_xv_ofM 34 = .ok (.iload_n 2, 1) by decide +kernel) rfl, ?_⟩
  refine List.forall_mem_cons.mpr ⟨mx_ok_i2s (show decode b_xv_ofM 35 = .ok (.i2s, 1) by decide +kernel), ?_⟩
  refine List.forall_mem_cons.mpr ⟨mx_ok_imul (show decode b_xv_ofM 36 = .ok (.imul, 1) by decide +kernel), ?_⟩
  refine List.forall_mem_cons.mpr ⟨mx_ok_iret (show decode b_xv_ofM 37 = .ok (.ireturn, 1) by decide +kernel) rfl, ?_⟩
  refine List.forall_mem_cons.mpr ⟨mx_ok_iload_n (show decode b_xv_ofM 38 = .ok (.iload_n 1, 1) by decide +kernel) rfl, ?_⟩
  refine List.forall_mem_cons.mpr ⟨mx_ok_bipush (show decode b_xv_ofM 39 = .ok (.bipush 16, 2) by decide +kernel) (by decide), ?_⟩
  refine List.forall_mem_cons.mpr ⟨mx_ok_ishr (show decode b_xv_ofM 41 = .ok (.ishr, 1) by decide +kernel), ?_⟩
  refine List.forall_mem_cons.mpr ⟨mx_ok_iload_n (show decode b_xv_ofM 42 = .ok (.iload_n 2, 1) by decide +kernel) rfl, ?_⟩
  refine List.forall_mem_cons.mpr ⟨mx_ok_bipush (show decode b_xv_ofM 43 = .ok (.bipush 16, 2) by decide +kernel) (by decide), ?_⟩
  refine List.forall_mem_cons.mpr ⟨mx_ok_ishr (show decode b_xv_ofM 45 = .ok (.ishr, 1) by decide +kernel), ?_⟩
  refine List.forall_mem_cons.mpr ⟨mx_ok_imul (show decode b_xv_ofM 46 = .ok (.imul, 1) by decide +kernel), ?_⟩
  refine List.forall_mem_cons.mpr ⟨mx_ok_iret (show decode b_xv_ofM 47 = .ok (.ireturn, 1) by decide +kernel) rfl, ?_⟩
  refine List.forall_mem_cons.mpr ⟨mx_ok_iload_n (show decode b_xv_ofM 48 = .ok (.iload_n 1, 1) by decide +kernel) rfl, ?_⟩
  refine List.forall_mem_cons.mpr ⟨mx_ok_ldc (show decode b_xv_ofM 49 = .ok (.ldc 17, 2) by decide +kernel) vm_195, ?_⟩
  refine List.forall_mem_cons.mpr ⟨mx_ok_iand (show decode b_xv_ofM 51 = .ok (.iand, 1) by decide +kernel), ?_⟩
  refine List.forall_mem_cons.mpr ⟨mx_ok_iload_n (show decode b_xv_ofM 52 = .ok (.iload_n 2, 1) by decide +kernel) rfl, ?_⟩
  refine List.forall_mem_cons.mpr ⟨mx_ok_ldc (show decode b_xv_ofM 53 = .ok (.ldc 17, 2) by decide +kernel) vm_195, ?_⟩
  refine List.forall_mem_cons.mpr ⟨mx_ok_iand (show decode b_xv_ofM 55 = .ok (.iand, 1) by decide +kernel), ?_⟩
  refine List.forall_mem_cons.mpr ⟨mx_ok_imul (show decode b_xv_ofM 56 = .ok (.imul, 1) by decide +kernel), ?_⟩
  refine List.forall_mem_cons.mpr ⟨mx_ok_iret (show decode b_xv_ofM 57 = .ok (.ireturn, 1) by decide +kernel) rfl, ?_⟩
  refine List.forall_mem_cons.mpr ⟨mx_ok_ldc2 (show decode b_xv_ofM 58 = .ok (.ldc2_w 18, 3) by decide +kernel) vm_196, ?_⟩
  refine List.forall_mem_cons.mpr ⟨mx_ok_iload_n (show decode b_xv_ofM 61 = .ok (.iload_n 1, 1) by decide +kernel) rfl, ?_⟩
  refine List.forall_mem_cons.mpr ⟨mx_ok_i2s (show decode b_xv_ofM 62 = .ok (.i2s, 1) by decide +kernel), ?_⟩
  refine List.forall_mem_cons.mpr ⟨mx_ok_iload_n (show decode b_xv_ofM 63 = .ok (.iload_n 2, 1) by decide +kernel) rfl, ?_⟩
  refine List.forall_mem_cons.mpr ⟨mx_ok_i2s (show decode b_xv_ofM 64 = .ok (.i2s, 1) by decide +kernel), ?_⟩
  refine List.forall_mem_cons.mpr ⟨mx_ok_imul (show decode b_xv_ofM 65 = .ok (.imul, 1) by decide +kernel), ?_⟩
  refine List.forall_mem_cons.mpr ⟨mx_ok_i2l (show decode b_xv_ofM 66 = .ok (.i2l, 1) by decide +kernel), ?_⟩
  refine List.forall_mem_cons.mpr ⟨mx_ok_lmul (show decode b_xv_ofM 67 = .ok (.lmul, 1) by decide +kernel), ?_⟩
  refine List.forall_mem_cons.mpr ⟨mx_ok_invS vw_G (ct_xv_nearestInt l np nd) ⟨vm_188, vm_189, vm_190, ⟨by decide +kernel, by decide +kernel, by decide +kernel⟩, ⟨by decide, by decide⟩, rfl, rfl⟩ vm_191 (show decode b_xv_ofM 68 = .ok (.invokestatic 7, 3) by decide +kernel), ?_⟩
  refine List.forall_mem_cons.mpr ⟨mx_ok_iret (show decode b_xv_ofM 71 = .ok (.ireturn, 1) by decide +kernel) rfl, ?_⟩
  refine List.forall_mem_cons.mpr ⟨mx_ok_iconst (show decode b_xv_ofM 72 = .ok (.iconst 0, 1) by decide +kernel) (by decide), ?_⟩
  refine List.forall_mem_cons.mpr ⟨mx_ok_iret (show decode b_xv_ofM 73 = .ok (.ireturn, 1) by decide +kernel) rfl, ?_⟩
  exact fun _ h => absurd h List.not_mem_nil
set_option maxRecDepth 100000 in
set_option maxHeartbeats 4000000 in
theorem ct_xv_ofM (l : Launch) (np nd : Nat) : mx_Ct l vw_T vw_cl (kx np nd) { frames := 1, cells := 0, slots := 0, locals := 21 } y_xv_ofM b_xv_ofM 3 (some .int) (pre_xv_ofM np nd) (fn_xv_ofM np nd) := by
  refine mx_ct_of (tb_xv_ofM np nd ) (by decide) (ok_xv_ofM l np nd ) (fun as u h => by obtain ⟨_, _, _, rfl, -⟩ := h; exact Nat.le_of_ble_eq_true rfl) ?_
  intro as u hpre At hc hw
  obtain ⟨a1, a2, a3, rfl, hp⟩ := hpre
  exact hc 200 [] _ _ _ _ (
    And.intro (fun h1_0 => 
     congrArg (mx_rI u) (show (a2.toInt16.toInt32 * a3.toInt16.toInt32) = (xv_ofM a1 a2 a3 ) from (if_pos h1_0).symm)) (fun h1_0 => 
    And.intro (fun h1_1 => 
     congrArg (mx_rI u) (show ((a2 >>> ((16 : Int32) &&& 31)) * (a3 >>> ((16 : Int32) &&& 31))) = (xv_ofM a1 a2 a3 ) from ((if_neg h1_0).trans (if_pos h1_1)).symm)) (fun h1_1 => 
    And.intro (fun h1_2 => 
     congrArg (mx_rI u) (show ((a2 &&& (65535 : Int32)) * (a3 &&& (65535 : Int32))) = (xv_ofM a1 a2 a3 ) from ((if_neg h1_0).trans ((if_neg h1_1).trans (if_pos h1_2))).symm)) (fun h1_2 => 
    And.intro (fun h1_3 => 
     And.intro rfl (
     And.intro ⟨_, rfl, trivial⟩ (
     congrArg (mx_rI u) (show (xv_nearestInt (2 * (a2.toInt16.toInt32 * a3.toInt16.toInt32).toInt64) ) = (xv_ofM a1 a2 a3 ) from ((if_neg h1_0).trans ((if_neg h1_1).trans ((if_neg h1_2).trans (if_pos h1_3)))).symm)))) (fun h1_3 => 
     congrArg (mx_rI u) (show 0 = (xv_ofM a1 a2 a3 ) from ((if_neg h1_0).trans ((if_neg h1_1).trans ((if_neg h1_2).trans (if_neg h1_3)))).symm))))))
/-! WideMachine$Values.ofD(III)I -/
def xv_ofD (a1 : Int32) (a2 : Int32) (a3 : Int32) : Int32 :=
  if a1 = 48 then
   (a2 + a3)
  else
  if a1 = 49 then
   (a2 - a3)
  else
  0
def pre_xv_ofD (np nd : Nat) : List mx_V → mx_S → Prop := fun as u => ∃ (a1 : Int32) (a2 : Int32) (a3 : Int32), as = [.inl a1, .inl a2, .inl a3] ∧ True
def fn_xv_ofD (np nd : Nat) : mx_F := fun as u => match as with
  | [.inl a1, .inl a2, .inl a3] => mx_rI u (xv_ofD a1 a2 a3 )
  | _ => (none, u)
def tb_xv_ofD (np nd : Nat) : List (Nat × mx_T) := [
  (0, mx_iload_n 0 0),
  (1, mx_lsw0 36 [(48, 28), (49, 32)] 1),
  (28, mx_iload_n 1 28),
  (29, mx_iload_n 2 29),
  (30, mx_iadd 30),
  (31, mx_iret 31),
  (32, mx_iload_n 1 32),
  (33, mx_iload_n 2 33),
  (34, mx_isub 34),
  (35, mx_iret 35),
  (36, mx_iconst 0 36),
  (37, mx_iret 37)]
set_option maxRecDepth 100000 in
set_option maxHeartbeats 4000000 in
theorem ok_xv_ofD (l : Launch) (np nd : Nat) : ∀ q ∈ tb_xv_ofD np nd , mx_Ok l ({ frames := 0, cells := 0, slots := 0, locals := 0 } : Room) b_xv_ofD 3 "WideMachine$Values" (some .int) vw_T vw_cl (kx np nd) q.1 q.2 := by
  refine List.forall_mem_cons.mpr ⟨mx_ok_iload_n (show decode b_xv_ofD 0 = .ok (.iload_n 0, 1) by decide +kernel) rfl, ?_⟩
  refine List.forall_mem_cons.mpr ⟨mx_ok_lsw0 (show decode b_xv_ofD 1 = .ok (.lookupswitch 35 #[(48, 27), (49, 31)], 27) by decide +kernel) (by decide) (by decide) (by decide), ?_⟩
  refine List.forall_mem_cons.mpr ⟨mx_ok_iload_n (show decode b_xv_ofD 28 = .ok (.iload_n 1, 1) by decide +kernel) rfl, ?_⟩
  refine List.forall_mem_cons.mpr ⟨mx_ok_iload_n (show decode b_xv_ofD 29 = .ok (.iload_n 2, 1) by decide +kernel) rfl, ?_⟩
  refine List.forall_mem_cons.mpr ⟨mx_ok_iadd (show decode b_xv_ofD 30 = .ok (.iadd, 1) by decide +kernel), ?_⟩
  refine List.forall_mem_cons.mpr ⟨mx_ok_iret (show decode b_xv_ofD 31 = .ok (.ireturn, 1) by decide +kernel) rfl, ?_⟩
  refine List.forall_mem_cons.mpr ⟨mx_ok_iload_n (show decode b_xv_ofD 32 = .ok (.iload_n 1, 1) by decide +kernel) rfl, ?_⟩
  refine List.forall_mem_cons.mpr ⟨mx_ok_iload_n (show decode b_xv_ofD 33 = .ok (.iload_n 2, 1) by decide +kernel) rfl, ?_⟩
  refine List.forall_mem_cons.mpr ⟨mx_ok_isub (show decode b_xv_ofD 34 = .ok (.isub, 1) by decide +kernel), ?_⟩
  refine List.forall_mem_cons.mpr ⟨mx_ok_iret (show decode b_xv_ofD 35 = .ok (.ireturn, 1) by decide +kernel) rfl, ?_⟩
  refine List.forall_mem_cons.mpr ⟨mx_ok_iconst (show decode b_xv_ofD 36 = .ok (.iconst 0, 1) by decide +kernel) (by decide), ?_⟩
  refine List.forall_mem_cons.mpr ⟨mx_ok_iret (show decode b_xv_ofD 37 = .ok (.ireturn, 1) by decide +kernel) rfl, ?_⟩
  exact fun _ h => absurd h List.not_mem_nil
set_option maxRecDepth 100000 in
set_option maxHeartbeats 4000000 in
theorem ct_xv_ofD (l : Launch) (np nd : Nat) : mx_Ct l vw_T vw_cl (kx np nd) { frames := 0, cells := 0, slots := 0, locals := 0 } y_xv_ofD b_xv_ofD 3 (some .int) (pre_xv_ofD np nd) (fn_xv_ofD np nd) := by
  refine mx_ct_of (tb_xv_ofD np nd ) (by decide) (ok_xv_ofD l np nd ) (fun as u h => by obtain ⟨_, _, _, rfl, -⟩ := h; exact Nat.le_of_ble_eq_true rfl) ?_
  intro as u hpre At hc hw
  obtain ⟨a1, a2, a3, rfl, hp⟩ := hpre
  exact hc 200 [] _ _ _ _ (
    And.intro (fun h1_0 => 
     congrArg (mx_rI u) (show (a2 + a3) = (xv_ofD a1 a2 a3 ) from (if_pos h1_0).symm)) (fun h1_0 => 
    And.intro (fun h1_1 => 
     congrArg (mx_rI u) (show (a2 - a3) = (xv_ofD a1 a2 a3 ) from ((if_neg h1_0).trans (if_pos h1_1)).symm)) (fun h1_1 => 
     congrArg (mx_rI u) (show 0 = (xv_ofD a1 a2 a3 ) from ((if_neg h1_0).trans (if_neg h1_1)).symm))))
/-! WideMachine$Word.timeOfWrite(I)I -/
def xw_timeOfWrite (a1 : Int32) : Int32 :=
  if (xw_code a1 ) = 50 then
   5
  else
   if (xw_kind a1 ) = 2 then
    2
   else
    1
def pre_xw_timeOfWrite (np nd : Nat) : List mx_V → mx_S → Prop := fun as u => ∃ (a1 : Int32), as = [.inl a1] ∧ True
def fn_xw_timeOfWrite (np nd : Nat) : mx_F := fun as u => match as with
  | [.inl a1] => mx_rI u (xw_timeOfWrite a1 )
  | _ => (none, u)
def tb_xw_timeOfWrite (np nd : Nat) : List (Nat × mx_T) := [
  (0, mx_iload_n 0 0),
  (1, mx_invS 1 (pre_xw_code np nd) (fn_xw_code np nd) 1),
  (4, mx_bipush 50 4),
  (6, mx_icmp_ne 11 6),
  (9, mx_iconst 5 9),
  (10, mx_iret 10),
  (11, mx_iload_n 0 11),
  (12, mx_invS 1 (pre_xw_kind np nd) (fn_xw_kind np nd) 12),
  (15, mx_iconst 2 15),
  (16, mx_icmp_ne 23 16),
  (19, mx_iconst 2 19),
  (20, mx_goto 24 20),
  (23, mx_iconst 1 23),
  (24, mx_iret 24)]
set_option maxRecDepth 100000 in
set_option maxHeartbeats 4000000 in
theorem ok_xw_timeOfWrite (l : Launch) (np nd : Nat) : ∀ q ∈ tb_xw_timeOfWrite np nd , mx_Ok l ({ frames := 1, cells := 0, slots := 0, locals := 20 } : Room) b_xw_timeOfWrite 1 "WideMachine$Word" (some .int) vw_T vw_cl (kx np nd) q.1 q.2 := by
  refine List.forall_mem_cons.mpr ⟨mx_ok_iload_n (show decode b_xw_timeOfWrite 0 = .ok (.iload_n 0, 1) by decide +kernel) rfl, ?_⟩
  refine List.forall_mem_cons.mpr ⟨mx_ok_invS vw_G (ct_xw_code l np nd) ⟨vm_99, vm_100, vm_97, ⟨by decide +kernel, by decide +kernel, by decide +kernel⟩, ⟨by decide, by decide⟩, rfl, rfl⟩ vm_101 (show decode b_xw_timeOfWrite 1 = .ok (.invokestatic 9, 3) by decide +kernel), ?_⟩
  refine List.forall_mem_cons.mpr ⟨mx_ok_bipush (show decode b_xw_timeOfWrite 4 = .ok (.bipush 50, 2) by decide +kernel) (by decide), ?_⟩
  refine List.forall_mem_cons.mpr ⟨mx_ok_icmp_ne (show decode b_xw_timeOfWrite 6 = .ok (.if_icmp .ne 5, 3) by decide +kernel) (by decide), ?_⟩
  refine List.forall_mem_cons.mpr ⟨mx_ok_iconst (show decode b_xw_timeOfWrite 9 = .ok (.iconst 5, 1) by decide +kernel) (by decide), ?_⟩
  refine List.forall_mem_cons.mpr ⟨mx_ok_iret (show decode b_xw_timeOfWrite 10 = .ok (.ireturn, 1) by decide +kernel) rfl, ?_⟩
  refine List.forall_mem_cons.mpr ⟨mx_ok_iload_n (show decode b_xw_timeOfWrite 11 = .ok (.iload_n 0, 1) by decide +kernel) rfl, ?_⟩
  refine List.forall_mem_cons.mpr ⟨mx_ok_invS vw_G (ct_xw_kind l np nd) ⟨vm_222, vm_208, vm_97, ⟨by decide +kernel, by decide +kernel, by decide +kernel⟩, ⟨by decide, by decide⟩, rfl, rfl⟩ vm_209 (show decode b_xw_timeOfWrite 12 = .ok (.invokestatic 15, 3) by decide +kernel), ?_⟩
  refine List.forall_mem_cons.mpr ⟨mx_ok_iconst (show decode b_xw_timeOfWrite 15 = .ok (.iconst 2, 1) by decide +kernel) (by decide), ?_⟩
  refine List.forall_mem_cons.mpr ⟨mx_ok_icmp_ne (show decode b_xw_timeOfWrite 16 = .ok (.if_icmp .ne 7, 3) by decide +kernel) (by decide), ?_⟩
  refine List.forall_mem_cons.mpr ⟨mx_ok_iconst (show decode b_xw_timeOfWrite 19 = .ok (.iconst 2, 1) by decide +kernel) (by decide), ?_⟩
  refine List.forall_mem_cons.mpr ⟨mx_ok_goto (show decode b_xw_timeOfWrite 20 = .ok (.goto 4, 3) by decide +kernel) (by decide), ?_⟩
  refine List.forall_mem_cons.mpr ⟨mx_ok_iconst (show decode b_xw_timeOfWrite 23 = .ok (.iconst 1, 1) by decide +kernel) (by decide), ?_⟩
  refine List.forall_mem_cons.mpr ⟨mx_ok_iret (show decode b_xw_timeOfWrite 24 = .ok (.ireturn, 1) by decide +kernel) rfl, ?_⟩
  exact fun _ h => absurd h List.not_mem_nil
set_option maxRecDepth 100000 in
set_option maxHeartbeats 4000000 in
theorem ct_xw_timeOfWrite (l : Launch) (np nd : Nat) : mx_Ct l vw_T vw_cl (kx np nd) { frames := 1, cells := 0, slots := 0, locals := 20 } y_xw_timeOfWrite b_xw_timeOfWrite 1 (some .int) (pre_xw_timeOfWrite np nd) (fn_xw_timeOfWrite np nd) := by
  refine mx_ct_of (tb_xw_timeOfWrite np nd ) (by decide) (ok_xw_timeOfWrite l np nd ) (fun as u h => by obtain ⟨_, rfl, -⟩ := h; exact Nat.le_of_ble_eq_true rfl) ?_
  intro as u hpre At hc hw
  obtain ⟨a1, rfl, hp⟩ := hpre
  exact hc 200 [] _ _ _ _ (
    And.intro rfl (
    And.intro ⟨_, rfl, trivial⟩ (
    And.intro (fun h6 => 
     And.intro rfl (
     And.intro ⟨_, rfl, trivial⟩ (
     And.intro (fun h16 => 
      congrArg (mx_rI u) (show 1 = (xw_timeOfWrite a1 ) from ((if_neg h6).trans (if_neg h16)).symm)) (fun h16 => 
      congrArg (mx_rI u) (show 2 = (xw_timeOfWrite a1 ) from ((if_neg h6).trans (if_pos h16)).symm))))) (fun h6 => 
     congrArg (mx_rI u) (show 5 = (xw_timeOfWrite a1 ) from (if_pos h6).symm)))))
end
section
/-! WideMachine$Writes.comeNearer()V -/
def xq_comeNearer_l2 : Nat → Int32 → mx_S → (mx_S)
  | 0, _, u => u
  | n + 1, v1, u =>
    if (mx_gf u 4 3) ≤ v1 then
     u
    else
     xq_comeNearer_l2 n (v1 + 1) (mx_sa u 7 (v1).toNatClampNeg ((mx_ga u 7 (v1).toNatClampNeg) - (1 : Int32)))
def q_xq_comeNearer_l2 (np nd : Nat) : Nat → Int32 → mx_S → Prop
  | 0, _, _ => False
  | n + 1, v1, u =>
    (((mx_gf u 4 3) ≤ v1) → 
     True) ∧ ((¬ ((mx_gf u 4 3) ≤ v1)) → 
     (vp_in v1 18) ∧ (
      (vp_in v1 18) ∧ (
       q_xq_comeNearer_l2 np nd n (v1 + 1) (mx_sa u 7 (v1).toNatClampNeg ((mx_ga u 7 (v1).toNatClampNeg) - (1 : Int32))))))
def xq_comeNearer (u : mx_S) : mx_S :=
  xq_comeNearer_l2 20 0 u
def q_xq_comeNearer (np nd : Nat) (u : mx_S) : Prop :=
  q_xq_comeNearer_l2 np nd 20 0 u
def pre_xq_comeNearer (np nd : Nat) : List mx_V → mx_S → Prop := fun as u => as = [.inr (.inr 4)] ∧ q_xq_comeNearer np nd u
def fn_xq_comeNearer (np nd : Nat) : mx_F := fun as u => match as with
  | [_] => (none, (xq_comeNearer u))
  | _ => (none, u)
def tb_xq_comeNearer (np nd : Nat) : List (Nat × mx_T) := [
  (0, mx_iconst 0 0),
  (1, mx_istore_n 1 1),
  (2, mx_iload_n 1 2),
  (3, mx_aload_n 0 3),
  (4, mx_getf (kx np nd) 1 3 4),
  (7, mx_icmp_ge 26 7),
  (10, mx_aload_n 0 10),
  (11, mx_getf (kx np nd) 1 2 11),
  (14, mx_iload_n 1 14),
  (15, mx_dup2 15),
  (16, mx_iald (kx np nd) 16),
  (17, mx_iconst 1 17),
  (18, mx_isub 18),
  (19, mx_iast (kx np nd) 19),
  (20, mx_iinc 1 1 20),
  (23, mx_goto 2 23),
  (26, mx_vret 26)]
set_option maxRecDepth 100000 in
set_option maxHeartbeats 4000000 in
theorem ok_xq_comeNearer (l : Launch) (np nd : Nat) : ∀ q ∈ tb_xq_comeNearer np nd , mx_Ok l ({ frames := 0, cells := 0, slots := 0, locals := 0 } : Room) b_xq_comeNearer 2 "WideMachine$Writes" none vw_T vw_cl (kx np nd) q.1 q.2 := by
  refine List.forall_mem_cons.mpr ⟨mx_ok_iconst (show decode b_xq_comeNearer 0 = .ok (.iconst 0, 1) by decide +kernel) (by decide), ?_⟩
  refine List.forall_mem_cons.mpr ⟨mx_ok_istore_n (show decode b_xq_comeNearer 1 = .ok (.istore_n 1, 1) by decide +kernel) rfl (by decide), ?_⟩
  refine List.forall_mem_cons.mpr ⟨mx_ok_iload_n (show decode b_xq_comeNearer 2 = .ok (.iload_n 1, 1) by decide +kernel) rfl, ?_⟩
  refine List.forall_mem_cons.mpr ⟨mx_ok_aload_n (show decode b_xq_comeNearer 3 = .ok (.aload_n 0, 1) by decide +kernel) rfl, ?_⟩
  refine List.forall_mem_cons.mpr ⟨mx_ok_getf fd_xq_19 (show decode b_xq_comeNearer 4 = .ok (.getfield 19, 3) by decide +kernel), ?_⟩
  refine List.forall_mem_cons.mpr ⟨mx_ok_icmp_ge (show decode b_xq_comeNearer 7 = .ok (.if_icmp .ge 19, 3) by decide +kernel) (by decide), ?_⟩
  refine List.forall_mem_cons.mpr ⟨mx_ok_aload_n (show decode b_xq_comeNearer 10 = .ok (.aload_n 0, 1) by decide +kernel) rfl, ?_⟩
  refine List.forall_mem_cons.mpr ⟨mx_ok_getf fd_xq_16 (show decode b_xq_comeNearer 11 = .ok (.getfield 16, 3) by decide +kernel), ?_⟩
  refine List.forall_mem_cons.mpr ⟨mx_ok_iload_n (show decode b_xq_comeNearer 14 = .ok (.iload_n 1, 1) by decide +kernel) rfl, ?_⟩
  refine List.forall_mem_cons.mpr ⟨mx_ok_dup2 (show decode b_xq_comeNearer 15 = .ok (.dup2, 1) by decide +kernel), ?_⟩
  refine List.forall_mem_cons.mpr ⟨mx_ok_iald (show decode b_xq_comeNearer 16 = .ok (.iaload, 1) by decide +kernel), ?_⟩
  refine List.forall_mem_cons.mpr ⟨mx_ok_iconst (show decode b_xq_comeNearer 17 = .ok (.iconst 1, 1) by decide +kernel) (by decide), ?_⟩
  refine List.forall_mem_cons.mpr ⟨mx_ok_isub (show decode b_xq_comeNearer 18 = .ok (.isub, 1) by decide +kernel), ?_⟩
  refine List.forall_mem_cons.mpr ⟨mx_ok_iast (show decode b_xq_comeNearer 19 = .ok (.iastore, 1) by decide +kernel), ?_⟩
  refine List.forall_mem_cons.mpr ⟨mx_ok_iinc (show decode b_xq_comeNearer 20 = .ok (.iinc 1 1, 3) by decide +kernel) (by decide) (by decide), ?_⟩
  refine List.forall_mem_cons.mpr ⟨mx_ok_goto (show decode b_xq_comeNearer 23 = .ok (.goto (-21), 3) by decide +kernel) (by decide), ?_⟩
  refine List.forall_mem_cons.mpr ⟨mx_ok_vret (show decode b_xq_comeNearer 26 = .ok (.return_, 1) by decide +kernel) rfl, ?_⟩
  exact fun _ h => absurd h List.not_mem_nil
set_option maxRecDepth 100000 in
set_option maxHeartbeats 4000000 in
theorem ct_xq_comeNearer (l : Launch) (np nd : Nat) : mx_Ct l vw_T vw_cl (kx np nd) { frames := 0, cells := 0, slots := 0, locals := 0 } y_xq_comeNearer b_xq_comeNearer 2 none (pre_xq_comeNearer np nd) (fn_xq_comeNearer np nd) := by
  refine mx_ct_of (tb_xq_comeNearer np nd ) (by decide) (ok_xq_comeNearer l np nd ) (fun as u h => by obtain ⟨rfl, -⟩ := h; exact Nat.le_of_ble_eq_true rfl) ?_
  intro as u hpre At hc hw
  obtain ⟨rfl, hp⟩ := hpre
  obtain ⟨RES, hRES⟩ : ∃ z, z = (xq_comeNearer u) := ⟨_, rfl⟩
  have hfn : fn_xq_comeNearer np nd [.inr (.inr 4)] u = (none, RES) := by rw [hRES]; rfl
  rw [hfn] at hc
  have lp2 : ∀ (n2 : Nat) (v1 : Int32) (u : mx_S), q_xq_comeNearer_l2 np nd n2 v1 u → xq_comeNearer_l2 n2 v1 u = RES → At 2 [(1, .inl v1), (0, .inr (.inr 4))] [] u := by
    intro n2
    induction n2 with
    | zero =>
      intro v1 u hi he
      exact hi.elim
    | succ n2 ih2 =>
      intro v1 u hi2 he2
      exact hc 200 [2] _ _ _ _ (
        And.intro (fun h7 => 
         congrArg (fun z : mx_S => ((none, z) : Option mx_V × mx_S)) (show u = RES from (if_pos h7).symm.trans he2)) (fun h7 => 
         And.intro ((hi2.2 h7).1) (
         And.intro ((hi2.2 h7).2.1) (
         hw [0, 1] _ _ _ _ (ih2 (v1 + 1) (mx_sa u 7 (v1).toNatClampNeg ((mx_ga u 7 (v1).toNatClampNeg) - (1 : Int32))) (hi2.2 h7).2.2 ((if_neg h7).symm.trans he2))))))
  exact hc 200 [2] _ _ _ _ (
    hw [0, 1] _ _ _ _ (lp2 20 0 u hp ((rfl).symm.trans hRES.symm)))
/-! WideMachine$Writes.clash()Z -/
def xq_clash_l4 (u : mx_S) : Nat → Int32 → Int32 → (Int32)
  | 0, _, _ => 0
  | n + 1, v1, v2 =>
    if (mx_gf u 4 3) ≤ v2 then
     0
    else
     if (mx_ga u 7 (v2).toNatClampNeg) = 0 then
      if (v1 &&& ((1 : Int32) <<< ((mx_ga u 5 (v2).toNatClampNeg) &&& 31))) = 0 then
       xq_clash_l4 u n (v1 ||| ((1 : Int32) <<< ((mx_ga u 5 (v2).toNatClampNeg) &&& 31))) (v2 + 1)
      else
       1
     else
      xq_clash_l4 u n v1 (v2 + 1)
def q_xq_clash_l4 (np nd : Nat) (u : mx_S) : Nat → Int32 → Int32 → Prop
  | 0, _, _ => False
  | n + 1, v1, v2 =>
    (((mx_gf u 4 3) ≤ v2) → 
     True) ∧ ((¬ ((mx_gf u 4 3) ≤ v2)) → 
     (vp_in v2 18) ∧ (
      ((¬ ((mx_ga u 7 (v2).toNatClampNeg) = 0)) → 
       q_xq_clash_l4 np nd u n v1 (v2 + 1)) ∧ (((mx_ga u 7 (v2).toNatClampNeg) = 0) → 
       (vp_in v2 18) ∧ (
        (((v1 &&& ((1 : Int32) <<< ((mx_ga u 5 (v2).toNatClampNeg) &&& 31))) = 0) → 
         q_xq_clash_l4 np nd u n (v1 ||| ((1 : Int32) <<< ((mx_ga u 5 (v2).toNatClampNeg) &&& 31))) (v2 + 1)) ∧ ((¬ ((v1 &&& ((1 : Int32) <<< ((mx_ga u 5 (v2).toNatClampNeg) &&& 31))) = 0)) → 
         True)))))
def xq_clash (u : mx_S) : Int32 :=
  xq_clash_l4 u 20 0 0
def q_xq_clash (np nd : Nat) (u : mx_S) : Prop :=
  q_xq_clash_l4 np nd u 20 0 0
def pre_xq_clash (np nd : Nat) : List mx_V → mx_S → Prop := fun as u => as = [.inr (.inr 4)] ∧ q_xq_clash np nd u
def fn_xq_clash (np nd : Nat) : mx_F := fun as u => match as with
  | [_] => mx_rI u (xq_clash u)
  | _ => (none, u)
def tb_xq_clash (np nd : Nat) : List (Nat × mx_T) := [
  (0, mx_iconst 0 0),
  (1, mx_istore_n 1 1),
  (2, mx_iconst 0 2),
  (3, mx_istore_n 2 3),
  (4, mx_iload_n 2 4),
  (5, mx_aload_n 0 5),
  (6, mx_getf (kx np nd) 1 3 6),
  (9, mx_icmp_ge 48 9),
  (12, mx_aload_n 0 12),
  (13, mx_getf (kx np nd) 1 2 13),
  (16, mx_iload_n 2 16),
  (17, mx_iald (kx np nd) 17),
  (18, mx_if_ne 42 18),
  (21, mx_iconst 1 21),
  (22, mx_aload_n 0 22),
  (23, mx_getf (kx np nd) 1 0 23),
  (26, mx_iload_n 2 26),
  (27, mx_iald (kx np nd) 27),
  (28, mx_ishl 28),
  (29, mx_istore_n 3 29),
  (30, mx_iload_n 1 30),
  (31, mx_iload_n 3 31),
  (32, mx_iand 32),
  (33, mx_if_eq 38 33),
  (36, mx_iconst 1 36),
  (37, mx_zret 37),
  (38, mx_iload_n 1 38),
  (39, mx_iload_n 3 39),
  (40, mx_ior 40),
  (41, mx_istore_n 1 41),
  (42, mx_iinc 2 1 42),
  (45, mx_goto 4 45),
  (48, mx_iconst 0 48),
  (49, mx_zret 49)]
set_option maxRecDepth 100000 in
set_option maxHeartbeats 4000000 in
theorem ok_xq_clash (l : Launch) (np nd : Nat) : ∀ q ∈ tb_xq_clash np nd , mx_Ok l ({ frames := 0, cells := 0, slots := 0, locals := 0 } : Room) b_xq_clash 4 "WideMachine$Writes" (some .boolean) vw_T vw_cl (kx np nd) q.1 q.2 := by
  refine List.forall_mem_cons.mpr ⟨mx_ok_iconst (show decode b_xq_clash 0 = .ok (.iconst 0, 1) by decide +kernel) (by decide), ?_⟩
  refine List.forall_mem_cons.mpr ⟨mx_ok_istore_n (show decode b_xq_clash 1 = .ok (.istore_n 1, 1) by decide +kernel) rfl (by decide), ?_⟩
  refine List.forall_mem_cons.mpr ⟨mx_ok_iconst (show decode b_xq_clash 2 = .ok (.iconst 0, 1) by decide +kernel) (by decide), ?_⟩
  refine List.forall_mem_cons.mpr ⟨mx_ok_istore_n (show decode b_xq_clash 3 = .ok (.istore_n 2, 1) by decide +kernel) rfl (by decide), ?_⟩
  refine List.forall_mem_cons.mpr ⟨mx_ok_iload_n (show decode b_xq_clash 4 = .ok (.iload_n 2, 1) by decide +kernel) rfl, ?_⟩
  refine List.forall_mem_cons.mpr ⟨mx_ok_aload_n (show decode b_xq_clash 5 = .ok (.aload_n 0, 1) by decide +kernel) rfl, ?_⟩
  refine List.forall_mem_cons.mpr ⟨mx_ok_getf fd_xq_19 (show decode b_xq_clash 6 = .ok (.getfield 19, 3) by decide +kernel), ?_⟩
  refine List.forall_mem_cons.mpr ⟨mx_ok_icmp_ge (show decode b_xq_clash 9 = .ok (.if_icmp .ge 39, 3) by decide +kernel) (by decide), ?_⟩
  refine List.forall_mem_cons.mpr ⟨mx_ok_aload_n (show decode b_xq_clash 12 = .ok (.aload_n 0, 1) by decide +kernel) rfl, ?_⟩
  refine List.forall_mem_cons.mpr ⟨mx_ok_getf fd_xq_16 (show decode b_xq_clash 13 = .ok (.getfield 16, 3) by decide +kernel), ?_⟩
  refine List.forall_mem_cons.mpr ⟨mx_ok_iload_n (show decode b_xq_clash 16 = .ok (.iload_n 2, 1) by decide +kernel) rfl, ?_⟩
  refine List.forall_mem_cons.mpr ⟨mx_ok_iald (show decode b_xq_clash 17 = .ok (.iaload, 1) by decide +kernel), ?_⟩
  refine List.forall_mem_cons.mpr ⟨mx_ok_if_ne (show decode b_xq_clash 18 = .ok (.ifCond .ne 24, 3) by decide +kernel) (by decide), ?_⟩
  refine List.forall_mem_cons.mpr ⟨mx_ok_iconst (show decode b_xq_clash 21 = .ok (.iconst 1, 1) by decide +kernel) (by decide), ?_⟩
  refine List.forall_mem_cons.mpr ⟨mx_ok_aload_n (show decode b_xq_clash 22 = .ok (.aload_n 0, 1) by decide +kernel) rfl, ?_⟩
  refine List.forall_mem_cons.mpr ⟨mx_ok_getf fd_xq_9 (show decode b_xq_clash 23 = .ok (.getfield 9, 3) by decide +kernel), ?_⟩
  refine List.forall_mem_cons.mpr ⟨mx_ok_iload_n (show decode b_xq_clash 26 = .ok (.iload_n 2, 1) by decide +kernel) rfl, ?_⟩
  refine List.forall_mem_cons.mpr ⟨mx_ok_iald (show decode b_xq_clash 27 = .ok (.iaload, 1) by decide +kernel), ?_⟩
  refine List.forall_mem_cons.mpr ⟨mx_ok_ishl (show decode b_xq_clash 28 = .ok (.ishl, 1) by decide +kernel), ?_⟩
  refine List.forall_mem_cons.mpr ⟨mx_ok_istore_n (show decode b_xq_clash 29 = .ok (.istore_n 3, 1) by decide +kernel) rfl (by decide), ?_⟩
  refine List.forall_mem_cons.mpr ⟨mx_ok_iload_n (show decode b_xq_clash 30 = .ok (.iload_n 1, 1) by decide +kernel) rfl, ?_⟩
  refine List.forall_mem_cons.mpr ⟨mx_ok_iload_n (show decode b_xq_clash 31 = .ok (.iload_n 3, 1) by decide +kernel) rfl, ?_⟩
  refine List.forall_mem_cons.mpr ⟨mx_ok_iand (show decode b_xq_clash 32 = .ok (.iand, 1) by decide +kernel), ?_⟩
  refine List.forall_mem_cons.mpr ⟨mx_ok_if_eq (show decode b_xq_clash 33 = .ok (.ifCond .eq 5, 3) by decide +kernel) (by decide), ?_⟩
  refine List.forall_mem_cons.mpr ⟨mx_ok_iconst (show decode b_xq_clash 36 = .ok (.iconst 1, 1) by decide +kernel) (by decide), ?_⟩
  refine List.forall_mem_cons.mpr ⟨mx_ok_zret (show decode b_xq_clash 37 = .ok (.ireturn, 1) by decide +kernel) rfl, ?_⟩
  refine List.forall_mem_cons.mpr ⟨mx_ok_iload_n (show decode b_xq_clash 38 = .ok (.iload_n 1, 1) by decide +kernel) rfl, ?_⟩
  refine List.forall_mem_cons.mpr ⟨mx_ok_iload_n (show decode b_xq_clash 39 = .ok (.iload_n 3, 1) by decide +kernel) rfl, ?_⟩
  refine List.forall_mem_cons.mpr ⟨mx_ok_ior (show decode b_xq_clash 40 = .ok (.ior, 1) by decide +kernel), ?_⟩
  refine List.forall_mem_cons.mpr ⟨mx_ok_istore_n (show decode b_xq_clash 41 = .ok (.istore_n 1, 1) by decide +kernel) rfl (by decide), ?_⟩
  refine List.forall_mem_cons.mpr ⟨mx_ok_iinc (show decode b_xq_clash 42 = .ok (.iinc 2 1, 3) by decide +kernel) (by decide) (by decide), ?_⟩
  refine List.forall_mem_cons.mpr ⟨mx_ok_goto (show decode b_xq_clash 45 = .ok (.goto (-41), 3) by decide +kernel) (by decide), ?_⟩
  refine List.forall_mem_cons.mpr ⟨mx_ok_iconst (show decode b_xq_clash 48 = .ok (.iconst 0, 1) by decide +kernel) (by decide), ?_⟩
  refine List.forall_mem_cons.mpr ⟨mx_ok_zret (show decode b_xq_clash 49 = .ok (.ireturn, 1) by decide +kernel) rfl, ?_⟩
  exact fun _ h => absurd h List.not_mem_nil
set_option maxRecDepth 100000 in
set_option maxHeartbeats 4000000 in
theorem ct_xq_clash (l : Launch) (np nd : Nat) : mx_Ct l vw_T vw_cl (kx np nd) { frames := 0, cells := 0, slots := 0, locals := 0 } y_xq_clash b_xq_clash 4 (some .boolean) (pre_xq_clash np nd) (fn_xq_clash np nd) := by
  refine mx_ct_of (tb_xq_clash np nd ) (by decide) (ok_xq_clash l np nd ) (fun as u h => by obtain ⟨rfl, -⟩ := h; exact Nat.le_of_ble_eq_true rfl) ?_
  intro as u hpre At hc hw
  obtain ⟨rfl, hp⟩ := hpre
  obtain ⟨RES, hRES⟩ : ∃ z, z = (xq_clash u) := ⟨_, rfl⟩
  have hfn : fn_xq_clash np nd [.inr (.inr 4)] u = mx_rI u RES := by rw [hRES]; rfl
  rw [hfn] at hc
  have lp4 : ∀ (n4 : Nat) (v1 : Int32) (v2 : Int32), q_xq_clash_l4 np nd u n4 v1 v2 → xq_clash_l4 u n4 v1 v2 = RES → At 4 [(1, .inl v1), (2, .inl v2), (0, .inr (.inr 4))] [] u := by
    intro n4
    induction n4 with
    | zero =>
      intro v1 v2 hi he
      exact hi.elim
    | succ n4 ih4 =>
      intro v1 v2 hi4 he4
      exact hc 200 [4] _ _ _ _ (
        And.intro (fun h9 => 
         And.intro (Or.inl rfl) (
         congrArg (mx_rI u) (show 0 = RES from (if_pos h9).symm.trans he4))) (fun h9 => 
         And.intro ((hi4.2 h9).1) (
         And.intro (fun h18 => 
          hw [1, 0, 2] _ _ _ _ (ih4 v1 (v2 + 1) ((hi4.2 h9).2.1 h18) (((if_neg h9).trans (if_neg h18)).symm.trans he4))) (fun h18 => 
          And.intro (((hi4.2 h9).2.2 h18).1) (
          And.intro (fun h33 => 
           hw [1, 0, 3] _ _ _ _ (ih4 (v1 ||| ((1 : Int32) <<< ((mx_ga u 5 (v2).toNatClampNeg) &&& 31))) (v2 + 1) (((hi4.2 h9).2.2 h18).2.1 h33) (((if_neg h9).trans ((if_pos h18).trans (if_pos h33))).symm.trans he4))) (fun h33 => 
           And.intro (Or.inr rfl) (
           congrArg (mx_rI u) (show 1 = RES from ((if_neg h9).trans ((if_pos h18).trans (if_neg h33))).symm.trans he4))))))))
  exact hc 200 [4] _ _ _ _ (
    hw [1, 0, 2] _ _ _ _ (lp4 20 0 0 hp ((rfl).symm.trans hRES.symm)))
/-! WideMachine$Writes.land([I)V -/
def xq_land_l4 : Nat → Int32 → Int32 → mx_S → (mx_S)
  | 0, _, _, u => u
  | n + 1, v2, v3, u =>
    if (mx_gf u 4 3) ≤ v3 then
     (mx_sf u 4 3 v2)
    else
     if (mx_ga u 7 (v3).toNatClampNeg) = 0 then
      xq_land_l4 n v2 (v3 + 1) (mx_sa u 3 ((mx_ga u 5 (v3).toNatClampNeg)).toNatClampNeg (mx_ga u 6 (v3).toNatClampNeg))
     else
      xq_land_l4 n (v2 + 1) (v3 + 1) (mx_sa (mx_sa (mx_sa u 5 (v2).toNatClampNeg (mx_ga u 5 (v3).toNatClampNeg)) 6 (v2).toNatClampNeg (mx_ga (mx_sa u 5 (v2).toNatClampNeg (mx_ga u 5 (v3).toNatClampNeg)) 6 (v3).toNatClampNeg)) 7 (v2).toNatClampNeg (mx_ga (mx_sa (mx_sa u 5 (v2).toNatClampNeg (mx_ga u 5 (v3).toNatClampNeg)) 6 (v2).toNatClampNeg (mx_ga (mx_sa u 5 (v2).toNatClampNeg (mx_ga u 5 (v3).toNatClampNeg)) 6 (v3).toNatClampNeg)) 7 (v3).toNatClampNeg))
def q_xq_land_l4 (np nd : Nat) : Nat → Int32 → Int32 → mx_S → Prop
  | 0, _, _, _ => False
  | n + 1, v2, v3, u =>
    (((mx_gf u 4 3) ≤ v3) → 
     True) ∧ ((¬ ((mx_gf u 4 3) ≤ v3)) → 
     (vp_in v3 18) ∧ (
      ((¬ ((mx_ga u 7 (v3).toNatClampNeg) = 0)) → 
       (vp_in v3 18) ∧ (
        (vp_in v2 18) ∧ (
         (vp_in v3 18) ∧ (
          (vp_in v2 18) ∧ (
           (vp_in v3 18) ∧ (
            (vp_in v2 18) ∧ (
             q_xq_land_l4 np nd n (v2 + 1) (v3 + 1) (mx_sa (mx_sa (mx_sa u 5 (v2).toNatClampNeg (mx_ga u 5 (v3).toNatClampNeg)) 6 (v2).toNatClampNeg (mx_ga (mx_sa u 5 (v2).toNatClampNeg (mx_ga u 5 (v3).toNatClampNeg)) 6 (v3).toNatClampNeg)) 7 (v2).toNatClampNeg (mx_ga (mx_sa (mx_sa u 5 (v2).toNatClampNeg (mx_ga u 5 (v3).toNatClampNeg)) 6 (v2).toNatClampNeg (mx_ga (mx_sa u 5 (v2).toNatClampNeg (mx_ga u 5 (v3).toNatClampNeg)) 6 (v3).toNatClampNeg)) 7 (v3).toNatClampNeg))))))))) ∧ (((mx_ga u 7 (v3).toNatClampNeg) = 0) → 
       (vp_in v3 18) ∧ (
        (vp_in v3 18) ∧ (
         (vp_in (mx_ga u 5 (v3).toNatClampNeg) 32) ∧ (
          q_xq_land_l4 np nd n v2 (v3 + 1) (mx_sa u 3 ((mx_ga u 5 (v3).toNatClampNeg)).toNatClampNeg (mx_ga u 6 (v3).toNatClampNeg))))))))
def xq_land (u : mx_S) : mx_S :=
  xq_land_l4 20 0 0 u
def q_xq_land (np nd : Nat) (u : mx_S) : Prop :=
  q_xq_land_l4 np nd 20 0 0 u
def pre_xq_land (np nd : Nat) : List mx_V → mx_S → Prop := fun as u => as = [.inr (.inr 4), .inr (.inr 3)] ∧ q_xq_land np nd u
def fn_xq_land (np nd : Nat) : mx_F := fun as u => match as with
  | [_, _] => (none, (xq_land u))
  | _ => (none, u)
def tb_xq_land (np nd : Nat) : List (Nat × mx_T) := [
  (0, mx_iconst 0 0),
  (1, mx_istore_n 2 1),
  (2, mx_iconst 0 2),
  (3, mx_istore_n 3 3),
  (4, mx_iload_n 3 4),
  (5, mx_aload_n 0 5),
  (6, mx_getf (kx np nd) 1 3 6),
  (9, mx_icmp_ge 83 9),
  (12, mx_aload_n 0 12),
  (13, mx_getf (kx np nd) 1 2 13),
  (16, mx_iload_n 3 16),
  (17, mx_iald (kx np nd) 17),
  (18, mx_if_ne 38 18),
  (21, mx_aload_n 1 21),
  (22, mx_aload_n 0 22),
  (23, mx_getf (kx np nd) 1 0 23),
  (26, mx_iload_n 3 26),
  (27, mx_iald (kx np nd) 27),
  (28, mx_aload_n 0 28),
  (29, mx_getf (kx np nd) 1 1 29),
  (32, mx_iload_n 3 32),
  (33, mx_iald (kx np nd) 33),
  (34, mx_iast (kx np nd) 34),
  (35, mx_goto 77 35),
  (38, mx_aload_n 0 38),
  (39, mx_getf (kx np nd) 1 0 39),
  (42, mx_iload_n 2 42),
  (43, mx_aload_n 0 43),
  (44, mx_getf (kx np nd) 1 0 44),
  (47, mx_iload_n 3 47),
  (48, mx_iald (kx np nd) 48),
  (49, mx_iast (kx np nd) 49),
  (50, mx_aload_n 0 50),
  (51, mx_getf (kx np nd) 1 1 51),
  (54, mx_iload_n 2 54),
  (55, mx_aload_n 0 55),
  (56, mx_getf (kx np nd) 1 1 56),
  (59, mx_iload_n 3 59),
  (60, mx_iald (kx np nd) 60),
  (61, mx_iast (kx np nd) 61),
  (62, mx_aload_n 0 62),
  (63, mx_getf (kx np nd) 1 2 63),
  (66, mx_iload_n 2 66),
  (67, mx_aload_n 0 67),
  (68, mx_getf (kx np nd) 1 2 68),
  (71, mx_iload_n 3 71),
  (72, mx_iald (kx np nd) 72),
  (73, mx_iast (kx np nd) 73),
  (74, mx_iinc 2 1 74),
  (77, mx_iinc 3 1 77),
  (80, mx_goto 4 80),
  (83, mx_aload_n 0 83),
  (84, mx_iload_n 2 84),
  (85, mx_putf (kx np nd) 1 3 85),
  (88, mx_vret 88)]
set_option maxRecDepth 100000 in
set_option maxHeartbeats 4000000 in
theorem ok_xq_land (l : Launch) (np nd : Nat) : ∀ q ∈ tb_xq_land np nd , mx_Ok l ({ frames := 0, cells := 0, slots := 0, locals := 0 } : Room) b_xq_land 4 "WideMachine$Writes" none vw_T vw_cl (kx np nd) q.1 q.2 := by
  refine List.forall_mem_cons.mpr ⟨mx_ok_iconst (show decode b_xq_land 0 = .ok (.iconst 0, 1) by decide +kernel) (by decide), ?_⟩
  refine List.forall_mem_cons.mpr ⟨mx_ok_istore_n (show decode b_xq_land 1 = .ok (.istore_n 2, 1) by decide +kernel) rfl (by decide), ?_⟩
  refine List.forall_mem_cons.mpr ⟨mx_ok_iconst (show decode b_xq_land 2 = .ok (.iconst 0, 1) by decide +kernel) (by decide), ?_⟩
  refine List.forall_mem_cons.mpr ⟨mx_ok_istore_n (show decode b_xq_land 3 = .ok (.istore_n 3, 1) by decide +kernel) rfl (by decide), ?_⟩
  refine List.forall_mem_cons.mpr ⟨mx_ok_iload_n (show decode b_xq_land 4 = .ok (.iload_n 3, 1) by decide +kernel) rfl, ?_⟩
  refine List.forall_mem_cons.mpr ⟨mx_ok_aload_n (show decode b_xq_land 5 = .ok (.aload_n 0, 1) by decide +kernel) rfl, ?_⟩
  refine List.forall_mem_cons.mpr ⟨mx_ok_getf fd_xq_19 (show decode b_xq_land 6 = .ok (.getfield 19, 3) by decide +kernel), ?_⟩
  refine List.forall_mem_cons.mpr ⟨mx_ok_icmp_ge (show decode b_xq_land 9 = .ok (.if_icmp .ge 74, 3) by decide +kernel) (by decide), ?_⟩
  refine List.forall_mem_cons.mpr ⟨mx_ok_aload_n (show decode b_xq_land 12 = .ok (.aload_n 0, 1) by decide +kernel) rfl, ?_⟩
  refine List.forall_mem_cons.mpr ⟨mx_ok_getf fd_xq_16 (show decode b_xq_land 13 = .ok (.getfield 16, 3) by decide +kernel), ?_⟩
  refine List.forall_mem_cons.mpr ⟨mx_ok_iload_n (show decode b_xq_land 16 = .ok (.iload_n 3, 1) by decide +kernel) rfl, ?_⟩
  refine List.forall_mem_cons.mpr ⟨mx_ok_iald (show decode b_xq_land 17 = .ok (.iaload, 1) by decide +kernel), ?_⟩
  refine List.forall_mem_cons.mpr ⟨mx_ok_if_ne (show decode b_xq_land 18 = .ok (.ifCond .ne 20, 3) by decide +kernel) (by decide), ?_⟩
  refine List.forall_mem_cons.mpr ⟨mx_ok_aload_n (show decode b_xq_land 21 = .ok (.aload_n 1, 1) by decide +kernel) rfl, ?_⟩
  refine List.forall_mem_cons.mpr ⟨mx_ok_aload_n (show decode b_xq_land 22 = .ok (.aload_n 0, 1) by decide +kernel) rfl, ?_⟩
  refine List.forall_mem_cons.mpr ⟨mx_ok_getf fd_xq_9 (show decode b_xq_land 23 = .ok (.getfield 9, 3) by decide +kernel), ?_⟩
  refine List.forall_mem_cons.mpr ⟨mx_ok_iload_n (show decode b_xq_land 26 = .ok (.iload_n 3, 1) by decide +kernel) rfl, ?_⟩
  refine List.forall_mem_cons.mpr ⟨mx_ok_iald (show decode b_xq_land 27 = .ok (.iaload, 1) by decide +kernel), ?_⟩
  refine List.forall_mem_cons.mpr ⟨mx_ok_aload_n (show decode b_xq_land 28 = .ok (.aload_n 0, 1) by decide +kernel) rfl, ?_⟩
  refine List.forall_mem_cons.mpr ⟨mx_ok_getf fd_xq_13 (show decode b_xq_land 29 = .ok (.getfield 13, 3) by decide +kernel), ?_⟩
  refine List.forall_mem_cons.mpr ⟨mx_ok_iload_n (show decode b_xq_land 32 = .ok (.iload_n 3, 1) by decide +kernel) rfl, ?_⟩
  refine List.forall_mem_cons.mpr ⟨mx_ok_iald (show decode b_xq_land 33 = .ok (.iaload, 1) by decide +kernel), ?_⟩
  refine List.forall_mem_cons.mpr ⟨mx_ok_iast (show decode b_xq_land 34 = .ok (.iastore, 1) by decide +kernel), ?_⟩
  refine List.forall_mem_cons.mpr ⟨mx_ok_goto (show decode b_xq_land 35 = .ok (.goto 42, 3) by decide +kernel) (by decide), ?_⟩
  refine List.forall_mem_cons.mpr ⟨mx_ok_aload_n (show decode b_xq_land 38 = .ok (.aload_n 0, 1) by decide +kernel) rfl, ?_⟩
  refine List.forall_mem_cons.mpr ⟨mx_ok_getf fd_xq_9 (show decode b_xq_land 39 = .ok (.getfield 9, 3) by decide +kernel), ?_⟩
  refine List.forall_mem_cons.mpr ⟨mx_ok_iload_n (show decode b_xq_land 42 = .ok (.iload_n 2, 1) by decide +kernel) rfl, ?_⟩
  refine List.forall_mem_cons.mpr ⟨mx_ok_aload_n (show decode b_xq_land 43 = .ok (.aload_n 0, 1) by decide +kernel) rfl, ?_⟩
  refine List.forall_mem_cons.mpr ⟨mx_ok_getf fd_xq_9 (show decode b_xq_land 44 = .ok (.getfield 9, 3) by decide +kernel), ?_⟩
  refine List.forall_mem_cons.mpr ⟨mx_ok_iload_n (show decode b_xq_land 47 = .ok (.iload_n 3, 1) by decide +kernel) rfl, ?_⟩
  refine List.forall_mem_cons.mpr ⟨mx_ok_iald (show decode b_xq_land 48 = .ok (.iaload, 1) by decide +kernel), ?_⟩
  refine List.forall_mem_cons.mpr ⟨mx_ok_iast (show decode b_xq_land 49 = .ok (.iastore, 1) by decide +kernel), ?_⟩
  refine List.forall_mem_cons.mpr ⟨mx_ok_aload_n (show decode b_xq_land 50 = .ok (.aload_n 0, 1) by decide +kernel) rfl, ?_⟩
  refine List.forall_mem_cons.mpr ⟨mx_ok_getf fd_xq_13 (show decode b_xq_land 51 = .ok (.getfield 13, 3) by decide +kernel), ?_⟩
  refine List.forall_mem_cons.mpr ⟨mx_ok_iload_n (show decode b_xq_land 54 = .ok (.iload_n 2, 1) by decide +kernel) rfl, ?_⟩
  refine List.forall_mem_cons.mpr ⟨mx_ok_aload_n (show decode b_xq_land 55 = .ok (.aload_n 0, 1) by decide +kernel) rfl, ?_⟩
  refine List.forall_mem_cons.mpr ⟨mx_ok_getf fd_xq_13 (show decode b_xq_land 56 = .ok (.getfield 13, 3) by decide +kernel), ?_⟩
  refine List.forall_mem_cons.mpr ⟨mx_ok_iload_n (show decode b_xq_land 59 = .ok (.iload_n 3, 1) by decide +kernel) rfl, ?_⟩
  refine List.forall_mem_cons.mpr ⟨mx_ok_iald (show decode b_xq_land 60 = .ok (.iaload, 1) by decide +kernel), ?_⟩
  refine List.forall_mem_cons.mpr ⟨mx_ok_iast (show decode b_xq_land 61 = .ok (.iastore, 1) by decide +kernel), ?_⟩
  refine List.forall_mem_cons.mpr ⟨mx_ok_aload_n (show decode b_xq_land 62 = .ok (.aload_n 0, 1) by decide +kernel) rfl, ?_⟩
  refine List.forall_mem_cons.mpr ⟨mx_ok_getf fd_xq_16 (show decode b_xq_land 63 = .ok (.getfield 16, 3) by decide +kernel), ?_⟩
  refine List.forall_mem_cons.mpr ⟨mx_ok_iload_n (show decode b_xq_land 66 = .ok (.iload_n 2, 1) by decide +kernel) rfl, ?_⟩
  refine List.forall_mem_cons.mpr ⟨mx_ok_aload_n (show decode b_xq_land 67 = .ok (.aload_n 0, 1) by decide +kernel) rfl, ?_⟩
  refine List.forall_mem_cons.mpr ⟨mx_ok_getf fd_xq_16 (show decode b_xq_land 68 = .ok (.getfield 16, 3) by decide +kernel), ?_⟩
  refine List.forall_mem_cons.mpr ⟨mx_ok_iload_n (show decode b_xq_land 71 = .ok (.iload_n 3, 1) by decide +kernel) rfl, ?_⟩
  refine List.forall_mem_cons.mpr ⟨mx_ok_iald (show decode b_xq_land 72 = .ok (.iaload, 1) by decide +kernel), ?_⟩
  refine List.forall_mem_cons.mpr ⟨mx_ok_iast (show decode b_xq_land 73 = .ok (.iastore, 1) by decide +kernel), ?_⟩
  refine List.forall_mem_cons.mpr ⟨mx_ok_iinc (show decode b_xq_land 74 = .ok (.iinc 2 1, 3) by decide +kernel) (by decide) (by decide), ?_⟩
  refine List.forall_mem_cons.mpr ⟨mx_ok_iinc (show decode b_xq_land 77 = .ok (.iinc 3 1, 3) by decide +kernel) (by decide) (by decide), ?_⟩
  refine List.forall_mem_cons.mpr ⟨mx_ok_goto (show decode b_xq_land 80 = .ok (.goto (-76), 3) by decide +kernel) (by decide), ?_⟩
  refine List.forall_mem_cons.mpr ⟨mx_ok_aload_n (show decode b_xq_land 83 = .ok (.aload_n 0, 1) by decide +kernel) rfl, ?_⟩
  refine List.forall_mem_cons.mpr ⟨mx_ok_iload_n (show decode b_xq_land 84 = .ok (.iload_n 2, 1) by decide +kernel) rfl, ?_⟩
  refine List.forall_mem_cons.mpr ⟨mx_ok_putf fd_xq_19 fw_1_3 (show decode b_xq_land 85 = .ok (.putfield 19, 3) by decide +kernel), ?_⟩
  refine List.forall_mem_cons.mpr ⟨mx_ok_vret (show decode b_xq_land 88 = .ok (.return_, 1) by decide +kernel) rfl, ?_⟩
  exact fun _ h => absurd h List.not_mem_nil
set_option maxRecDepth 100000 in
set_option maxHeartbeats 4000000 in
theorem ct_xq_land (l : Launch) (np nd : Nat) : mx_Ct l vw_T vw_cl (kx np nd) { frames := 0, cells := 0, slots := 0, locals := 0 } y_xq_land b_xq_land 4 none (pre_xq_land np nd) (fn_xq_land np nd) := by
  refine mx_ct_of (tb_xq_land np nd ) (by decide) (ok_xq_land l np nd ) (fun as u h => by obtain ⟨rfl, -⟩ := h; exact Nat.le_of_ble_eq_true rfl) ?_
  intro as u hpre At hc hw
  obtain ⟨rfl, hp⟩ := hpre
  obtain ⟨RES, hRES⟩ : ∃ z, z = (xq_land u) := ⟨_, rfl⟩
  have hfn : fn_xq_land np nd [.inr (.inr 4), .inr (.inr 3)] u = (none, RES) := by rw [hRES]; rfl
  rw [hfn] at hc
  have lp4 : ∀ (n4 : Nat) (v2 : Int32) (v3 : Int32) (u : mx_S), q_xq_land_l4 np nd n4 v2 v3 u → xq_land_l4 n4 v2 v3 u = RES → At 4 [(2, .inl v2), (3, .inl v3), (0, .inr (.inr 4)), (1, .inr (.inr 3))] [] u := by
    intro n4
    induction n4 with
    | zero =>
      intro v2 v3 u hi he
      exact hi.elim
    | succ n4 ih4 =>
      intro v2 v3 u hi4 he4
      exact hc 200 [4] _ _ _ _ (
        And.intro (fun h9 => 
         And.intro rfl (
         congrArg (fun z : mx_S => ((none, z) : Option mx_V × mx_S)) (show (mx_sf u 4 3 v2) = RES from (if_pos h9).symm.trans he4))) (fun h9 => 
         And.intro ((hi4.2 h9).1) (
         And.intro (fun h18 => 
          And.intro (((hi4.2 h9).2.1 h18).1) (
          And.intro (((hi4.2 h9).2.1 h18).2.1) (
          And.intro (((hi4.2 h9).2.1 h18).2.2.1) (
          And.intro (((hi4.2 h9).2.1 h18).2.2.2.1) (
          And.intro (((hi4.2 h9).2.1 h18).2.2.2.2.1) (
          And.intro (((hi4.2 h9).2.1 h18).2.2.2.2.2.1) (
          hw [1, 0, 2, 3] _ _ _ _ (ih4 (v2 + 1) (v3 + 1) (mx_sa (mx_sa (mx_sa u 5 (v2).toNatClampNeg (mx_ga u 5 (v3).toNatClampNeg)) 6 (v2).toNatClampNeg (mx_ga (mx_sa u 5 (v2).toNatClampNeg (mx_ga u 5 (v3).toNatClampNeg)) 6 (v3).toNatClampNeg)) 7 (v2).toNatClampNeg (mx_ga (mx_sa (mx_sa u 5 (v2).toNatClampNeg (mx_ga u 5 (v3).toNatClampNeg)) 6 (v2).toNatClampNeg (mx_ga (mx_sa u 5 (v2).toNatClampNeg (mx_ga u 5 (v3).toNatClampNeg)) 6 (v3).toNatClampNeg)) 7 (v3).toNatClampNeg)) ((hi4.2 h9).2.1 h18).2.2.2.2.2.2 (((if_neg h9).trans (if_neg h18)).symm.trans he4))))))))) (fun h18 => 
          And.intro (((hi4.2 h9).2.2 h18).1) (
          And.intro (((hi4.2 h9).2.2 h18).2.1) (
          And.intro (((hi4.2 h9).2.2 h18).2.2.1) (
          hw [1, 0, 2, 3] _ _ _ _ (ih4 v2 (v3 + 1) (mx_sa u 3 ((mx_ga u 5 (v3).toNatClampNeg)).toNatClampNeg (mx_ga u 6 (v3).toNatClampNeg)) ((hi4.2 h9).2.2 h18).2.2.2 (((if_neg h9).trans (if_pos h18)).symm.trans he4)))))))))
  exact hc 200 [4] _ _ _ _ (
    hw [1, 0, 2, 3] _ _ _ _ (lp4 20 0 0 u hp ((rfl).symm.trans hRES.symm)))
/-! WideMachine$Branches.comeNearer()V -/
def xb_comeNearer_l2 : Nat → Int32 → mx_S → (mx_S)
  | 0, _, u => u
  | n + 1, v1, u =>
    if (mx_gf u 8 2) ≤ v1 then
     u
    else
     xb_comeNearer_l2 n (v1 + 1) (mx_sa u 10 (v1).toNatClampNeg ((mx_ga u 10 (v1).toNatClampNeg) - (1 : Int32)))
def q_xb_comeNearer_l2 (np nd : Nat) : Nat → Int32 → mx_S → Prop
  | 0, _, _ => False
  | n + 1, v1, u =>
    (((mx_gf u 8 2) ≤ v1) → 
     True) ∧ ((¬ ((mx_gf u 8 2) ≤ v1)) → 
     (vp_in v1 12) ∧ (
      (vp_in v1 12) ∧ (
       q_xb_comeNearer_l2 np nd n (v1 + 1) (mx_sa u 10 (v1).toNatClampNeg ((mx_ga u 10 (v1).toNatClampNeg) - (1 : Int32))))))
def xb_comeNearer (u : mx_S) : mx_S :=
  xb_comeNearer_l2 20 0 u
def q_xb_comeNearer (np nd : Nat) (u : mx_S) : Prop :=
  q_xb_comeNearer_l2 np nd 20 0 u
def pre_xb_comeNearer (np nd : Nat) : List mx_V → mx_S → Prop := fun as u => as = [.inr (.inr 8)] ∧ q_xb_comeNearer np nd u
def fn_xb_comeNearer (np nd : Nat) : mx_F := fun as u => match as with
  | [_] => (none, (xb_comeNearer u))
  | _ => (none, u)
def tb_xb_comeNearer (np nd : Nat) : List (Nat × mx_T) := [
  (0, mx_iconst 0 0),
  (1, mx_istore_n 1 1),
  (2, mx_iload_n 1 2),
  (3, mx_aload_n 0 3),
  (4, mx_getf (kx np nd) 2 2 4),
  (7, mx_icmp_ge 26 7),
  (10, mx_aload_n 0 10),
  (11, mx_getf (kx np nd) 2 1 11),
  (14, mx_iload_n 1 14),
  (15, mx_dup2 15),
  (16, mx_iald (kx np nd) 16),
  (17, mx_iconst 1 17),
  (18, mx_isub 18),
  (19, mx_iast (kx np nd) 19),
  (20, mx_iinc 1 1 20),
  (23, mx_goto 2 23),
  (26, mx_vret 26)]
set_option maxRecDepth 100000 in
set_option maxHeartbeats 4000000 in
theorem ok_xb_comeNearer (l : Launch) (np nd : Nat) : ∀ q ∈ tb_xb_comeNearer np nd , mx_Ok l ({ frames := 0, cells := 0, slots := 0, locals := 0 } : Room) b_xb_comeNearer 2 "WideMachine$Branches" none vw_T vw_cl (kx np nd) q.1 q.2 := by
  refine List.forall_mem_cons.mpr ⟨mx_ok_iconst (show decode b_xb_comeNearer 0 = .ok (.iconst 0, 1) by decide +kernel) (by decide), ?_⟩
  refine List.forall_mem_cons.mpr ⟨mx_ok_istore_n (show decode b_xb_comeNearer 1 = .ok (.istore_n 1, 1) by decide +kernel) rfl (by decide), ?_⟩
  refine List.forall_mem_cons.mpr ⟨mx_ok_iload_n (show decode b_xb_comeNearer 2 = .ok (.iload_n 1, 1) by decide +kernel) rfl, ?_⟩
  refine List.forall_mem_cons.mpr ⟨mx_ok_aload_n (show decode b_xb_comeNearer 3 = .ok (.aload_n 0, 1) by decide +kernel) rfl, ?_⟩
  refine List.forall_mem_cons.mpr ⟨mx_ok_getf fd_xb_16 (show decode b_xb_comeNearer 4 = .ok (.getfield 16, 3) by decide +kernel), ?_⟩
  refine List.forall_mem_cons.mpr ⟨mx_ok_icmp_ge (show decode b_xb_comeNearer 7 = .ok (.if_icmp .ge 19, 3) by decide +kernel) (by decide), ?_⟩
  refine List.forall_mem_cons.mpr ⟨mx_ok_aload_n (show decode b_xb_comeNearer 10 = .ok (.aload_n 0, 1) by decide +kernel) rfl, ?_⟩
  refine List.forall_mem_cons.mpr ⟨mx_ok_getf fd_xb_13 (show decode b_xb_comeNearer 11 = .ok (.getfield 13, 3) by decide +kernel), ?_⟩
  refine List.forall_mem_cons.mpr ⟨mx_ok_iload_n (show decode b_xb_comeNearer 14 = .ok (.iload_n 1, 1) by decide +kernel) rfl, ?_⟩
  refine List.forall_mem_cons.mpr ⟨mx_ok_dup2 (show decode b_xb_comeNearer 15 = .ok (.dup2, 1) by decide +kernel), ?_⟩
  refine List.forall_mem_cons.mpr ⟨mx_ok_iald (show decode b_xb_comeNearer 16 = .ok (.iaload, 1) by decide +kernel), ?_⟩
  refine List.forall_mem_cons.mpr ⟨mx_ok_iconst (show decode b_xb_comeNearer 17 = .ok (.iconst 1, 1) by decide +kernel) (by decide), ?_⟩
  refine List.forall_mem_cons.mpr ⟨mx_ok_isub (show decode b_xb_comeNearer 18 = .ok (.isub, 1) by decide +kernel), ?_⟩
  refine List.forall_mem_cons.mpr ⟨mx_ok_iast (show decode b_xb_comeNearer 19 = .ok (.iastore, 1) by decide +kernel), ?_⟩
  refine List.forall_mem_cons.mpr ⟨mx_ok_iinc (show decode b_xb_comeNearer 20 = .ok (.iinc 1 1, 3) by decide +kernel) (by decide) (by decide), ?_⟩
  refine List.forall_mem_cons.mpr ⟨mx_ok_goto (show decode b_xb_comeNearer 23 = .ok (.goto (-21), 3) by decide +kernel) (by decide), ?_⟩
  refine List.forall_mem_cons.mpr ⟨mx_ok_vret (show decode b_xb_comeNearer 26 = .ok (.return_, 1) by decide +kernel) rfl, ?_⟩
  exact fun _ h => absurd h List.not_mem_nil
set_option maxRecDepth 100000 in
set_option maxHeartbeats 4000000 in
theorem ct_xb_comeNearer (l : Launch) (np nd : Nat) : mx_Ct l vw_T vw_cl (kx np nd) { frames := 0, cells := 0, slots := 0, locals := 0 } y_xb_comeNearer b_xb_comeNearer 2 none (pre_xb_comeNearer np nd) (fn_xb_comeNearer np nd) := by
  refine mx_ct_of (tb_xb_comeNearer np nd ) (by decide) (ok_xb_comeNearer l np nd ) (fun as u h => by obtain ⟨rfl, -⟩ := h; exact Nat.le_of_ble_eq_true rfl) ?_
  intro as u hpre At hc hw
  obtain ⟨rfl, hp⟩ := hpre
  obtain ⟨RES, hRES⟩ : ∃ z, z = (xb_comeNearer u) := ⟨_, rfl⟩
  have hfn : fn_xb_comeNearer np nd [.inr (.inr 8)] u = (none, RES) := by rw [hRES]; rfl
  rw [hfn] at hc
  have lp2 : ∀ (n2 : Nat) (v1 : Int32) (u : mx_S), q_xb_comeNearer_l2 np nd n2 v1 u → xb_comeNearer_l2 n2 v1 u = RES → At 2 [(1, .inl v1), (0, .inr (.inr 8))] [] u := by
    intro n2
    induction n2 with
    | zero =>
      intro v1 u hi he
      exact hi.elim
    | succ n2 ih2 =>
      intro v1 u hi2 he2
      exact hc 200 [2] _ _ _ _ (
        And.intro (fun h7 => 
         congrArg (fun z : mx_S => ((none, z) : Option mx_V × mx_S)) (show u = RES from (if_pos h7).symm.trans he2)) (fun h7 => 
         And.intro ((hi2.2 h7).1) (
         And.intro ((hi2.2 h7).2.1) (
         hw [0, 1] _ _ _ _ (ih2 (v1 + 1) (mx_sa u 10 (v1).toNatClampNeg ((mx_ga u 10 (v1).toNatClampNeg) - (1 : Int32))) (hi2.2 h7).2.2 ((if_neg h7).symm.trans he2))))))
  exact hc 200 [2] _ _ _ _ (
    hw [0, 1] _ _ _ _ (lp2 20 0 u hp ((rfl).symm.trans hRES.symm)))
/-! WideMachine$Branches.arrived()I -/
def xb_arrived_l2 (u : mx_S) : Nat → Int32 → (Int32)
  | 0, _ => 0
  | n + 1, v1 =>
    if (mx_gf u 8 2) ≤ v1 then
     v1
    else
     if (mx_ga u 10 (v1).toNatClampNeg) = 0 then
      xb_arrived_l2 u n (v1 + 1)
     else
      v1
def q_xb_arrived_l2 (np nd : Nat) (u : mx_S) : Nat → Int32 → Prop
  | 0, _ => False
  | n + 1, v1 =>
    (((mx_gf u 8 2) ≤ v1) → 
     True) ∧ ((¬ ((mx_gf u 8 2) ≤ v1)) → 
     (vp_in v1 12) ∧ (
      ((¬ ((mx_ga u 10 (v1).toNatClampNeg) = 0)) → 
       True) ∧ (((mx_ga u 10 (v1).toNatClampNeg) = 0) → 
       q_xb_arrived_l2 np nd u n (v1 + 1))))
def xb_arrived (u : mx_S) : Int32 :=
  xb_arrived_l2 u 20 0
def q_xb_arrived (np nd : Nat) (u : mx_S) : Prop :=
  q_xb_arrived_l2 np nd u 20 0
def pre_xb_arrived (np nd : Nat) : List mx_V → mx_S → Prop := fun as u => as = [.inr (.inr 8)] ∧ q_xb_arrived np nd u
def fn_xb_arrived (np nd : Nat) : mx_F := fun as u => match as with
  | [_] => mx_rI u (xb_arrived u)
  | _ => (none, u)
def tb_xb_arrived (np nd : Nat) : List (Nat × mx_T) := [
  (0, mx_iconst 0 0),
  (1, mx_istore_n 1 1),
  (2, mx_iload_n 1 2),
  (3, mx_aload_n 0 3),
  (4, mx_getf (kx np nd) 2 2 4),
  (7, mx_icmp_ge 25 7),
  (10, mx_aload_n 0 10),
  (11, mx_getf (kx np nd) 2 1 11),
  (14, mx_iload_n 1 14),
  (15, mx_iald (kx np nd) 15),
  (16, mx_if_ne 25 16),
  (19, mx_iinc 1 1 19),
  (22, mx_goto 2 22),
  (25, mx_iload_n 1 25),
  (26, mx_iret 26)]
set_option maxRecDepth 100000 in
set_option maxHeartbeats 4000000 in
theorem ok_xb_arrived (l : Launch) (np nd : Nat) : ∀ q ∈ tb_xb_arrived np nd , mx_Ok l ({ frames := 0, cells := 0, slots := 0, locals := 0 } : Room) b_xb_arrived 2 "WideMachine$Branches" (some .int) vw_T vw_cl (kx np nd) q.1 q.2 := by
  refine List.forall_mem_cons.mpr ⟨mx_ok_iconst (show decode b_xb_arrived 0 = .ok (.iconst 0, 1) by decide +kernel) (by decide), ?_⟩
  refine List.forall_mem_cons.mpr ⟨mx_ok_istore_n (show decode b_xb_arrived 1 = .ok (.istore_n 1, 1) by decide +kernel) rfl (by decide), ?_⟩
  refine List.forall_mem_cons.mpr ⟨mx_ok_iload_n (show decode b_xb_arrived 2 = .ok (.iload_n 1, 1) by decide +kernel) rfl, ?_⟩
  refine List.forall_mem_cons.mpr ⟨mx_ok_aload_n (show decode b_xb_arrived 3 = .ok (.aload_n 0, 1) by decide +kernel) rfl, ?_⟩
  refine List.forall_mem_cons.mpr ⟨mx_ok_getf fd_xb_16 (show decode b_xb_arrived 4 = .ok (.getfield 16, 3) by decide +kernel), ?_⟩
  refine List.forall_mem_cons.mpr ⟨mx_ok_icmp_ge (show decode b_xb_arrived 7 = .ok (.if_icmp .ge 18, 3) by decide +kernel) (by decide), ?_⟩
  refine List.forall_mem_cons.mpr ⟨mx_ok_aload_n (show decode b_xb_arrived 10 = .ok (.aload_n 0, 1) by decide +kernel) rfl, ?_⟩
  refine List.forall_mem_cons.mpr ⟨mx_ok_getf fd_xb_13 (show decode b_xb_arrived 11 = .ok (.getfield 13, 3) by decide +kernel), ?_⟩
  refine List.forall_mem_cons.mpr ⟨mx_ok_iload_n (show decode b_xb_arrived 14 = .ok (.iload_n 1, 1) by decide +kernel) rfl, ?_⟩
  refine List.forall_mem_cons.mpr ⟨mx_ok_iald (show decode b_xb_arrived 15 = .ok (.iaload, 1) by decide +kernel), ?_⟩
  refine List.forall_mem_cons.mpr ⟨mx_ok_if_ne (show decode b_xb_arrived 16 = .ok (.ifCond .ne 9, 3) by decide +kernel) (by decide), ?_⟩
  refine List.forall_mem_cons.mpr ⟨mx_ok_iinc (show decode b_xb_arrived 19 = .ok (.iinc 1 1, 3) by decide +kernel) (by decide) (by decide), ?_⟩
  refine List.forall_mem_cons.mpr ⟨mx_ok_goto (show decode b_xb_arrived 22 = .ok (.goto (-20), 3) by decide +kernel) (by decide), ?_⟩
  refine List.forall_mem_cons.mpr ⟨mx_ok_iload_n (show decode b_xb_arrived 25 = .ok (.iload_n 1, 1) by decide +kernel) rfl, ?_⟩
  refine List.forall_mem_cons.mpr ⟨mx_ok_iret (show decode b_xb_arrived 26 = .ok (.ireturn, 1) by decide +kernel) rfl, ?_⟩
  exact fun _ h => absurd h List.not_mem_nil
set_option maxRecDepth 100000 in
set_option maxHeartbeats 4000000 in
theorem ct_xb_arrived (l : Launch) (np nd : Nat) : mx_Ct l vw_T vw_cl (kx np nd) { frames := 0, cells := 0, slots := 0, locals := 0 } y_xb_arrived b_xb_arrived 2 (some .int) (pre_xb_arrived np nd) (fn_xb_arrived np nd) := by
  refine mx_ct_of (tb_xb_arrived np nd ) (by decide) (ok_xb_arrived l np nd ) (fun as u h => by obtain ⟨rfl, -⟩ := h; exact Nat.le_of_ble_eq_true rfl) ?_
  intro as u hpre At hc hw
  obtain ⟨rfl, hp⟩ := hpre
  obtain ⟨RES, hRES⟩ : ∃ z, z = (xb_arrived u) := ⟨_, rfl⟩
  have hfn : fn_xb_arrived np nd [.inr (.inr 8)] u = mx_rI u RES := by rw [hRES]; rfl
  rw [hfn] at hc
  have lp2 : ∀ (n2 : Nat) (v1 : Int32), q_xb_arrived_l2 np nd u n2 v1 → xb_arrived_l2 u n2 v1 = RES → At 2 [(1, .inl v1), (0, .inr (.inr 8))] [] u := by
    intro n2
    induction n2 with
    | zero =>
      intro v1 hi he
      exact hi.elim
    | succ n2 ih2 =>
      intro v1 hi2 he2
      exact hc 200 [2] _ _ _ _ (
        And.intro (fun h7 => 
         congrArg (mx_rI u) (show v1 = RES from (if_pos h7).symm.trans he2)) (fun h7 => 
         And.intro ((hi2.2 h7).1) (
         And.intro (fun h16 => 
          congrArg (mx_rI u) (show v1 = RES from ((if_neg h7).trans (if_neg h16)).symm.trans he2)) (fun h16 => 
          hw [0, 1] _ _ _ _ (ih2 (v1 + 1) ((hi2.2 h7).2.2 h16) (((if_neg h7).trans (if_pos h16)).symm.trans he2))))))
  exact hc 200 [2] _ _ _ _ (
    hw [0, 1] _ _ _ _ (lp2 20 0 hp ((rfl).symm.trans hRES.symm)))
/-! WideMachine$Branches.takeFirst()I -/
def xb_takeFirst_l9 : Nat → Int32 → Int32 → mx_S → (Int32 × mx_S)
  | 0, _, _, u => (0, u)
  | n + 1, v1, v2, u =>
    if (mx_gf u 8 2) ≤ v2 then
     (v1, (mx_sf u 8 2 ((mx_gf u 8 2) - (1 : Int32))))
    else
     xb_takeFirst_l9 n v1 (v2 + 1) (mx_sa (mx_sa u 9 ((v2 - (1 : Int32))).toNatClampNeg (mx_ga u 9 (v2).toNatClampNeg)) 10 ((v2 - (1 : Int32))).toNatClampNeg (mx_ga (mx_sa u 9 ((v2 - (1 : Int32))).toNatClampNeg (mx_ga u 9 (v2).toNatClampNeg)) 10 (v2).toNatClampNeg))
def q_xb_takeFirst_l9 (np nd : Nat) : Nat → Int32 → Int32 → mx_S → Prop
  | 0, _, _, _ => False
  | n + 1, v1, v2, u =>
    (((mx_gf u 8 2) ≤ v2) → 
     True) ∧ ((¬ ((mx_gf u 8 2) ≤ v2)) → 
     (vp_in v2 12) ∧ (
      (vp_in (v2 - (1 : Int32)) 12) ∧ (
       (vp_in v2 12) ∧ (
        (vp_in (v2 - (1 : Int32)) 12) ∧ (
         q_xb_takeFirst_l9 np nd n v1 (v2 + 1) (mx_sa (mx_sa u 9 ((v2 - (1 : Int32))).toNatClampNeg (mx_ga u 9 (v2).toNatClampNeg)) 10 ((v2 - (1 : Int32))).toNatClampNeg (mx_ga (mx_sa u 9 ((v2 - (1 : Int32))).toNatClampNeg (mx_ga u 9 (v2).toNatClampNeg)) 10 (v2).toNatClampNeg)))))))
def xb_takeFirst (u : mx_S) : Int32 × mx_S :=
  xb_takeFirst_l9 20 (mx_ga u 9 ((0 : Int32)).toNatClampNeg) 1 u
def q_xb_takeFirst (np nd : Nat) (u : mx_S) : Prop :=
  q_xb_takeFirst_l9 np nd 20 (mx_ga u 9 ((0 : Int32)).toNatClampNeg) 1 u
def pre_xb_takeFirst (np nd : Nat) : List mx_V → mx_S → Prop := fun as u => as = [.inr (.inr 8)] ∧ q_xb_takeFirst np nd u
def fn_xb_takeFirst (np nd : Nat) : mx_F := fun as u => match as with
  | [_] => mx_rB (xb_takeFirst u)
  | _ => (none, u)
def tb_xb_takeFirst (np nd : Nat) : List (Nat × mx_T) := [
  (0, mx_aload_n 0 0),
  (1, mx_getf (kx np nd) 2 0 1),
  (4, mx_iconst 0 4),
  (5, mx_iald (kx np nd) 5),
  (6, mx_istore_n 1 6),
  (7, mx_iconst 1 7),
  (8, mx_istore_n 2 8),
  (9, mx_iload_n 2 9),
  (10, mx_aload_n 0 10),
  (11, mx_getf (kx np nd) 2 2 11),
  (14, mx_icmp_ge 51 14),
  (17, mx_aload_n 0 17),
  (18, mx_getf (kx np nd) 2 0 18),
  (21, mx_iload_n 2 21),
  (22, mx_iconst 1 22),
  (23, mx_isub 23),
  (24, mx_aload_n 0 24),
  (25, mx_getf (kx np nd) 2 0 25),
  (28, mx_iload_n 2 28),
  (29, mx_iald (kx np nd) 29),
  (30, mx_iast (kx np nd) 30),
  (31, mx_aload_n 0 31),
  (32, mx_getf (kx np nd) 2 1 32),
  (35, mx_iload_n 2 35),
  (36, mx_iconst 1 36),
  (37, mx_isub 37),
  (38, mx_aload_n 0 38),
  (39, mx_getf (kx np nd) 2 1 39),
  (42, mx_iload_n 2 42),
  (43, mx_iald (kx np nd) 43),
  (44, mx_iast (kx np nd) 44),
  (45, mx_iinc 2 1 45),
  (48, mx_goto 9 48),
  (51, mx_aload_n 0 51),
  (52, mx_dup 52),
  (53, mx_getf (kx np nd) 2 2 53),
  (56, mx_iconst 1 56),
  (57, mx_isub 57),
  (58, mx_putf (kx np nd) 2 2 58),
  (61, mx_iload_n 1 61),
  (62, mx_iret 62)]
set_option maxRecDepth 100000 in
set_option maxHeartbeats 4000000 in
theorem ok_xb_takeFirst (l : Launch) (np nd : Nat) : ∀ q ∈ tb_xb_takeFirst np nd , mx_Ok l ({ frames := 0, cells := 0, slots := 0, locals := 0 } : Room) b_xb_takeFirst 3 "WideMachine$Branches" (some .int) vw_T vw_cl (kx np nd) q.1 q.2 := by
  refine List.forall_mem_cons.mpr ⟨mx_ok_aload_n (show decode b_xb_takeFirst 0 = .ok (.aload_n 0, 1) by decide +kernel) rfl, ?_⟩
  refine List.forall_mem_cons.mpr ⟨mx_ok_getf fd_xb_9 (show decode b_xb_takeFirst 1 = .ok (.getfield 9, 3) by decide +kernel), ?_⟩
  refine List.forall_mem_cons.mpr ⟨mx_ok_iconst (show decode b_xb_takeFirst 4 = .ok (.iconst 0, 1) by decide +kernel) (by decide), ?_⟩
  refine List.forall_mem_cons.mpr ⟨mx_ok_iald (show decode b_xb_takeFirst 5 = .ok (.iaload, 1) by decide +kernel), ?_⟩
  refine List.forall_mem_cons.mpr ⟨mx_ok_istore_n (show decode b_xb_takeFirst 6 = .ok (.istore_n 1, 1) by decide +kernel) rfl (by decide), ?_⟩
  refine List.forall_mem_cons.mpr ⟨mx_ok_iconst (show decode b_xb_takeFirst 7 = .ok (.iconst 1, 1) by decide +kernel) (by decide), ?_⟩
  refine List.forall_mem_cons.mpr ⟨mx_ok_istore_n (show decode b_xb_takeFirst 8 = .ok (.istore_n 2, 1) by decide +kernel) rfl (by decide), ?_⟩
  refine List.forall_mem_cons.mpr ⟨mx_ok_iload_n (show decode b_xb_takeFirst 9 = .ok (.iload_n 2, 1) by decide +kernel) rfl, ?_⟩
  refine List.forall_mem_cons.mpr ⟨mx_ok_aload_n (show decode b_xb_takeFirst 10 = .ok (.aload_n 0, 1) by decide +kernel) rfl, ?_⟩
  refine List.forall_mem_cons.mpr ⟨mx_ok_getf fd_xb_16 (show decode b_xb_takeFirst 11 = .ok (.getfield 16, 3) by decide +kernel), ?_⟩
  refine List.forall_mem_cons.mpr ⟨mx_ok_icmp_ge (show decode b_xb_takeFirst 14 = .ok (.if_icmp .ge 37, 3) by decide +kernel) (by decide), ?_⟩
  refine List.forall_mem_cons.mpr ⟨mx_ok_aload_n (show decode b_xb_takeFirst 17 = .ok (.aload_n 0, 1) by decide +kernel) rfl, ?_⟩
  refine List.forall_mem_cons.mpr ⟨mx_ok_getf fd_xb_9 (show decode b_xb_takeFirst 18 = .ok (.getfield 9, 3) by decide +kernel), ?_⟩
  refine List.forall_mem_cons.mpr ⟨mx_ok_iload_n (show decode b_xb_takeFirst 21 = .ok (.iload_n 2, 1) by decide +kernel) rfl, ?_⟩
  refine List.forall_mem_cons.mpr ⟨mx_ok_iconst (show decode b_xb_takeFirst 22 = .ok (.iconst 1, 1) by decide +kernel) (by decide), ?_⟩
  refine List.forall_mem_cons.mpr ⟨mx_ok_isub (show decode b_xb_takeFirst 23 = .ok (.isub, 1) by decide +kernel), ?_⟩
  refine List.forall_mem_cons.mpr ⟨mx_ok_aload_n (show decode b_xb_takeFirst 24 = .ok (.aload_n 0, 1) by decide +kernel) rfl, ?_⟩
  refine List.forall_mem_cons.mpr ⟨mx_ok_getf fd_xb_9 (show decode b_xb_takeFirst 25 = .ok (.getfield 9, 3) by decide +kernel), ?_⟩
  refine List.forall_mem_cons.mpr ⟨mx_ok_iload_n (show decode b_xb_takeFirst 28 = .ok (.iload_n 2, 1) by decide +kernel) rfl, ?_⟩
  refine List.forall_mem_cons.mpr ⟨mx_ok_iald (show decode b_xb_takeFirst 29 = .ok (.iaload, 1) by decide +kernel), ?_⟩
  refine List.forall_mem_cons.mpr ⟨mx_ok_iast (show decode b_xb_takeFirst 30 = .ok (.iastore, 1) by decide +kernel), ?_⟩
  refine List.forall_mem_cons.mpr ⟨mx_ok_aload_n (show decode b_xb_takeFirst 31 = .ok (.aload_n 0, 1) by decide +kernel) rfl, ?_⟩
  refine List.forall_mem_cons.mpr ⟨mx_ok_getf fd_xb_13 (show decode b_xb_takeFirst 32 = .ok (.getfield 13, 3) by decide +kernel), ?_⟩
  refine List.forall_mem_cons.mpr ⟨mx_ok_iload_n (show decode b_xb_takeFirst 35 = .ok (.iload_n 2, 1) by decide +kernel) rfl, ?_⟩
  refine List.forall_mem_cons.mpr ⟨mx_ok_iconst (show decode b_xb_takeFirst 36 = .ok (.iconst 1, 1) by decide +kernel) (by decide), ?_⟩
  refine List.forall_mem_cons.mpr ⟨mx_ok_isub (show decode b_xb_takeFirst 37 = .ok (.isub, 1) by decide +kernel), ?_⟩
  refine List.forall_mem_cons.mpr ⟨mx_ok_aload_n (show decode b_xb_takeFirst 38 = .ok (.aload_n 0, 1) by decide +kernel) rfl, ?_⟩
  refine List.forall_mem_cons.mpr ⟨mx_ok_getf fd_xb_13 (show decode b_xb_takeFirst 39 = .ok (.getfield 13, 3) by decide +kernel), ?_⟩
  refine List.forall_mem_cons.mpr ⟨mx_ok_iload_n (show decode b_xb_takeFirst 42 = .ok (.iload_n 2, 1) by decide +kernel) rfl, ?_⟩
  refine List.forall_mem_cons.mpr ⟨mx_ok_iald (show decode b_xb_takeFirst 43 = .ok (.iaload, 1) by decide +kernel), ?_⟩
  refine List.forall_mem_cons.mpr ⟨mx_ok_iast (show decode b_xb_takeFirst 44 = .ok (.iastore, 1) by decide +kernel), ?_⟩
  refine List.forall_mem_cons.mpr ⟨mx_ok_iinc (show decode b_xb_takeFirst 45 = .ok (.iinc 2 1, 3) by decide +kernel) (by decide) (by decide), ?_⟩
  refine List.forall_mem_cons.mpr ⟨mx_ok_goto (show decode b_xb_takeFirst 48 = .ok (.goto (-39), 3) by decide +kernel) (by decide), ?_⟩
  refine List.forall_mem_cons.mpr ⟨mx_ok_aload_n (show decode b_xb_takeFirst 51 = .ok (.aload_n 0, 1) by decide +kernel) rfl, ?_⟩
  refine List.forall_mem_cons.mpr ⟨mx_ok_dup (show decode b_xb_takeFirst 52 = .ok (.dup, 1) by decide +kernel), ?_⟩
  refine List.forall_mem_cons.mpr ⟨mx_ok_getf fd_xb_16 (show decode b_xb_takeFirst 53 = .ok (.getfield 16, 3) by decide +kernel), ?_⟩
  refine List.forall_mem_cons.mpr ⟨mx_ok_iconst (show decode b_xb_takeFirst 56 = .ok (.iconst 1, 1) by decide +kernel) (by decide), ?_⟩
  refine List.forall_mem_cons.mpr ⟨mx_ok_isub (show decode b_xb_takeFirst 57 = .ok (.isub, 1) by decide +kernel), ?_⟩
  refine List.forall_mem_cons.mpr ⟨mx_ok_putf fd_xb_16 fw_2_2 (show decode b_xb_takeFirst 58 = .ok (.putfield 16, 3) by decide +kernel), ?_⟩
  refine List.forall_mem_cons.mpr ⟨mx_ok_iload_n (show decode b_xb_takeFirst 61 = .ok (.iload_n 1, 1) by decide +kernel) rfl, ?_⟩
  refine List.forall_mem_cons.mpr ⟨mx_ok_iret (show decode b_xb_takeFirst 62 = .ok (.ireturn, 1) by decide +kernel) rfl, ?_⟩
  exact fun _ h => absurd h List.not_mem_nil
set_option maxRecDepth 100000 in
set_option maxHeartbeats 4000000 in
theorem ct_xb_takeFirst (l : Launch) (np nd : Nat) : mx_Ct l vw_T vw_cl (kx np nd) { frames := 0, cells := 0, slots := 0, locals := 0 } y_xb_takeFirst b_xb_takeFirst 3 (some .int) (pre_xb_takeFirst np nd) (fn_xb_takeFirst np nd) := by
  refine mx_ct_of (tb_xb_takeFirst np nd ) (by decide) (ok_xb_takeFirst l np nd ) (fun as u h => by obtain ⟨rfl, -⟩ := h; exact Nat.le_of_ble_eq_true rfl) ?_
  intro as u hpre At hc hw
  obtain ⟨rfl, hp⟩ := hpre
  obtain ⟨RES, hRES⟩ : ∃ z, z = (xb_takeFirst u) := ⟨_, rfl⟩
  have hfn : fn_xb_takeFirst np nd [.inr (.inr 8)] u = mx_rB RES := by rw [hRES]; rfl
  rw [hfn] at hc
  have lp9 : ∀ (n9 : Nat) (v1 : Int32) (v2 : Int32) (u : mx_S), q_xb_takeFirst_l9 np nd n9 v1 v2 u → xb_takeFirst_l9 n9 v1 v2 u = RES → At 9 [(1, .inl v1), (2, .inl v2), (0, .inr (.inr 8))] [] u := by
    intro n9
    induction n9 with
    | zero =>
      intro v1 v2 u hi he
      exact hi.elim
    | succ n9 ih9 =>
      intro v1 v2 u hi9 he9
      exact hc 200 [9] _ _ _ _ (
        And.intro (fun h14 => 
         And.intro rfl (
         congrArg mx_rB (show (v1, (mx_sf u 8 2 ((mx_gf u 8 2) - (1 : Int32)))) = RES from (if_pos h14).symm.trans he9))) (fun h14 => 
         And.intro ((hi9.2 h14).1) (
         And.intro ((hi9.2 h14).2.1) (
         And.intro ((hi9.2 h14).2.2.1) (
         And.intro ((hi9.2 h14).2.2.2.1) (
         hw [1, 0, 2] _ _ _ _ (ih9 v1 (v2 + 1) (mx_sa (mx_sa u 9 ((v2 - (1 : Int32))).toNatClampNeg (mx_ga u 9 (v2).toNatClampNeg)) 10 ((v2 - (1 : Int32))).toNatClampNeg (mx_ga (mx_sa u 9 ((v2 - (1 : Int32))).toNatClampNeg (mx_ga u 9 (v2).toNatClampNeg)) 10 (v2).toNatClampNeg)) (hi9.2 h14).2.2.2.2 ((if_neg h14).symm.trans he9))))))))
  exact hc 200 [9] _ _ _ _ (
    And.intro (mx_in0 (by decide)) (
    hw [1, 0, 2] _ _ _ _ (lp9 20 (mx_ga u 9 ((0 : Int32)).toNatClampNeg) 1 u hp ((rfl).symm.trans hRES.symm))))
/-! WideMachine$Branches.add(I)V -/
def xb_add (a1 : Int32) (u : mx_S) : mx_S :=
  if 12 ≤ (mx_gf u 8 2) then
   u
  else
   (mx_sf (mx_sa (mx_sa u 9 ((mx_gf u 8 2)).toNatClampNeg a1) 10 ((mx_gf (mx_sa u 9 ((mx_gf u 8 2)).toNatClampNeg a1) 8 2)).toNatClampNeg 6) 8 2 ((mx_gf (mx_sa (mx_sa u 9 ((mx_gf u 8 2)).toNatClampNeg a1) 10 ((mx_gf (mx_sa u 9 ((mx_gf u 8 2)).toNatClampNeg a1) 8 2)).toNatClampNeg 6) 8 2) + (1 : Int32)))
def q_xb_add (np nd : Nat) (a1 : Int32) (u : mx_S) : Prop :=
  ((12 ≤ (mx_gf u 8 2)) → 
   True) ∧ ((¬ (12 ≤ (mx_gf u 8 2))) → 
   (vp_in (mx_gf u 8 2) 12) ∧ (
    (vp_in (mx_gf (mx_sa u 9 ((mx_gf u 8 2)).toNatClampNeg a1) 8 2) 12)))
def pre_xb_add (np nd : Nat) : List mx_V → mx_S → Prop := fun as u => ∃ (a1 : Int32), as = [.inr (.inr 8), .inl a1] ∧ q_xb_add np nd a1 u
def fn_xb_add (np nd : Nat) : mx_F := fun as u => match as with
  | [_, .inl a1] => (none, (xb_add a1 u))
  | _ => (none, u)
def tb_xb_add (np nd : Nat) : List (Nat × mx_T) := [
  (0, mx_aload_n 0 0),
  (1, mx_getf (kx np nd) 2 2 1),
  (4, mx_bipush 12 4),
  (6, mx_icmp_ge 40 6),
  (9, mx_aload_n 0 9),
  (10, mx_getf (kx np nd) 2 0 10),
  (13, mx_aload_n 0 13),
  (14, mx_getf (kx np nd) 2 2 14),
  (17, mx_iload_n 1 17),
  (18, mx_iast (kx np nd) 18),
  (19, mx_aload_n 0 19),
  (20, mx_getf (kx np nd) 2 1 20),
  (23, mx_aload_n 0 23),
  (24, mx_getf (kx np nd) 2 2 24),
  (27, mx_bipush 6 27),
  (29, mx_iast (kx np nd) 29),
  (30, mx_aload_n 0 30),
  (31, mx_dup 31),
  (32, mx_getf (kx np nd) 2 2 32),
  (35, mx_iconst 1 35),
  (36, mx_iadd 36),
  (37, mx_putf (kx np nd) 2 2 37),
  (40, mx_vret 40)]
set_option maxRecDepth 100000 in
set_option maxHeartbeats 4000000 in
theorem ok_xb_add (l : Launch) (np nd : Nat) : ∀ q ∈ tb_xb_add np nd , mx_Ok l ({ frames := 0, cells := 0, slots := 0, locals := 0 } : Room) b_xb_add 2 "WideMachine$Branches" none vw_T vw_cl (kx np nd) q.1 q.2 := by
  refine List.forall_mem_cons.mpr ⟨mx_ok_aload_n (show decode b_xb_add 0 = .ok (.aload_n 0, 1) by decide +kernel) rfl, ?_⟩
  refine List.forall_mem_cons.mpr ⟨mx_ok_getf fd_xb_16 (show decode b_xb_add 1 = .ok (.getfield 16, 3) by decide +kernel), ?_⟩
  refine List.forall_mem_cons.mpr ⟨mx_ok_bipush (show decode b_xb_add 4 = .ok (.bipush 12, 2) by decide +kernel) (by decide), ?_⟩
  refine List.forall_mem_cons.mpr ⟨mx_ok_icmp_ge (show decode b_xb_add 6 = .ok (.if_icmp .ge 34, 3) by decide +kernel) (by decide), ?_⟩
  refine List.forall_mem_cons.mpr ⟨mx_ok_aload_n (show decode b_xb_add 9 = .ok (.aload_n 0, 1) by decide +kernel) rfl, ?_⟩
  refine List.forall_mem_cons.mpr ⟨mx_ok_getf fd_xb_9 (show decode b_xb_add 10 = .ok (.getfield 9, 3) by decide +kernel), ?_⟩
  refine List.forall_mem_cons.mpr ⟨mx_ok_aload_n (show decode b_xb_add 13 = .ok (.aload_n 0, 1) by decide +kernel) rfl, ?_⟩
  refine List.forall_mem_cons.mpr ⟨mx_ok_getf fd_xb_16 (show decode b_xb_add 14 = .ok (.getfield 16, 3) by decide +kernel), ?_⟩
  refine List.forall_mem_cons.mpr ⟨mx_ok_iload_n (show decode b_xb_add 17 = .ok (.iload_n 1, 1) by decide +kernel) rfl, ?_⟩
  refine List.forall_mem_cons.mpr ⟨mx_ok_iast (show decode b_xb_add 18 = .ok (.iastore, 1) by decide +kernel), ?_⟩
  refine List.forall_mem_cons.mpr ⟨mx_ok_aload_n (show decode b_xb_add 19 = .ok (.aload_n 0, 1) by decide +kernel) rfl, ?_⟩
  refine List.forall_mem_cons.mpr ⟨mx_ok_getf fd_xb_13 (show decode b_xb_add 20 = .ok (.getfield 13, 3) by decide +kernel), ?_⟩
  refine List.forall_mem_cons.mpr ⟨mx_ok_aload_n (show decode b_xb_add 23 = .ok (.aload_n 0, 1) by decide +kernel) rfl, ?_⟩
  refine List.forall_mem_cons.mpr ⟨mx_ok_getf fd_xb_16 (show decode b_xb_add 24 = .ok (.getfield 16, 3) by decide +kernel), ?_⟩
  refine List.forall_mem_cons.mpr ⟨mx_ok_bipush (show decode b_xb_add 27 = .ok (.bipush 6, 2) by decide +kernel) (by decide), ?_⟩
  refine List.forall_mem_cons.mpr ⟨mx_ok_iast (show decode b_xb_add 29 = .ok (.iastore, 1) by decide +kernel), ?_⟩
  refine List.forall_mem_cons.mpr ⟨mx_ok_aload_n (show decode b_xb_add 30 = .ok (.aload_n 0, 1) by decide +kernel) rfl, ?_⟩
  refine List.forall_mem_cons.mpr ⟨mx_ok_dup (show decode b_xb_add 31 = .ok (.dup, 1) by decide +kernel), ?_⟩
  refine List.forall_mem_cons.mpr ⟨mx_ok_getf fd_xb_16 (show decode b_xb_add 32 = .ok (.getfield 16, 3) by decide +kernel), ?_⟩
  refine List.forall_mem_cons.mpr ⟨mx_ok_iconst (show decode b_xb_add 35 = .ok (.iconst 1, 1) by decide +kernel) (by decide), ?_⟩
  refine List.forall_mem_cons.mpr ⟨mx_ok_iadd (show decode b_xb_add 36 = .ok (.iadd, 1) by decide +kernel), ?_⟩
  refine List.forall_mem_cons.mpr ⟨mx_ok_putf fd_xb_16 fw_2_2 (show decode b_xb_add 37 = .ok (.putfield 16, 3) by decide +kernel), ?_⟩
  refine List.forall_mem_cons.mpr ⟨mx_ok_vret (show decode b_xb_add 40 = .ok (.return_, 1) by decide +kernel) rfl, ?_⟩
  exact fun _ h => absurd h List.not_mem_nil
set_option maxRecDepth 100000 in
set_option maxHeartbeats 4000000 in
theorem ct_xb_add (l : Launch) (np nd : Nat) : mx_Ct l vw_T vw_cl (kx np nd) { frames := 0, cells := 0, slots := 0, locals := 0 } y_xb_add b_xb_add 2 none (pre_xb_add np nd) (fn_xb_add np nd) := by
  refine mx_ct_of (tb_xb_add np nd ) (by decide) (ok_xb_add l np nd ) (fun as u h => by obtain ⟨_, rfl, -⟩ := h; exact Nat.le_of_ble_eq_true rfl) ?_
  intro as u hpre At hc hw
  obtain ⟨a1, rfl, hp⟩ := hpre
  exact hc 200 [] _ _ _ _ (
    And.intro (fun h6 => 
     congrArg (fun z : mx_S => ((none, z) : Option mx_V × mx_S)) (show u = (xb_add a1 u) from (if_pos h6).symm)) (fun h6 => 
     And.intro ((hp.2 h6).1) (
     And.intro ((hp.2 h6).2) (
     And.intro rfl (
     congrArg (fun z : mx_S => ((none, z) : Option mx_V × mx_S)) (show (mx_sf (mx_sa (mx_sa u 9 ((mx_gf u 8 2)).toNatClampNeg a1) 10 ((mx_gf (mx_sa u 9 ((mx_gf u 8 2)).toNatClampNeg a1) 8 2)).toNatClampNeg 6) 8 2 ((mx_gf (mx_sa (mx_sa u 9 ((mx_gf u 8 2)).toNatClampNeg a1) 10 ((mx_gf (mx_sa u 9 ((mx_gf u 8 2)).toNatClampNeg a1) 8 2)).toNatClampNeg 6) 8 2) + (1 : Int32))) = (xb_add a1 u) from (if_neg h6).symm))))))
/-! WideMachine$Writes.add(III)V -/
def xq_add (a1 : Int32) (a2 : Int32) (a3 : Int32) (u : mx_S) : mx_S :=
  if 18 ≤ (mx_gf u 4 3) then
   u
  else
   (mx_sf (mx_sa (mx_sa (mx_sa u 5 ((mx_gf u 4 3)).toNatClampNeg a1) 6 ((mx_gf (mx_sa u 5 ((mx_gf u 4 3)).toNatClampNeg a1) 4 3)).toNatClampNeg a2) 7 ((mx_gf (mx_sa (mx_sa u 5 ((mx_gf u 4 3)).toNatClampNeg a1) 6 ((mx_gf (mx_sa u 5 ((mx_gf u 4 3)).toNatClampNeg a1) 4 3)).toNatClampNeg a2) 4 3)).toNatClampNeg a3) 4 3 ((mx_gf (mx_sa (mx_sa (mx_sa u 5 ((mx_gf u 4 3)).toNatClampNeg a1) 6 ((mx_gf (mx_sa u 5 ((mx_gf u 4 3)).toNatClampNeg a1) 4 3)).toNatClampNeg a2) 7 ((mx_gf (mx_sa (mx_sa u 5 ((mx_gf u 4 3)).toNatClampNeg a1) 6 ((mx_gf (mx_sa u 5 ((mx_gf u 4 3)).toNatClampNeg a1) 4 3)).toNatClampNeg a2) 4 3)).toNatClampNeg a3) 4 3) + (1 : Int32)))
def q_xq_add (np nd : Nat) (a1 : Int32) (a2 : Int32) (a3 : Int32) (u : mx_S) : Prop :=
  ((18 ≤ (mx_gf u 4 3)) → 
   True) ∧ ((¬ (18 ≤ (mx_gf u 4 3))) → 
   (vp_in (mx_gf u 4 3) 18) ∧ (
    (vp_in (mx_gf (mx_sa u 5 ((mx_gf u 4 3)).toNatClampNeg a1) 4 3) 18) ∧ (
     (vp_in (mx_gf (mx_sa (mx_sa u 5 ((mx_gf u 4 3)).toNatClampNeg a1) 6 ((mx_gf (mx_sa u 5 ((mx_gf u 4 3)).toNatClampNeg a1) 4 3)).toNatClampNeg a2) 4 3) 18))))
def pre_xq_add (np nd : Nat) : List mx_V → mx_S → Prop := fun as u => ∃ (a1 : Int32) (a2 : Int32) (a3 : Int32), as = [.inr (.inr 4), .inl a1, .inl a2, .inl a3] ∧ q_xq_add np nd a1 a2 a3 u
def fn_xq_add (np nd : Nat) : mx_F := fun as u => match as with
  | [_, .inl a1, .inl a2, .inl a3] => (none, (xq_add a1 a2 a3 u))
  | _ => (none, u)
def tb_xq_add (np nd : Nat) : List (Nat × mx_T) := [
  (0, mx_aload_n 0 0),
  (1, mx_getf (kx np nd) 1 3 1),
  (4, mx_bipush 18 4),
  (6, mx_icmp_ge 49 6),
  (9, mx_aload_n 0 9),
  (10, mx_getf (kx np nd) 1 0 10),
  (13, mx_aload_n 0 13),
  (14, mx_getf (kx np nd) 1 3 14),
  (17, mx_iload_n 1 17),
  (18, mx_iast (kx np nd) 18),
  (19, mx_aload_n 0 19),
  (20, mx_getf (kx np nd) 1 1 20),
  (23, mx_aload_n 0 23),
  (24, mx_getf (kx np nd) 1 3 24),
  (27, mx_iload_n 2 27),
  (28, mx_iast (kx np nd) 28),
  (29, mx_aload_n 0 29),
  (30, mx_getf (kx np nd) 1 2 30),
  (33, mx_aload_n 0 33),
  (34, mx_getf (kx np nd) 1 3 34),
  (37, mx_iload_n 3 37),
  (38, mx_iast (kx np nd) 38),
  (39, mx_aload_n 0 39),
  (40, mx_dup 40),
  (41, mx_getf (kx np nd) 1 3 41),
  (44, mx_iconst 1 44),
  (45, mx_iadd 45),
  (46, mx_putf (kx np nd) 1 3 46),
  (49, mx_vret 49)]
set_option maxRecDepth 100000 in
set_option maxHeartbeats 4000000 in
theorem ok_xq_add (l : Launch) (np nd : Nat) : ∀ q ∈ tb_xq_add np nd , mx_Ok l ({ frames := 0, cells := 0, slots := 0, locals := 0 } : Room) b_xq_add 4 "WideMachine$Writes" none vw_T vw_cl (kx np nd) q.1 q.2 := by
  refine List.forall_mem_cons.mpr ⟨mx_ok_aload_n (show decode b_xq_add 0 = .ok (.aload_n 0, 1) by decide +kernel) rfl, ?_⟩
  refine List.forall_mem_cons.mpr ⟨mx_ok_getf fd_xq_19 (show decode b_xq_add 1 = .ok (.getfield 19, 3) by decide +kernel), ?_⟩
  refine List.forall_mem_cons.mpr ⟨mx_ok_bipush (show decode b_xq_add 4 = .ok (.bipush 18, 2) by decide +kernel) (by decide), ?_⟩
  refine List.forall_mem_cons.mpr ⟨mx_ok_icmp_ge (show decode b_xq_add 6 = .ok (.if_icmp .ge 43, 3) by decide +kernel) (by decide), ?_⟩
  refine List.forall_mem_cons.mpr ⟨mx_ok_aload_n (show decode b_xq_add 9 = .ok (.aload_n 0, 1) by decide +kernel) rfl, ?_⟩
  refine List.forall_mem_cons.mpr ⟨mx_ok_getf fd_xq_9 (show decode b_xq_add 10 = .ok (.getfield 9, 3) by decide +kernel), ?_⟩
  refine List.forall_mem_cons.mpr ⟨mx_ok_aload_n (show decode b_xq_add 13 = .ok (.aload_n 0, 1) by decide +kernel) rfl, ?_⟩
  refine List.forall_mem_cons.mpr ⟨mx_ok_getf fd_xq_19 (show decode b_xq_add 14 = .ok (.getfield 19, 3) by decide +kernel), ?_⟩
  refine List.forall_mem_cons.mpr ⟨mx_ok_iload_n (show decode b_xq_add 17 = .ok (.iload_n 1, 1) by decide +kernel) rfl, ?_⟩
  refine List.forall_mem_cons.mpr ⟨mx_ok_iast (show decode b_xq_add 18 = .ok (.iastore, 1) by decide +kernel), ?_⟩
  refine List.forall_mem_cons.mpr ⟨mx_ok_aload_n (show decode b_xq_add 19 = .ok (.aload_n 0, 1) by decide +kernel) rfl, ?_⟩
  refine List.forall_mem_cons.mpr ⟨mx_ok_getf fd_xq_13 (show decode b_xq_add 20 = .ok (.getfield 13, 3) by decide +kernel), ?_⟩
  refine List.forall_mem_cons.mpr ⟨mx_ok_aload_n (show decode b_xq_add 23 = .ok (.aload_n 0, 1) by decide +kernel) rfl, ?_⟩
  refine List.forall_mem_cons.mpr ⟨mx_ok_getf fd_xq_19 (show decode b_xq_add 24 = .ok (.getfield 19, 3) by decide +kernel), ?_⟩
  refine List.forall_mem_cons.mpr ⟨mx_ok_iload_n (show decode b_xq_add 27 = .ok (.iload_n 2, 1) by decide +kernel) rfl, ?_⟩
  refine List.forall_mem_cons.mpr ⟨mx_ok_iast (show decode b_xq_add 28 = .ok (.iastore, 1) by decide +kernel), ?_⟩
  refine List.forall_mem_cons.mpr ⟨mx_ok_aload_n (show decode b_xq_add 29 = .ok (.aload_n 0, 1) by decide +kernel) rfl, ?_⟩
  refine List.forall_mem_cons.mpr ⟨mx_ok_getf fd_xq_16 (show decode b_xq_add 30 = .ok (.getfield 16, 3) by decide +kernel), ?_⟩
  refine List.forall_mem_cons.mpr ⟨mx_ok_aload_n (show decode b_xq_add 33 = .ok (.aload_n 0, 1) by decide +kernel) rfl, ?_⟩
  refine List.forall_mem_cons.mpr ⟨mx_ok_getf fd_xq_19 (show decode b_xq_add 34 = .ok (.getfield 19, 3) by decide +kernel), ?_⟩
  refine List.forall_mem_cons.mpr ⟨mx_ok_iload_n (show decode b_xq_add 37 = .ok (.iload_n 3, 1) by decide +kernel) rfl, ?_⟩
  refine List.forall_mem_cons.mpr ⟨mx_ok_iast (show decode b_xq_add 38 = .ok (.iastore, 1) by decide +kernel), ?_⟩
  refine List.forall_mem_cons.mpr ⟨mx_ok_aload_n (show decode b_xq_add 39 = .ok (.aload_n 0, 1) by decide +kernel) rfl, ?_⟩
  refine List.forall_mem_cons.mpr ⟨mx_ok_dup (show decode b_xq_add 40 = .ok (.dup, 1) by decide +kernel), ?_⟩
  refine List.forall_mem_cons.mpr ⟨mx_ok_getf fd_xq_19 (show decode b_xq_add 41 = .ok (.getfield 19, 3) by decide +kernel), ?_⟩
  refine List.forall_mem_cons.mpr ⟨mx_ok_iconst (show decode b_xq_add 44 = .ok (.iconst 1, 1) by decide +kernel) (by decide), ?_⟩
  refine List.forall_mem_cons.mpr ⟨mx_ok_iadd (show decode b_xq_add 45 = .ok (.iadd, 1) by decide +kernel), ?_⟩
  refine List.forall_mem_cons.mpr ⟨mx_ok_putf fd_xq_19 fw_1_3 (show decode b_xq_add 46 = .ok (.putfield 19, 3) by decide +kernel), ?_⟩
  refine List.forall_mem_cons.mpr ⟨mx_ok_vret (show decode b_xq_add 49 = .ok (.return_, 1) by decide +kernel) rfl, ?_⟩
  exact fun _ h => absurd h List.not_mem_nil
set_option maxRecDepth 100000 in
set_option maxHeartbeats 4000000 in
theorem ct_xq_add (l : Launch) (np nd : Nat) : mx_Ct l vw_T vw_cl (kx np nd) { frames := 0, cells := 0, slots := 0, locals := 0 } y_xq_add b_xq_add 4 none (pre_xq_add np nd) (fn_xq_add np nd) := by
  refine mx_ct_of (tb_xq_add np nd ) (by decide) (ok_xq_add l np nd ) (fun as u h => by obtain ⟨_, _, _, rfl, -⟩ := h; exact Nat.le_of_ble_eq_true rfl) ?_
  intro as u hpre At hc hw
  obtain ⟨a1, a2, a3, rfl, hp⟩ := hpre
  exact hc 200 [] _ _ _ _ (
    And.intro (fun h6 => 
     congrArg (fun z : mx_S => ((none, z) : Option mx_V × mx_S)) (show u = (xq_add a1 a2 a3 u) from (if_pos h6).symm)) (fun h6 => 
     And.intro ((hp.2 h6).1) (
     And.intro ((hp.2 h6).2.1) (
     And.intro ((hp.2 h6).2.2) (
     And.intro rfl (
     congrArg (fun z : mx_S => ((none, z) : Option mx_V × mx_S)) (show (mx_sf (mx_sa (mx_sa (mx_sa u 5 ((mx_gf u 4 3)).toNatClampNeg a1) 6 ((mx_gf (mx_sa u 5 ((mx_gf u 4 3)).toNatClampNeg a1) 4 3)).toNatClampNeg a2) 7 ((mx_gf (mx_sa (mx_sa u 5 ((mx_gf u 4 3)).toNatClampNeg a1) 6 ((mx_gf (mx_sa u 5 ((mx_gf u 4 3)).toNatClampNeg a1) 4 3)).toNatClampNeg a2) 4 3)).toNatClampNeg a3) 4 3 ((mx_gf (mx_sa (mx_sa (mx_sa u 5 ((mx_gf u 4 3)).toNatClampNeg a1) 6 ((mx_gf (mx_sa u 5 ((mx_gf u 4 3)).toNatClampNeg a1) 4 3)).toNatClampNeg a2) 7 ((mx_gf (mx_sa (mx_sa u 5 ((mx_gf u 4 3)).toNatClampNeg a1) 6 ((mx_gf (mx_sa u 5 ((mx_gf u 4 3)).toNatClampNeg a1) 4 3)).toNatClampNeg a2) 4 3)).toNatClampNeg a3) 4 3) + (1 : Int32))) = (xq_add a1 a2 a3 u) from (if_neg h6).symm)))))))
/-! WideMachine$Writes.clear()V -/
def xq_clear (u : mx_S) : mx_S :=
  (mx_sf u 4 3 0)
def pre_xq_clear (np nd : Nat) : List mx_V → mx_S → Prop := fun as u => as = [.inr (.inr 4)] ∧ True
def fn_xq_clear (np nd : Nat) : mx_F := fun as u => match as with
  | [_] => (none, (xq_clear u))
  | _ => (none, u)
def tb_xq_clear (np nd : Nat) : List (Nat × mx_T) := [
  (0, mx_aload_n 0 0),
  (1, mx_iconst 0 1),
  (2, mx_putf (kx np nd) 1 3 2),
  (5, mx_vret 5)]
set_option maxRecDepth 100000 in
set_option maxHeartbeats 4000000 in
theorem ok_xq_clear (l : Launch) (np nd : Nat) : ∀ q ∈ tb_xq_clear np nd , mx_Ok l ({ frames := 0, cells := 0, slots := 0, locals := 0 } : Room) b_xq_clear 1 "WideMachine$Writes" none vw_T vw_cl (kx np nd) q.1 q.2 := by
  refine List.forall_mem_cons.mpr ⟨mx_ok_aload_n (show decode b_xq_clear 0 = .ok (.aload_n 0, 1) by decide +kernel) rfl, ?_⟩
  refine List.forall_mem_cons.mpr ⟨mx_ok_iconst (show decode b_xq_clear 1 = .ok (.iconst 0, 1) by decide +kernel) (by decide), ?_⟩
  refine List.forall_mem_cons.mpr ⟨mx_ok_putf fd_xq_19 fw_1_3 (show decode b_xq_clear 2 = .ok (.putfield 19, 3) by decide +kernel), ?_⟩
  refine List.forall_mem_cons.mpr ⟨mx_ok_vret (show decode b_xq_clear 5 = .ok (.return_, 1) by decide +kernel) rfl, ?_⟩
  exact fun _ h => absurd h List.not_mem_nil
set_option maxRecDepth 100000 in
set_option maxHeartbeats 4000000 in
theorem ct_xq_clear (l : Launch) (np nd : Nat) : mx_Ct l vw_T vw_cl (kx np nd) { frames := 0, cells := 0, slots := 0, locals := 0 } y_xq_clear b_xq_clear 1 none (pre_xq_clear np nd) (fn_xq_clear np nd) := by
  refine mx_ct_of (tb_xq_clear np nd ) (by decide) (ok_xq_clear l np nd ) (fun as u h => by obtain ⟨rfl, -⟩ := h; exact Nat.le_of_ble_eq_true rfl) ?_
  intro as u hpre At hc hw
  obtain ⟨rfl, hp⟩ := hpre
  exact hc 200 [] _ _ _ _ (
    And.intro rfl (
    congrArg (fun z : mx_S => ((none, z) : Option mx_V × mx_S)) (show (mx_sf u 4 3 0) = (xq_clear u) from (rfl).symm)))
/-! WideMachine$Branches.clear()V -/
def xb_clear (u : mx_S) : mx_S :=
  (mx_sf u 8 2 0)
def pre_xb_clear (np nd : Nat) : List mx_V → mx_S → Prop := fun as u => as = [.inr (.inr 8)] ∧ True
def fn_xb_clear (np nd : Nat) : mx_F := fun as u => match as with
  | [_] => (none, (xb_clear u))
  | _ => (none, u)
def tb_xb_clear (np nd : Nat) : List (Nat × mx_T) := [
  (0, mx_aload_n 0 0),
  (1, mx_iconst 0 1),
  (2, mx_putf (kx np nd) 2 2 2),
  (5, mx_vret 5)]
set_option maxRecDepth 100000 in
set_option maxHeartbeats 4000000 in
theorem ok_xb_clear (l : Launch) (np nd : Nat) : ∀ q ∈ tb_xb_clear np nd , mx_Ok l ({ frames := 0, cells := 0, slots := 0, locals := 0 } : Room) b_xb_clear 1 "WideMachine$Branches" none vw_T vw_cl (kx np nd) q.1 q.2 := by
  refine List.forall_mem_cons.mpr ⟨mx_ok_aload_n (show decode b_xb_clear 0 = .ok (.aload_n 0, 1) by decide +kernel) rfl, ?_⟩
  refine List.forall_mem_cons.mpr ⟨mx_ok_iconst (show decode b_xb_clear 1 = .ok (.iconst 0, 1) by decide +kernel) (by decide), ?_⟩
  refine List.forall_mem_cons.mpr ⟨mx_ok_putf fd_xb_16 fw_2_2 (show decode b_xb_clear 2 = .ok (.putfield 16, 3) by decide +kernel), ?_⟩
  refine List.forall_mem_cons.mpr ⟨mx_ok_vret (show decode b_xb_clear 5 = .ok (.return_, 1) by decide +kernel) rfl, ?_⟩
  exact fun _ h => absurd h List.not_mem_nil
set_option maxRecDepth 100000 in
set_option maxHeartbeats 4000000 in
theorem ct_xb_clear (l : Launch) (np nd : Nat) : mx_Ct l vw_T vw_cl (kx np nd) { frames := 0, cells := 0, slots := 0, locals := 0 } y_xb_clear b_xb_clear 1 none (pre_xb_clear np nd) (fn_xb_clear np nd) := by
  refine mx_ct_of (tb_xb_clear np nd ) (by decide) (ok_xb_clear l np nd ) (fun as u h => by obtain ⟨rfl, -⟩ := h; exact Nat.le_of_ble_eq_true rfl) ?_
  intro as u hpre At hc hw
  obtain ⟨rfl, hp⟩ := hpre
  exact hc 200 [] _ _ _ _ (
    And.intro rfl (
    congrArg (fun z : mx_S => ((none, z) : Option mx_V × mx_S)) (show (mx_sf u 8 2 0) = (xb_clear u) from (rfl).symm)))
end
section
/-! WideMachine.word(II)Z -/
def xm_word (np nd : Nat) (a1 : Int32) (a2 : Int32) (u : mx_S) : Int32 × mx_S :=
  if a1 < 0 then
   (0, u)
  else
   if a1 < (nI np) then
    (1, (mx_sa u 1 (a1).toNatClampNeg a2))
   else
    (0, u)
def q_xm_word (np nd : Nat) (a1 : Int32) (a2 : Int32) (u : mx_S) : Prop :=
  ((a1 < 0) → 
   True) ∧ ((¬ (a1 < 0)) → 
   ((a1 < (nI np)) → 
    (vp_in a1 np)) ∧ ((¬ (a1 < (nI np))) → 
    True))
def pre_xm_word (np nd : Nat) : List mx_V → mx_S → Prop := fun as u => ∃ (a1 : Int32) (a2 : Int32), as = [.inr (.inr 0), .inl a1, .inl a2] ∧ q_xm_word np nd a1 a2 u
def fn_xm_word (np nd : Nat) : mx_F := fun as u => match as with
  | [_, .inl a1, .inl a2] => mx_rB (xm_word np nd a1 a2 u)
  | _ => (none, u)
def tb_xm_word (np nd : Nat) : List (Nat × mx_T) := [
  (0, mx_iload_n 1 0),
  (1, mx_if_lt 13 1),
  (4, mx_iload_n 1 4),
  (5, mx_aload_n 0 5),
  (6, mx_getf (kx np nd) 0 0 6),
  (9, mx_alen (kx np nd) 9),
  (10, mx_icmp_lt 15 10),
  (13, mx_iconst 0 13),
  (14, mx_zret 14),
  (15, mx_aload_n 0 15),
  (16, mx_getf (kx np nd) 0 0 16),
  (19, mx_iload_n 1 19),
  (20, mx_iload_n 2 20),
  (21, mx_iast (kx np nd) 21),
  (22, mx_iconst 1 22),
  (23, mx_zret 23)]
set_option maxRecDepth 100000 in
set_option maxHeartbeats 4000000 in
theorem ok_xm_word (l : Launch) (np nd : Nat) : ∀ q ∈ tb_xm_word np nd , mx_Ok l ({ frames := 0, cells := 0, slots := 0, locals := 0 } : Room) b_xm_word 3 "WideMachine" (some .boolean) vw_T vw_cl (kx np nd) q.1 q.2 := by
  refine List.forall_mem_cons.mpr ⟨mx_ok_iload_n (show decode b_xm_word 0 = .ok (.iload_n 1, 1) by decide +kernel) rfl, ?_⟩
  refine List.forall_mem_cons.mpr ⟨mx_ok_if_lt (show decode b_xm_word 1 = .ok (.ifCond .lt 12, 3) by decide +kernel) (by decide), ?_⟩
  refine List.forall_mem_cons.mpr ⟨mx_ok_iload_n (show decode b_xm_word 4 = .ok (.iload_n 1, 1) by decide +kernel) rfl, ?_⟩
  refine List.forall_mem_cons.mpr ⟨mx_ok_aload_n (show decode b_xm_word 5 = .ok (.aload_n 0, 1) by decide +kernel) rfl, ?_⟩
  refine List.forall_mem_cons.mpr ⟨mx_ok_getf fd_xm_13 (show decode b_xm_word 6 = .ok (.getfield 13, 3) by decide +kernel), ?_⟩
  refine List.forall_mem_cons.mpr ⟨mx_ok_alen (show decode b_xm_word 9 = .ok (.arraylength, 1) by decide +kernel), ?_⟩
  refine List.forall_mem_cons.mpr ⟨mx_ok_icmp_lt (show decode b_xm_word 10 = .ok (.if_icmp .lt 5, 3) by decide +kernel) (by decide), ?_⟩
  refine List.forall_mem_cons.mpr ⟨mx_ok_iconst (show decode b_xm_word 13 = .ok (.iconst 0, 1) by decide +kernel) (by decide), ?_⟩
  refine List.forall_mem_cons.mpr ⟨mx_ok_zret (show decode b_xm_word 14 = .ok (.ireturn, 1) by decide +kernel) rfl, ?_⟩
  refine List.forall_mem_cons.mpr ⟨mx_ok_aload_n (show decode b_xm_word 15 = .ok (.aload_n 0, 1) by decide +kernel) rfl, ?_⟩
  refine List.forall_mem_cons.mpr ⟨mx_ok_getf fd_xm_13 (show decode b_xm_word 16 = .ok (.getfield 13, 3) by decide +kernel), ?_⟩
  refine List.forall_mem_cons.mpr ⟨mx_ok_iload_n (show decode b_xm_word 19 = .ok (.iload_n 1, 1) by decide +kernel) rfl, ?_⟩
  refine List.forall_mem_cons.mpr ⟨mx_ok_iload_n (show decode b_xm_word 20 = .ok (.iload_n 2, 1) by decide +kernel) rfl, ?_⟩
  refine List.forall_mem_cons.mpr ⟨mx_ok_iast (show decode b_xm_word 21 = .ok (.iastore, 1) by decide +kernel), ?_⟩
  refine List.forall_mem_cons.mpr ⟨mx_ok_iconst (show decode b_xm_word 22 = .ok (.iconst 1, 1) by decide +kernel) (by decide), ?_⟩
  refine List.forall_mem_cons.mpr ⟨mx_ok_zret (show decode b_xm_word 23 = .ok (.ireturn, 1) by decide +kernel) rfl, ?_⟩
  exact fun _ h => absurd h List.not_mem_nil
set_option maxRecDepth 100000 in
set_option maxHeartbeats 4000000 in
theorem ct_xm_word (l : Launch) (np nd : Nat) : mx_Ct l vw_T vw_cl (kx np nd) { frames := 0, cells := 0, slots := 0, locals := 0 } y_xm_word b_xm_word 3 (some .boolean) (pre_xm_word np nd) (fn_xm_word np nd) := by
  refine mx_ct_of (tb_xm_word np nd ) (by decide) (ok_xm_word l np nd ) (fun as u h => by obtain ⟨_, _, rfl, -⟩ := h; exact Nat.le_of_ble_eq_true rfl) ?_
  intro as u hpre At hc hw
  obtain ⟨a1, a2, rfl, hp⟩ := hpre
  exact hc 200 [] _ _ _ _ (
    And.intro (fun h1 => 
     And.intro (Or.inl rfl) (
     congrArg mx_rB (show (0, u) = (xm_word np nd a1 a2 u) from (if_pos h1).symm))) (fun h1 => 
     And.intro (fun h10 => 
      And.intro (((hp.2 h1).1 h10)) (
      And.intro (Or.inr rfl) (
      congrArg mx_rB (show (1, (mx_sa u 1 (a1).toNatClampNeg a2)) = (xm_word np nd a1 a2 u) from ((if_neg h1).trans (if_pos h10)).symm)))) (fun h10 => 
      And.intro (Or.inl rfl) (
      congrArg mx_rB (show (0, u) = (xm_word np nd a1 a2 u) from ((if_neg h1).trans (if_neg h10)).symm)))))
/-! WideMachine.isInData(I)Z -/
def xm_isInData (np nd : Nat) (a1 : Int32) : Int32 :=
  if a1 < 0 then
   0
  else
   if (nI nd) ≤ a1 then
    0
   else
    1
def pre_xm_isInData (np nd : Nat) : List mx_V → mx_S → Prop := fun as u => ∃ (a1 : Int32), as = [.inr (.inr 0), .inl a1] ∧ True
def fn_xm_isInData (np nd : Nat) : mx_F := fun as u => match as with
  | [_, .inl a1] => mx_rI u (xm_isInData np nd a1 )
  | _ => (none, u)
def tb_xm_isInData (np nd : Nat) : List (Nat × mx_T) := [
  (0, mx_iload_n 1 0),
  (1, mx_if_lt 17 1),
  (4, mx_iload_n 1 4),
  (5, mx_aload_n 0 5),
  (6, mx_getf (kx np nd) 0 1 6),
  (9, mx_alen (kx np nd) 9),
  (10, mx_icmp_ge 17 10),
  (13, mx_iconst 1 13),
  (14, mx_goto 18 14),
  (17, mx_iconst 0 17),
  (18, mx_zret 18)]
set_option maxRecDepth 100000 in
set_option maxHeartbeats 4000000 in
theorem ok_xm_isInData (l : Launch) (np nd : Nat) : ∀ q ∈ tb_xm_isInData np nd , mx_Ok l ({ frames := 0, cells := 0, slots := 0, locals := 0 } : Room) b_xm_isInData 2 "WideMachine" (some .boolean) vw_T vw_cl (kx np nd) q.1 q.2 := by
  refine List.forall_mem_cons.mpr ⟨mx_ok_iload_n (show decode b_xm_isInData 0 = .ok (.iload_n 1, 1) by decide +kernel) rfl, ?_⟩
  refine List.forall_mem_cons.mpr ⟨mx_ok_if_lt (show decode b_xm_isInData 1 = .ok (.ifCond .lt 16, 3) by decide +kernel) (by decide), ?_⟩
  refine List.forall_mem_cons.mpr ⟨mx_ok_iload_n (show decode b_xm_isInData 4 = .ok (.iload_n 1, 1) by decide +kernel) rfl, ?_⟩
  refine List.forall_mem_cons.mpr ⟨mx_ok_aload_n (show decode b_xm_isInData 5 = .ok (.aload_n 0, 1) by decide +kernel) rfl, ?_⟩
  refine List.forall_mem_cons.mpr ⟨mx_ok_getf fd_xm_17 (show decode b_xm_isInData 6 = .ok (.getfield 17, 3) by decide +kernel), ?_⟩
  refine List.forall_mem_cons.mpr ⟨mx_ok_alen (show decode b_xm_isInData 9 = .ok (.arraylength, 1) by decide +kernel), ?_⟩
  refine List.forall_mem_cons.mpr ⟨mx_ok_icmp_ge (show decode b_xm_isInData 10 = .ok (.if_icmp .ge 7, 3) by decide +kernel) (by decide), ?_⟩
  refine List.forall_mem_cons.mpr ⟨mx_ok_iconst (show decode b_xm_isInData 13 = .ok (.iconst 1, 1) by decide +kernel) (by decide), ?_⟩
  refine List.forall_mem_cons.mpr ⟨mx_ok_goto (show decode b_xm_isInData 14 = .ok (.goto 4, 3) by decide +kernel) (by decide), ?_⟩
  refine List.forall_mem_cons.mpr ⟨mx_ok_iconst (show decode b_xm_isInData 17 = .ok (.iconst 0, 1) by decide +kernel) (by decide), ?_⟩
  refine List.forall_mem_cons.mpr ⟨mx_ok_zret (show decode b_xm_isInData 18 = .ok (.ireturn, 1) by decide +kernel) rfl, ?_⟩
  exact fun _ h => absurd h List.not_mem_nil
set_option maxRecDepth 100000 in
set_option maxHeartbeats 4000000 in
theorem ct_xm_isInData (l : Launch) (np nd : Nat) : mx_Ct l vw_T vw_cl (kx np nd) { frames := 0, cells := 0, slots := 0, locals := 0 } y_xm_isInData b_xm_isInData 2 (some .boolean) (pre_xm_isInData np nd) (fn_xm_isInData np nd) := by
  refine mx_ct_of (tb_xm_isInData np nd ) (by decide) (ok_xm_isInData l np nd ) (fun as u h => by obtain ⟨_, rfl, -⟩ := h; exact Nat.le_of_ble_eq_true rfl) ?_
  intro as u hpre At hc hw
  obtain ⟨a1, rfl, hp⟩ := hpre
  exact hc 200 [] _ _ _ _ (
    And.intro (fun h1 => 
     And.intro (Or.inl rfl) (
     congrArg (mx_rI u) (show 0 = (xm_isInData np nd a1 ) from (if_pos h1).symm))) (fun h1 => 
     And.intro (fun h10 => 
      And.intro (Or.inl rfl) (
      congrArg (mx_rI u) (show 0 = (xm_isInData np nd a1 ) from ((if_neg h1).trans (if_pos h10)).symm))) (fun h10 => 
      And.intro (Or.inr rfl) (
      congrArg (mx_rI u) (show 1 = (xm_isInData np nd a1 ) from ((if_neg h1).trans (if_neg h10)).symm)))))
/-! WideMachine.poke(II)Z -/
def xm_poke (np nd : Nat) (a1 : Int32) (a2 : Int32) (u : mx_S) : Int32 × mx_S :=
  if (xm_isInData np nd a1 ) = 0 then
   (0, u)
  else
   (1, (mx_sa u 2 (a1).toNatClampNeg a2))
def q_xm_poke (np nd : Nat) (a1 : Int32) (a2 : Int32) (u : mx_S) : Prop :=
  ((¬ ((xm_isInData np nd a1 ) = 0)) → 
   (vp_in a1 nd)) ∧ (((xm_isInData np nd a1 ) = 0) → 
   True)
def pre_xm_poke (np nd : Nat) : List mx_V → mx_S → Prop := fun as u => ∃ (a1 : Int32) (a2 : Int32), as = [.inr (.inr 0), .inl a1, .inl a2] ∧ q_xm_poke np nd a1 a2 u
def fn_xm_poke (np nd : Nat) : mx_F := fun as u => match as with
  | [_, .inl a1, .inl a2] => mx_rB (xm_poke np nd a1 a2 u)
  | _ => (none, u)
def tb_xm_poke (np nd : Nat) : List (Nat × mx_T) := [
  (0, mx_aload_n 0 0),
  (1, mx_iload_n 1 1),
  (2, mx_invV (kx np nd) 0 1 (pre_xm_isInData np nd) (fn_xm_isInData np nd) 2),
  (5, mx_if_ne 10 5),
  (8, mx_iconst 0 8),
  (9, mx_zret 9),
  (10, mx_aload_n 0 10),
  (11, mx_getf (kx np nd) 0 1 11),
  (14, mx_iload_n 1 14),
  (15, mx_iload_n 2 15),
  (16, mx_iast (kx np nd) 16),
  (17, mx_iconst 1 17),
  (18, mx_zret 18)]
set_option maxRecDepth 100000 in
set_option maxHeartbeats 4000000 in
theorem ok_xm_poke (l : Launch) (np nd : Nat) : ∀ q ∈ tb_xm_poke np nd , mx_Ok l ({ frames := 1, cells := 0, slots := 0, locals := 21 } : Room) b_xm_poke 3 "WideMachine" (some .boolean) vw_T vw_cl (kx np nd) q.1 q.2 := by
  refine List.forall_mem_cons.mpr ⟨mx_ok_aload_n (show decode b_xm_poke 0 = .ok (.aload_n 0, 1) by decide +kernel) rfl, ?_⟩
  refine List.forall_mem_cons.mpr ⟨mx_ok_iload_n (show decode b_xm_poke 1 = .ok (.iload_n 1, 1) by decide +kernel) rfl, ?_⟩
  refine List.forall_mem_cons.mpr ⟨mx_ok_invV vw_G (ct_xm_isInData l np nd) ⟨vm_44, vm_45, vm_46, ⟨by decide +kernel, by decide +kernel, by decide +kernel⟩, ⟨by decide, by decide⟩, rfl, rfl⟩ vm_47 vm_48 rfl (show decode b_xm_poke 2 = .ok (.invokevirtual 37, 3) by decide +kernel), ?_⟩
  refine List.forall_mem_cons.mpr ⟨mx_ok_if_ne (show decode b_xm_poke 5 = .ok (.ifCond .ne 5, 3) by decide +kernel) (by decide), ?_⟩
  refine List.forall_mem_cons.mpr ⟨mx_ok_iconst (show decode b_xm_poke 8 = .ok (.iconst 0, 1) by decide +kernel) (by decide), ?_⟩
  refine List.forall_mem_cons.mpr ⟨mx_ok_zret (show decode b_xm_poke 9 = .ok (.ireturn, 1) by decide +kernel) rfl, ?_⟩
  refine List.forall_mem_cons.mpr ⟨mx_ok_aload_n (show decode b_xm_poke 10 = .ok (.aload_n 0, 1) by decide +kernel) rfl, ?_⟩
  refine List.forall_mem_cons.mpr ⟨mx_ok_getf fd_xm_17 (show decode b_xm_poke 11 = .ok (.getfield 17, 3) by decide +kernel), ?_⟩
  refine List.forall_mem_cons.mpr ⟨mx_ok_iload_n (show decode b_xm_poke 14 = .ok (.iload_n 1, 1) by decide +kernel) rfl, ?_⟩
  refine List.forall_mem_cons.mpr ⟨mx_ok_iload_n (show decode b_xm_poke 15 = .ok (.iload_n 2, 1) by decide +kernel) rfl, ?_⟩
  refine List.forall_mem_cons.mpr ⟨mx_ok_iast (show decode b_xm_poke 16 = .ok (.iastore, 1) by decide +kernel), ?_⟩
  refine List.forall_mem_cons.mpr ⟨mx_ok_iconst (show decode b_xm_poke 17 = .ok (.iconst 1, 1) by decide +kernel) (by decide), ?_⟩
  refine List.forall_mem_cons.mpr ⟨mx_ok_zret (show decode b_xm_poke 18 = .ok (.ireturn, 1) by decide +kernel) rfl, ?_⟩
  exact fun _ h => absurd h List.not_mem_nil
set_option maxRecDepth 100000 in
set_option maxHeartbeats 4000000 in
theorem ct_xm_poke (l : Launch) (np nd : Nat) : mx_Ct l vw_T vw_cl (kx np nd) { frames := 1, cells := 0, slots := 0, locals := 21 } y_xm_poke b_xm_poke 3 (some .boolean) (pre_xm_poke np nd) (fn_xm_poke np nd) := by
  refine mx_ct_of (tb_xm_poke np nd ) (by decide) (ok_xm_poke l np nd ) (fun as u h => by obtain ⟨_, _, rfl, -⟩ := h; exact Nat.le_of_ble_eq_true rfl) ?_
  intro as u hpre At hc hw
  obtain ⟨a1, a2, rfl, hp⟩ := hpre
  exact hc 200 [] _ _ _ _ (
    And.intro rfl (
    And.intro ⟨_, rfl, trivial⟩ (
    And.intro (fun h5 => 
     And.intro ((hp.1 h5)) (
     And.intro (Or.inr rfl) (
     congrArg mx_rB (show (1, (mx_sa u 2 (a1).toNatClampNeg a2)) = (xm_poke np nd a1 a2 u) from (if_neg h5).symm)))) (fun h5 => 
     And.intro (Or.inl rfl) (
     congrArg mx_rB (show (0, u) = (xm_poke np nd a1 a2 u) from (if_pos h5).symm))))))
/-! WideMachine.peek(I)I -/
def xm_peek (np nd : Nat) (a1 : Int32) (u : mx_S) : Int32 :=
  if (xm_isInData np nd a1 ) = 0 then
   0
  else
   (mx_ga u 2 (a1).toNatClampNeg)
def q_xm_peek (np nd : Nat) (a1 : Int32) (u : mx_S) : Prop :=
  (((xm_isInData np nd a1 ) = 0) → 
   True) ∧ ((¬ ((xm_isInData np nd a1 ) = 0)) → 
   (vp_in a1 nd))
def pre_xm_peek (np nd : Nat) : List mx_V → mx_S → Prop := fun as u => ∃ (a1 : Int32), as = [.inr (.inr 0), .inl a1] ∧ q_xm_peek np nd a1 u
def fn_xm_peek (np nd : Nat) : mx_F := fun as u => match as with
  | [_, .inl a1] => mx_rI u (xm_peek np nd a1 u)
  | _ => (none, u)
def tb_xm_peek (np nd : Nat) : List (Nat × mx_T) := [
  (0, mx_aload_n 0 0),
  (1, mx_iload_n 1 1),
  (2, mx_invV (kx np nd) 0 1 (pre_xm_isInData np nd) (fn_xm_isInData np nd) 2),
  (5, mx_if_eq 17 5),
  (8, mx_aload_n 0 8),
  (9, mx_getf (kx np nd) 0 1 9),
  (12, mx_iload_n 1 12),
  (13, mx_iald (kx np nd) 13),
  (14, mx_goto 18 14),
  (17, mx_iconst 0 17),
  (18, mx_iret 18)]
set_option maxRecDepth 100000 in
set_option maxHeartbeats 4000000 in
theorem ok_xm_peek (l : Launch) (np nd : Nat) : ∀ q ∈ tb_xm_peek np nd , mx_Ok l ({ frames := 1, cells := 0, slots := 0, locals := 21 } : Room) b_xm_peek 2 "WideMachine" (some .int) vw_T vw_cl (kx np nd) q.1 q.2 := by
  refine List.forall_mem_cons.mpr ⟨mx_ok_aload_n (show decode b_xm_peek 0 = .ok (.aload_n 0, 1) by decide +kernel) rfl, ?_⟩
  refine List.forall_mem_cons.mpr ⟨mx_ok_iload_n (show decode b_xm_peek 1 = .ok (.iload_n 1, 1) by decide +kernel) rfl, ?_⟩
  refine List.forall_mem_cons.mpr ⟨mx_ok_invV vw_G (ct_xm_isInData l np nd) ⟨vm_44, vm_45, vm_46, ⟨by decide +kernel, by decide +kernel, by decide +kernel⟩, ⟨by decide, by decide⟩, rfl, rfl⟩ vm_47 vm_48 rfl (show decode b_xm_peek 2 = .ok (.invokevirtual 37, 3) by decide +kernel), ?_⟩
  refine List.forall_mem_cons.mpr ⟨mx_ok_if_eq (show decode b_xm_peek 5 = .ok (.ifCond .eq 12, 3) by decide +kernel) (by decide), ?_⟩
  refine List.forall_mem_cons.mpr ⟨mx_ok_aload_n (show decode b_xm_peek 8 = .ok (.aload_n 0, 1) by decide +kernel) rfl, ?_⟩
  refine List.forall_mem_cons.mpr ⟨mx_ok_getf fd_xm_17 (show decode b_xm_peek 9 = .ok (.getfield 17, 3) by decide +kernel), ?_⟩
  refine List.forall_mem_cons.mpr ⟨mx_ok_iload_n (show decode b_xm_peek 12 = .ok (.iload_n 1, 1) by decide +kernel) rfl, ?_⟩
  refine List.forall_mem_cons.mpr ⟨mx_ok_iald (show decode b_xm_peek 13 = .ok (.iaload, 1) by decide +kernel), ?_⟩
  refine List.forall_mem_cons.mpr ⟨mx_ok_goto (show decode b_xm_peek 14 = .ok (.goto 4, 3) by decide +kernel) (by decide), ?_⟩
  refine List.forall_mem_cons.mpr ⟨mx_ok_iconst (show decode b_xm_peek 17 = .ok (.iconst 0, 1) by decide +kernel) (by decide), ?_⟩
  refine List.forall_mem_cons.mpr ⟨mx_ok_iret (show decode b_xm_peek 18 = .ok (.ireturn, 1) by decide +kernel) rfl, ?_⟩
  exact fun _ h => absurd h List.not_mem_nil
set_option maxRecDepth 100000 in
set_option maxHeartbeats 4000000 in
theorem ct_xm_peek (l : Launch) (np nd : Nat) : mx_Ct l vw_T vw_cl (kx np nd) { frames := 1, cells := 0, slots := 0, locals := 21 } y_xm_peek b_xm_peek 2 (some .int) (pre_xm_peek np nd) (fn_xm_peek np nd) := by
  refine mx_ct_of (tb_xm_peek np nd ) (by decide) (ok_xm_peek l np nd ) (fun as u h => by obtain ⟨_, rfl, -⟩ := h; exact Nat.le_of_ble_eq_true rfl) ?_
  intro as u hpre At hc hw
  obtain ⟨a1, rfl, hp⟩ := hpre
  exact hc 200 [] _ _ _ _ (
    And.intro rfl (
    And.intro ⟨_, rfl, trivial⟩ (
    And.intro (fun h5 => 
     congrArg (mx_rI u) (show 0 = (xm_peek np nd a1 u) from (if_pos h5).symm)) (fun h5 => 
     And.intro ((hp.2 h5)) (
     congrArg (mx_rI u) (show (mx_ga u 2 (a1).toNatClampNeg) = (xm_peek np nd a1 u) from (if_neg h5).symm))))))
/-! WideMachine.set(II)Z -/
def xm_set (a1 : Int32) (a2 : Int32) (u : mx_S) : Int32 × mx_S :=
  if a1 < 0 then
   (0, u)
  else
   if a1 < 32 then
    (1, (mx_sa u 3 (a1).toNatClampNeg a2))
   else
    (0, u)
def q_xm_set (np nd : Nat) (a1 : Int32) (a2 : Int32) (u : mx_S) : Prop :=
  ((a1 < 0) → 
   True) ∧ ((¬ (a1 < 0)) → 
   ((a1 < 32) → 
    (vp_in a1 32)) ∧ ((¬ (a1 < 32)) → 
    True))
def pre_xm_set (np nd : Nat) : List mx_V → mx_S → Prop := fun as u => ∃ (a1 : Int32) (a2 : Int32), as = [.inr (.inr 0), .inl a1, .inl a2] ∧ q_xm_set np nd a1 a2 u
def fn_xm_set (np nd : Nat) : mx_F := fun as u => match as with
  | [_, .inl a1, .inl a2] => mx_rB (xm_set a1 a2 u)
  | _ => (none, u)
def tb_xm_set (np nd : Nat) : List (Nat × mx_T) := [
  (0, mx_iload_n 1 0),
  (1, mx_if_lt 10 1),
  (4, mx_iload_n 1 4),
  (5, mx_bipush 32 5),
  (7, mx_icmp_lt 12 7),
  (10, mx_iconst 0 10),
  (11, mx_zret 11),
  (12, mx_aload_n 0 12),
  (13, mx_getf (kx np nd) 0 2 13),
  (16, mx_iload_n 1 16),
  (17, mx_iload_n 2 17),
  (18, mx_iast (kx np nd) 18),
  (19, mx_iconst 1 19),
  (20, mx_zret 20)]
set_option maxRecDepth 100000 in
set_option maxHeartbeats 4000000 in
theorem ok_xm_set (l : Launch) (np nd : Nat) : ∀ q ∈ tb_xm_set np nd , mx_Ok l ({ frames := 0, cells := 0, slots := 0, locals := 0 } : Room) b_xm_set 3 "WideMachine" (some .boolean) vw_T vw_cl (kx np nd) q.1 q.2 := by
  refine List.forall_mem_cons.mpr ⟨mx_ok_iload_n (show decode b_xm_set 0 = .ok (.iload_n 1, 1) by decide +kernel) rfl, ?_⟩
  refine List.forall_mem_cons.mpr ⟨mx_ok_if_lt (show decode b_xm_set 1 = .ok (.ifCond .lt 9, 3) by decide +kernel) (by decide), ?_⟩
  refine List.forall_mem_cons.mpr ⟨mx_ok_iload_n (show decode b_xm_set 4 = .ok (.iload_n 1, 1) by decide +kernel) rfl, ?_⟩
  refine List.forall_mem_cons.mpr ⟨mx_ok_bipush (show decode b_xm_set 5 = .ok (.bipush 32, 2) by decide +kernel) (by decide), ?_⟩
  refine List.forall_mem_cons.mpr ⟨mx_ok_icmp_lt (show decode b_xm_set 7 = .ok (.if_icmp .lt 5, 3) by decide +kernel) (by decide), ?_⟩
  refine List.forall_mem_cons.mpr ⟨mx_ok_iconst (show decode b_xm_set 10 = .ok (.iconst 0, 1) by decide +kernel) (by decide), ?_⟩
  refine List.forall_mem_cons.mpr ⟨mx_ok_zret (show decode b_xm_set 11 = .ok (.ireturn, 1) by decide +kernel) rfl, ?_⟩
  refine List.forall_mem_cons.mpr ⟨mx_ok_aload_n (show decode b_xm_set 12 = .ok (.aload_n 0, 1) by decide +kernel) rfl, ?_⟩
  refine List.forall_mem_cons.mpr ⟨mx_ok_getf fd_xm_20 (show decode b_xm_set 13 = .ok (.getfield 20, 3) by decide +kernel), ?_⟩
  refine List.forall_mem_cons.mpr ⟨mx_ok_iload_n (show decode b_xm_set 16 = .ok (.iload_n 1, 1) by decide +kernel) rfl, ?_⟩
  refine List.forall_mem_cons.mpr ⟨mx_ok_iload_n (show decode b_xm_set 17 = .ok (.iload_n 2, 1) by decide +kernel) rfl, ?_⟩
  refine List.forall_mem_cons.mpr ⟨mx_ok_iast (show decode b_xm_set 18 = .ok (.iastore, 1) by decide +kernel), ?_⟩
  refine List.forall_mem_cons.mpr ⟨mx_ok_iconst (show decode b_xm_set 19 = .ok (.iconst 1, 1) by decide +kernel) (by decide), ?_⟩
  refine List.forall_mem_cons.mpr ⟨mx_ok_zret (show decode b_xm_set 20 = .ok (.ireturn, 1) by decide +kernel) rfl, ?_⟩
  exact fun _ h => absurd h List.not_mem_nil
set_option maxRecDepth 100000 in
set_option maxHeartbeats 4000000 in
theorem ct_xm_set (l : Launch) (np nd : Nat) : mx_Ct l vw_T vw_cl (kx np nd) { frames := 0, cells := 0, slots := 0, locals := 0 } y_xm_set b_xm_set 3 (some .boolean) (pre_xm_set np nd) (fn_xm_set np nd) := by
  refine mx_ct_of (tb_xm_set np nd ) (by decide) (ok_xm_set l np nd ) (fun as u h => by obtain ⟨_, _, rfl, -⟩ := h; exact Nat.le_of_ble_eq_true rfl) ?_
  intro as u hpre At hc hw
  obtain ⟨a1, a2, rfl, hp⟩ := hpre
  exact hc 200 [] _ _ _ _ (
    And.intro (fun h1 => 
     And.intro (Or.inl rfl) (
     congrArg mx_rB (show (0, u) = (xm_set a1 a2 u) from (if_pos h1).symm))) (fun h1 => 
     And.intro (fun h7 => 
      And.intro (((hp.2 h1).1 h7)) (
      And.intro (Or.inr rfl) (
      congrArg mx_rB (show (1, (mx_sa u 3 (a1).toNatClampNeg a2)) = (xm_set a1 a2 u) from ((if_neg h1).trans (if_pos h7)).symm)))) (fun h7 => 
      And.intro (Or.inl rfl) (
      congrArg mx_rB (show (0, u) = (xm_set a1 a2 u) from ((if_neg h1).trans (if_neg h7)).symm)))))
/-! WideMachine.get(I)I -/
def xm_get (a1 : Int32) (u : mx_S) : Int32 :=
  if a1 < 0 then
   0
  else
   if a1 < 32 then
    (mx_ga u 3 (a1).toNatClampNeg)
   else
    0
def q_xm_get (np nd : Nat) (a1 : Int32) (u : mx_S) : Prop :=
  ((a1 < 0) → 
   True) ∧ ((¬ (a1 < 0)) → 
   ((a1 < 32) → 
    (vp_in a1 32)) ∧ ((¬ (a1 < 32)) → 
    True))
def pre_xm_get (np nd : Nat) : List mx_V → mx_S → Prop := fun as u => ∃ (a1 : Int32), as = [.inr (.inr 0), .inl a1] ∧ q_xm_get np nd a1 u
def fn_xm_get (np nd : Nat) : mx_F := fun as u => match as with
  | [_, .inl a1] => mx_rI u (xm_get a1 u)
  | _ => (none, u)
def tb_xm_get (np nd : Nat) : List (Nat × mx_T) := [
  (0, mx_iload_n 1 0),
  (1, mx_if_lt 10 1),
  (4, mx_iload_n 1 4),
  (5, mx_bipush 32 5),
  (7, mx_icmp_lt 14 7),
  (10, mx_iconst 0 10),
  (11, mx_goto 20 11),
  (14, mx_aload_n 0 14),
  (15, mx_getf (kx np nd) 0 2 15),
  (18, mx_iload_n 1 18),
  (19, mx_iald (kx np nd) 19),
  (20, mx_iret 20)]
set_option maxRecDepth 100000 in
set_option maxHeartbeats 4000000 in
theorem ok_xm_get (l : Launch) (np nd : Nat) : ∀ q ∈ tb_xm_get np nd , mx_Ok l ({ frames := 0, cells := 0, slots := 0, locals := 0 } : Room) b_xm_get 2 "WideMachine" (some .int) vw_T vw_cl (kx np nd) q.1 q.2 := by
  refine List.forall_mem_cons.mpr ⟨mx_ok_iload_n (show decode b_xm_get 0 = .ok (.iload_n 1, 1) by decide +kernel) rfl, ?_⟩
  refine List.forall_mem_cons.mpr ⟨mx_ok_if_lt (show decode b_xm_get 1 = .ok (.ifCond .lt 9, 3) by decide +kernel) (by decide), ?_⟩
  refine List.forall_mem_cons.mpr ⟨mx_ok_iload_n (show decode b_xm_get 4 = .ok (.iload_n 1, 1) by decide +kernel) rfl, ?_⟩
  refine List.forall_mem_cons.mpr ⟨mx_ok_bipush (show decode b_xm_get 5 = .ok (.bipush 32, 2) by decide +kernel) (by decide), ?_⟩
  refine List.forall_mem_cons.mpr ⟨mx_ok_icmp_lt (show decode b_xm_get 7 = .ok (.if_icmp .lt 7, 3) by decide +kernel) (by decide), ?_⟩
  refine List.forall_mem_cons.mpr ⟨mx_ok_iconst (show decode b_xm_get 10 = .ok (.iconst 0, 1) by decide +kernel) (by decide), ?_⟩
  refine List.forall_mem_cons.mpr ⟨mx_ok_goto (show decode b_xm_get 11 = .ok (.goto 9, 3) by decide +kernel) (by decide), ?_⟩
  refine List.forall_mem_cons.mpr ⟨mx_ok_aload_n (show decode b_xm_get 14 = .ok (.aload_n 0, 1) by decide +kernel) rfl, ?_⟩
  refine List.forall_mem_cons.mpr ⟨mx_ok_getf fd_xm_20 (show decode b_xm_get 15 = .ok (.getfield 20, 3) by decide +kernel), ?_⟩
  refine List.forall_mem_cons.mpr ⟨mx_ok_iload_n (show decode b_xm_get 18 = .ok (.iload_n 1, 1) by decide +kernel) rfl, ?_⟩
  refine List.forall_mem_cons.mpr ⟨mx_ok_iald (show decode b_xm_get 19 = .ok (.iaload, 1) by decide +kernel), ?_⟩
  refine List.forall_mem_cons.mpr ⟨mx_ok_iret (show decode b_xm_get 20 = .ok (.ireturn, 1) by decide +kernel) rfl, ?_⟩
  exact fun _ h => absurd h List.not_mem_nil
set_option maxRecDepth 100000 in
set_option maxHeartbeats 4000000 in
theorem ct_xm_get (l : Launch) (np nd : Nat) : mx_Ct l vw_T vw_cl (kx np nd) { frames := 0, cells := 0, slots := 0, locals := 0 } y_xm_get b_xm_get 2 (some .int) (pre_xm_get np nd) (fn_xm_get np nd) := by
  refine mx_ct_of (tb_xm_get np nd ) (by decide) (ok_xm_get l np nd ) (fun as u h => by obtain ⟨_, rfl, -⟩ := h; exact Nat.le_of_ble_eq_true rfl) ?_
  intro as u hpre At hc hw
  obtain ⟨a1, rfl, hp⟩ := hpre
  exact hc 200 [] _ _ _ _ (
    And.intro (fun h1 => 
     congrArg (mx_rI u) (show 0 = (xm_get a1 u) from (if_pos h1).symm)) (fun h1 => 
     And.intro (fun h7 => 
      And.intro (((hp.2 h1).1 h7)) (
      congrArg (mx_rI u) (show (mx_ga u 3 (a1).toNatClampNeg) = (xm_get a1 u) from ((if_neg h1).trans (if_pos h7)).symm))) (fun h7 => 
      congrArg (mx_rI u) (show 0 = (xm_get a1 u) from ((if_neg h1).trans (if_neg h7)).symm))))
/-! WideMachine.isRaised(I)Z -/
def xm_isRaised (a1 : Int32) (u : mx_S) : Int32 :=
  if (((mx_gf u 0 10) >>> (a1 &&& 31)) &&& (1 : Int32)) = 0 then
   0
  else
   1
def pre_xm_isRaised (np nd : Nat) : List mx_V → mx_S → Prop := fun as u => ∃ (a1 : Int32), as = [.inr (.inr 0), .inl a1] ∧ True
def fn_xm_isRaised (np nd : Nat) : mx_F := fun as u => match as with
  | [_, .inl a1] => mx_rI u (xm_isRaised a1 u)
  | _ => (none, u)
def tb_xm_isRaised (np nd : Nat) : List (Nat × mx_T) := [
  (0, mx_aload_n 0 0),
  (1, mx_getf (kx np nd) 0 10 1),
  (4, mx_iload_n 1 4),
  (5, mx_ishr 5),
  (6, mx_iconst 1 6),
  (7, mx_iand 7),
  (8, mx_if_eq 15 8),
  (11, mx_iconst 1 11),
  (12, mx_goto 16 12),
  (15, mx_iconst 0 15),
  (16, mx_zret 16)]
set_option maxRecDepth 100000 in
set_option maxHeartbeats 4000000 in
theorem ok_xm_isRaised (l : Launch) (np nd : Nat) : ∀ q ∈ tb_xm_isRaised np nd , mx_Ok l ({ frames := 0, cells := 0, slots := 0, locals := 0 } : Room) b_xm_isRaised 2 "WideMachine" (some .boolean) vw_T vw_cl (kx np nd) q.1 q.2 := by
  refine List.forall_mem_cons.mpr ⟨mx_ok_aload_n (show decode b_xm_isRaised 0 = .ok (.aload_n 0, 1) by decide +kernel) rfl, ?_⟩
  refine List.forall_mem_cons.mpr ⟨mx_ok_getf fd_xm_68 (show decode b_xm_isRaised 1 = .ok (.getfield 68, 3) by decide +kernel), ?_⟩
  refine List.forall_mem_cons.mpr ⟨mx_ok_iload_n (show decode b_xm_isRaised 4 = .ok (.iload_n 1, 1) by decide +kernel) rfl, ?_⟩
  refine List.forall_mem_cons.mpr ⟨mx_ok_ishr (show decode b_xm_isRaised 5 = .ok (.ishr, 1) by decide +kernel), ?_⟩
  refine List.forall_mem_cons.mpr ⟨mx_ok_iconst (show decode b_xm_isRaised 6 = .ok (.iconst 1, 1) by decide +kernel) (by decide), ?_⟩
  refine List.forall_mem_cons.mpr ⟨mx_ok_iand (show decode b_xm_isRaised 7 = .ok (.iand, 1) by decide +kernel), ?_⟩
  refine List.forall_mem_cons.mpr ⟨mx_ok_if_eq (show decode b_xm_isRaised 8 = .ok (.ifCond .eq 7, 3) by decide +kernel) (by decide), ?_⟩
  refine List.forall_mem_cons.mpr ⟨mx_ok_iconst (show decode b_xm_isRaised 11 = .ok (.iconst 1, 1) by decide +kernel) (by decide), ?_⟩
  refine List.forall_mem_cons.mpr ⟨mx_ok_goto (show decode b_xm_isRaised 12 = .ok (.goto 4, 3) by decide +kernel) (by decide), ?_⟩
  refine List.forall_mem_cons.mpr ⟨mx_ok_iconst (show decode b_xm_isRaised 15 = .ok (.iconst 0, 1) by decide +kernel) (by decide), ?_⟩
  refine List.forall_mem_cons.mpr ⟨mx_ok_zret (show decode b_xm_isRaised 16 = .ok (.ireturn, 1) by decide +kernel) rfl, ?_⟩
  exact fun _ h => absurd h List.not_mem_nil
set_option maxRecDepth 100000 in
set_option maxHeartbeats 4000000 in
theorem ct_xm_isRaised (l : Launch) (np nd : Nat) : mx_Ct l vw_T vw_cl (kx np nd) { frames := 0, cells := 0, slots := 0, locals := 0 } y_xm_isRaised b_xm_isRaised 2 (some .boolean) (pre_xm_isRaised np nd) (fn_xm_isRaised np nd) := by
  refine mx_ct_of (tb_xm_isRaised np nd ) (by decide) (ok_xm_isRaised l np nd ) (fun as u h => by obtain ⟨_, rfl, -⟩ := h; exact Nat.le_of_ble_eq_true rfl) ?_
  intro as u hpre At hc hw
  obtain ⟨a1, rfl, hp⟩ := hpre
  exact hc 200 [] _ _ _ _ (
    And.intro (fun h8 => 
     And.intro (Or.inl rfl) (
     congrArg (mx_rI u) (show 0 = (xm_isRaised a1 u) from (if_pos h8).symm))) (fun h8 => 
     And.intro (Or.inr rfl) (
     congrArg (mx_rI u) (show 1 = (xm_isRaised a1 u) from (if_neg h8).symm))))
/-! WideMachine.endOfPacket()I -/
def xm_endOfPacket_l22 (np nd : Nat) (u : mx_S) : Nat → Int32 → Int32 → (Int32)
  | 0, _, _ => 0
  | n + 1, v1, v2 =>
    if v1 < v2 then
     (-1)
    else
     if (nI np) ≤ v2 then
      (-1)
     else
      if (xw_goesOn (mx_ga u 1 (v2).toNatClampNeg) ) = 0 then
       (v2 + (1 : Int32))
      else
       xm_endOfPacket_l22 np nd u n v1 (v2 + 1)
def q_xm_endOfPacket_l22 (np nd : Nat) (u : mx_S) : Nat → Int32 → Int32 → Prop
  | 0, _, _ => False
  | n + 1, v1, v2 =>
    ((v1 < v2) → 
     True) ∧ ((¬ (v1 < v2)) → 
     (((nI np) ≤ v2) → 
      True) ∧ ((¬ ((nI np) ≤ v2)) → 
      (vp_in v2 np) ∧ (
       ((¬ ((xw_goesOn (mx_ga u 1 (v2).toNatClampNeg) ) = 0)) → 
        q_xm_endOfPacket_l22 np nd u n v1 (v2 + 1)) ∧ (((xw_goesOn (mx_ga u 1 (v2).toNatClampNeg) ) = 0) → 
        True))))
def xm_endOfPacket (np nd : Nat) (u : mx_S) : Int32 :=
  if 0 ≤ (mx_gf u 0 6) then
   xm_endOfPacket_l22 np nd u 20 ((mx_gf u 0 6) ||| (7 : Int32)) (mx_gf u 0 6)
  else
   (-1)
def q_xm_endOfPacket (np nd : Nat) (u : mx_S) : Prop :=
  ((0 ≤ (mx_gf u 0 6)) → 
   q_xm_endOfPacket_l22 np nd u 20 ((mx_gf u 0 6) ||| (7 : Int32)) (mx_gf u 0 6)) ∧ ((¬ (0 ≤ (mx_gf u 0 6))) → 
   True)
def pre_xm_endOfPacket (np nd : Nat) : List mx_V → mx_S → Prop := fun as u => as = [.inr (.inr 0)] ∧ q_xm_endOfPacket np nd u
def fn_xm_endOfPacket (np nd : Nat) : mx_F := fun as u => match as with
  | [_] => mx_rI u (xm_endOfPacket np nd u)
  | _ => (none, u)
def tb_xm_endOfPacket (np nd : Nat) : List (Nat × mx_T) := [
  (0, mx_aload_n 0 0),
  (1, mx_getf (kx np nd) 0 6 1),
  (4, mx_if_ge 9 4),
  (7, mx_iconst (-1) 7),
  (8, mx_iret 8),
  (9, mx_aload_n 0 9),
  (10, mx_getf (kx np nd) 0 6 10),
  (13, mx_bipush 7 13),
  (15, mx_ior 15),
  (16, mx_istore_n 1 16),
  (17, mx_aload_n 0 17),
  (18, mx_getf (kx np nd) 0 6 18),
  (21, mx_istore_n 2 21),
  (22, mx_iload_n 2 22),
  (23, mx_iload_n 1 23),
  (24, mx_icmp_gt 58 24),
  (27, mx_iload_n 2 27),
  (28, mx_aload_n 0 28),
  (29, mx_getf (kx np nd) 0 0 29),
  (32, mx_alen (kx np nd) 32),
  (33, mx_icmp_ge 58 33),
  (36, mx_aload_n 0 36),
  (37, mx_getf (kx np nd) 0 0 37),
  (40, mx_iload_n 2 40),
  (41, mx_iald (kx np nd) 41),
  (42, mx_invS 1 (pre_xw_goesOn np nd) (fn_xw_goesOn np nd) 42),
  (45, mx_if_ne 52 45),
  (48, mx_iload_n 2 48),
  (49, mx_iconst 1 49),
  (50, mx_iadd 50),
  (51, mx_iret 51),
  (52, mx_iinc 2 1 52),
  (55, mx_goto 22 55),
  (58, mx_iconst (-1) 58),
  (59, mx_iret 59)]
set_option maxRecDepth 100000 in
set_option maxHeartbeats 4000000 in
theorem ok_xm_endOfPacket (l : Launch) (np nd : Nat) : ∀ q ∈ tb_xm_endOfPacket np nd , mx_Ok l ({ frames := 1, cells := 0, slots := 0, locals := 20 } : Room) b_xm_endOfPacket 3 "WideMachine" (some .int) vw_T vw_cl (kx np nd) q.1 q.2 := by
  refine List.forall_mem_cons.mpr ⟨mx_ok_aload_n (show decode b_xm_endOfPacket 0 = .ok (.aload_n 0, 1) by decide +kernel) rfl, ?_⟩
  refine List.forall_mem_cons.mpr ⟨mx_ok_getf fd_xm_48 (show decode b_xm_endOfPacket 1 = .ok (.getfield 48, 3) by decide +kernel), ?_⟩
  refine List.forall_mem_cons.mpr ⟨mx_ok_if_ge (show decode b_xm_endOfPacket 4 = .ok (.ifCond .ge 5, 3) by decide +kernel) (by decide), ?_⟩
  refine List.forall_mem_cons.mpr ⟨mx_ok_iconst (show decode b_xm_endOfPacket 7 = .ok (.iconst (-1), 1) by decide +kernel) (by decide), ?_⟩
  refine List.forall_mem_cons.mpr ⟨mx_ok_iret (show decode b_xm_endOfPacket 8 = .ok (.ireturn, 1) by decide +kernel) rfl, ?_⟩
  refine List.forall_mem_cons.mpr ⟨mx_ok_aload_n (show decode b_xm_endOfPacket 9 = .ok (.aload_n 0, 1) by decide +kernel) rfl, ?_⟩
  refine List.forall_mem_cons.mpr ⟨mx_ok_getf fd_xm_48 (show decode b_xm_endOfPacket 10 = .ok (.getfield 48, 3) by decide +kernel), ?_⟩
  refine List.forall_mem_cons.mpr ⟨mx_ok_bipush (show decode b_xm_endOfPacket 13 = .ok (.bipush 7, 2) by decide +kernel) (by decide), ?_⟩
  refine List.forall_mem_cons.mpr ⟨mx_ok_ior (show decode b_xm_endOfPacket 15 = .ok (.ior, 1) by decide +kernel), ?_⟩
  refine List.forall_mem_cons.mpr ⟨mx_ok_istore_n (show decode b_xm_endOfPacket 16 = .ok (.istore_n 1, 1) by decide +kernel) rfl (by decide), ?_⟩
  refine List.forall_mem_cons.mpr ⟨mx_ok_aload_n (show decode b_xm_endOfPacket 17 = .ok (.aload_n 0, 1) by decide +kernel) rfl, ?_⟩
  refine List.forall_mem_cons.mpr ⟨mx_ok_getf fd_xm_48 (show decode b_xm_endOfPacket 18 = .ok (.getfield 48, 3) by decide +kernel), ?_⟩
  refine List.forall_mem_cons.mpr ⟨mx_ok_istore_n (show decode b_xm_endOfPacket 21 = .ok (.istore_n 2, 1) by decide +kernel) rfl (by decide), ?_⟩
  refine List.forall_mem_cons.mpr ⟨mx_ok_iload_n (show decode b_xm_endOfPacket 22 = .ok (.iload_n 2, 1) by decide +kernel) rfl, ?_⟩
  refine List.forall_mem_cons.mpr ⟨mx_ok_iload_n (show decode b_xm_endOfPacket 23 = .ok (.iload_n 1, 1) by decide +kernel) rfl, ?_⟩
  refine List.forall_mem_cons.mpr ⟨mx_ok_icmp_gt (show decode b_xm_endOfPacket 24 = .ok (.if_icmp .gt 34, 3) by decide +kernel) (by decide), ?_⟩
  refine List.forall_mem_cons.mpr ⟨mx_ok_iload_n (show decode b_xm_endOfPacket 27 = .ok (.iload_n 2, 1) by decide +kernel) rfl, ?_⟩
  refine List.forall_mem_cons.mpr ⟨mx_ok_aload_n (show decode b_xm_endOfPacket 28 = .ok (.aload_n 0, 1) by decide +kernel) rfl, ?_⟩
  refine List.forall_mem_cons.mpr ⟨mx_ok_getf fd_xm_13 (show decode b_xm_endOfPacket 29 = .ok (.getfield 13, 3) by decide +kernel), ?_⟩
  refine List.forall_mem_cons.mpr ⟨mx_ok_alen (show decode b_xm_endOfPacket 32 = .ok (.arraylength, 1) by decide +kernel), ?_⟩
  refine List.forall_mem_cons.mpr ⟨mx_ok_icmp_ge (show decode b_xm_endOfPacket 33 = .ok (.if_icmp .ge 25, 3) by decide +kernel) (by decide), ?_⟩
  refine List.forall_mem_cons.mpr ⟨mx_ok_aload_n (show decode b_xm_endOfPacket 36 = .ok (.aload_n 0, 1) by decide +kernel) rfl, ?_⟩
  refine List.forall_mem_cons.mpr ⟨mx_ok_getf fd_xm_13 (show decode b_xm_endOfPacket 37 = .ok (.getfield 13, 3) by decide +kernel), ?_⟩
  refine List.forall_mem_cons.mpr ⟨mx_ok_iload_n (show decode b_xm_endOfPacket 40 = .ok (.iload_n 2, 1) by decide +kernel) rfl, ?_⟩
  refine List.forall_mem_cons.mpr ⟨mx_ok_iald (show decode b_xm_endOfPacket 41 = .ok (.iaload, 1) by decide +kernel), ?_⟩
  refine List.forall_mem_cons.mpr ⟨mx_ok_invS vw_G (ct_xw_goesOn l np nd) ⟨vm_95, vm_96, vm_97, ⟨by decide +kernel, by decide +kernel, by decide +kernel⟩, ⟨by decide, by decide⟩, rfl, rfl⟩ vm_98 (show decode b_xm_endOfPacket 42 = .ok (.invokestatic 134, 3) by decide +kernel), ?_⟩
  refine List.forall_mem_cons.mpr ⟨mx_ok_if_ne (show decode b_xm_endOfPacket 45 = .ok (.ifCond .ne 7, 3) by decide +kernel) (by decide), ?_⟩
  refine List.forall_mem_cons.mpr ⟨mx_ok_iload_n (show decode b_xm_endOfPacket 48 = .ok (.iload_n 2, 1) by decide +kernel) rfl, ?_⟩
  refine List.forall_mem_cons.mpr ⟨mx_ok_iconst (show decode b_xm_endOfPacket 49 = .ok (.iconst 1, 1) by decide +kernel) (by decide), ?_⟩
  refine List.forall_mem_cons.mpr ⟨mx_ok_iadd (show decode b_xm_endOfPacket 50 = .ok (.iadd, 1) by decide +kernel), ?_⟩
  refine List.forall_mem_cons.mpr ⟨mx_ok_iret (show decode b_xm_endOfPacket 51 = .ok (.ireturn, 1) by decide +kernel) rfl, ?_⟩
  refine List.forall_mem_cons.mpr ⟨mx_ok_iinc (show decode b_xm_endOfPacket 52 = .ok (.iinc 2 1, 3) by decide +kernel) (by decide) (by decide), ?_⟩
  refine List.forall_mem_cons.mpr ⟨mx_ok_goto (show decode b_xm_endOfPacket 55 = .ok (.goto (-33), 3) by decide +kernel) (by decide), ?_⟩
  refine List.forall_mem_cons.mpr ⟨mx_ok_iconst (show decode b_xm_endOfPacket 58 = .ok (.iconst (-1), 1) by decide +kernel) (by decide), ?_⟩
  refine List.forall_mem_cons.mpr ⟨mx_ok_iret (show decode b_xm_endOfPacket 59 = .ok (.ireturn, 1) by decide +kernel) rfl, ?_⟩
  exact fun _ h => absurd h List.not_mem_nil
set_option maxRecDepth 100000 in
set_option maxHeartbeats 4000000 in
theorem ct_xm_endOfPacket (l : Launch) (np nd : Nat) : mx_Ct l vw_T vw_cl (kx np nd) { frames := 1, cells := 0, slots := 0, locals := 20 } y_xm_endOfPacket b_xm_endOfPacket 3 (some .int) (pre_xm_endOfPacket np nd) (fn_xm_endOfPacket np nd) := by
  refine mx_ct_of (tb_xm_endOfPacket np nd ) (by decide) (ok_xm_endOfPacket l np nd ) (fun as u h => by obtain ⟨rfl, -⟩ := h; exact Nat.le_of_ble_eq_true rfl) ?_
  intro as u hpre At hc hw
  obtain ⟨rfl, hp⟩ := hpre
  obtain ⟨RES, hRES⟩ : ∃ z, z = (xm_endOfPacket np nd u) := ⟨_, rfl⟩
  have hfn : fn_xm_endOfPacket np nd [.inr (.inr 0)] u = mx_rI u RES := by rw [hRES]; rfl
  rw [hfn] at hc
  have lp22 : ∀ (n22 : Nat) (v1 : Int32) (v2 : Int32), q_xm_endOfPacket_l22 np nd u n22 v1 v2 → xm_endOfPacket_l22 np nd u n22 v1 v2 = RES → At 22 [(1, .inl v1), (2, .inl v2), (0, .inr (.inr 0))] [] u := by
    intro n22
    induction n22 with
    | zero =>
      intro v1 v2 hi he
      exact hi.elim
    | succ n22 ih22 =>
      intro v1 v2 hi22 he22
      exact hc 200 [22] _ _ _ _ (
        And.intro (fun h24 => 
         congrArg (mx_rI u) (show (-1) = RES from (if_pos h24).symm.trans he22)) (fun h24 => 
         And.intro (fun h33 => 
          congrArg (mx_rI u) (show (-1) = RES from ((if_neg h24).trans (if_pos h33)).symm.trans he22)) (fun h33 => 
          And.intro (((hi22.2 h24).2 h33).1) (
          And.intro rfl (
          And.intro ⟨_, rfl, trivial⟩ (
          And.intro (fun h45 => 
           hw [1, 0, 2] _ _ _ _ (ih22 v1 (v2 + 1) (((hi22.2 h24).2 h33).2.1 h45) (((if_neg h24).trans ((if_neg h33).trans (if_neg h45))).symm.trans he22))) (fun h45 => 
           congrArg (mx_rI u) (show (v2 + (1 : Int32)) = RES from ((if_neg h24).trans ((if_neg h33).trans (if_pos h45))).symm.trans he22))))))))
  exact hc 200 [22] _ _ _ _ (
    And.intro (fun h4 => 
     hw [1, 0, 2] _ _ _ _ (lp22 20 ((mx_gf u 0 6) ||| (7 : Int32)) (mx_gf u 0 6) (hp.1 h4) ((if_pos h4).symm.trans hRES.symm))) (fun h4 => 
     congrArg (mx_rI u) (show (-1) = RES from (if_neg h4).symm.trans hRES.symm)))
/-! WideMachine.hasIllFormed(I)Z -/
def xm_hasIllFormed_l5 (a1 : Int32) (u : mx_S) : Nat → Int32 → (Int32)
  | 0, _ => 0
  | n + 1, v2 =>
    if a1 ≤ v2 then
     0
    else
     if (xw_isIllFormed (mx_ga u 1 (v2).toNatClampNeg) ) = 0 then
      xm_hasIllFormed_l5 a1 u n (v2 + 1)
     else
      1
def q_xm_hasIllFormed_l5 (np nd : Nat) (a1 : Int32) (u : mx_S) : Nat → Int32 → Prop
  | 0, _ => False
  | n + 1, v2 =>
    ((a1 ≤ v2) → 
     True) ∧ ((¬ (a1 ≤ v2)) → 
     (vp_in v2 np) ∧ (
      (((xw_isIllFormed (mx_ga u 1 (v2).toNatClampNeg) ) = 0) → 
       q_xm_hasIllFormed_l5 np nd a1 u n (v2 + 1)) ∧ ((¬ ((xw_isIllFormed (mx_ga u 1 (v2).toNatClampNeg) ) = 0)) → 
       True)))
def xm_hasIllFormed (a1 : Int32) (u : mx_S) : Int32 :=
  xm_hasIllFormed_l5 a1 u 20 (mx_gf u 0 6)
def q_xm_hasIllFormed (np nd : Nat) (a1 : Int32) (u : mx_S) : Prop :=
  q_xm_hasIllFormed_l5 np nd a1 u 20 (mx_gf u 0 6)
def pre_xm_hasIllFormed (np nd : Nat) : List mx_V → mx_S → Prop := fun as u => ∃ (a1 : Int32), as = [.inr (.inr 0), .inl a1] ∧ q_xm_hasIllFormed np nd a1 u
def fn_xm_hasIllFormed (np nd : Nat) : mx_F := fun as u => match as with
  | [_, .inl a1] => mx_rI u (xm_hasIllFormed a1 u)
  | _ => (none, u)
def tb_xm_hasIllFormed (np nd : Nat) : List (Nat × mx_T) := [
  (0, mx_aload_n 0 0),
  (1, mx_getf (kx np nd) 0 6 1),
  (4, mx_istore_n 2 4),
  (5, mx_iload_n 2 5),
  (6, mx_iload_n 1 6),
  (7, mx_icmp_ge 30 7),
  (10, mx_aload_n 0 10),
  (11, mx_getf (kx np nd) 0 0 11),
  (14, mx_iload_n 2 14),
  (15, mx_iald (kx np nd) 15),
  (16, mx_invS 1 (pre_xw_isIllFormed np nd) (fn_xw_isIllFormed np nd) 16),
  (19, mx_if_eq 24 19),
  (22, mx_iconst 1 22),
  (23, mx_zret 23),
  (24, mx_iinc 2 1 24),
  (27, mx_goto 5 27),
  (30, mx_iconst 0 30),
  (31, mx_zret 31)]
set_option maxRecDepth 100000 in
set_option maxHeartbeats 4000000 in
theorem ok_xm_hasIllFormed (l : Launch) (np nd : Nat) : ∀ q ∈ tb_xm_hasIllFormed np nd , mx_Ok l ({ frames := 2, cells := 0, slots := 0, locals := 42 } : Room) b_xm_hasIllFormed 3 "WideMachine" (some .boolean) vw_T vw_cl (kx np nd) q.1 q.2 := by
  refine List.forall_mem_cons.mpr ⟨mx_ok_aload_n (show decode b_xm_hasIllFormed 0 = .ok (.aload_n 0, 1) by decide +kernel) rfl, ?_⟩
  refine List.forall_mem_cons.mpr ⟨mx_ok_getf fd_xm_48 (show decode b_xm_hasIllFormed 1 = .ok (.getfield 48, 3) by decide +kernel), ?_⟩
  refine List.forall_mem_cons.mpr ⟨mx_ok_istore_n (show decode b_xm_hasIllFormed 4 = .ok (.istore_n 2, 1) by decide +kernel) rfl (by decide), ?_⟩
  refine List.forall_mem_cons.mpr ⟨mx_ok_iload_n (show decode b_xm_hasIllFormed 5 = .ok (.iload_n 2, 1) by decide +kernel) rfl, ?_⟩
  refine List.forall_mem_cons.mpr ⟨mx_ok_iload_n (show decode b_xm_hasIllFormed 6 = .ok (.iload_n 1, 1) by decide +kernel) rfl, ?_⟩
  refine List.forall_mem_cons.mpr ⟨mx_ok_icmp_ge (show decode b_xm_hasIllFormed 7 = .ok (.if_icmp .ge 23, 3) by decide +kernel) (by decide), ?_⟩
  refine List.forall_mem_cons.mpr ⟨mx_ok_aload_n (show decode b_xm_hasIllFormed 10 = .ok (.aload_n 0, 1) by decide +kernel) rfl, ?_⟩
  refine List.forall_mem_cons.mpr ⟨mx_ok_getf fd_xm_13 (show decode b_xm_hasIllFormed 11 = .ok (.getfield 13, 3) by decide +kernel), ?_⟩
  refine List.forall_mem_cons.mpr ⟨mx_ok_iload_n (show decode b_xm_hasIllFormed 14 = .ok (.iload_n 2, 1) by decide +kernel) rfl, ?_⟩
  refine List.forall_mem_cons.mpr ⟨mx_ok_iald (show decode b_xm_hasIllFormed 15 = .ok (.iaload, 1) by decide +kernel), ?_⟩
  refine List.forall_mem_cons.mpr ⟨mx_ok_invS vw_G (ct_xw_isIllFormed l np nd) ⟨vm_126, vm_127, vm_97, ⟨by decide +kernel, by decide +kernel, by decide +kernel⟩, ⟨by decide, by decide⟩, rfl, rfl⟩ vm_128 (show decode b_xm_hasIllFormed 16 = .ok (.invokestatic 151, 3) by decide +kernel), ?_⟩
  refine List.forall_mem_cons.mpr ⟨mx_ok_if_eq (show decode b_xm_hasIllFormed 19 = .ok (.ifCond .eq 5, 3) by decide +kernel) (by decide), ?_⟩
  refine List.forall_mem_cons.mpr ⟨mx_ok_iconst (show decode b_xm_hasIllFormed 22 = .ok (.iconst 1, 1) by decide +kernel) (by decide), ?_⟩
  refine List.forall_mem_cons.mpr ⟨mx_ok_zret (show decode b_xm_hasIllFormed 23 = .ok (.ireturn, 1) by decide +kernel) rfl, ?_⟩
  refine List.forall_mem_cons.mpr ⟨mx_ok_iinc (show decode b_xm_hasIllFormed 24 = .ok (.iinc 2 1, 3) by decide +kernel) (by decide) (by decide), ?_⟩
  refine List.forall_mem_cons.mpr ⟨mx_ok_goto (show decode b_xm_hasIllFormed 27 = .ok (.goto (-22), 3) by decide +kernel) (by decide), ?_⟩
  refine List.forall_mem_cons.mpr ⟨mx_ok_iconst (show decode b_xm_hasIllFormed 30 = .ok (.iconst 0, 1) by decide +kernel) (by decide), ?_⟩
  refine List.forall_mem_cons.mpr ⟨mx_ok_zret (show decode b_xm_hasIllFormed 31 = .ok (.ireturn, 1) by decide +kernel) rfl, ?_⟩
  exact fun _ h => absurd h List.not_mem_nil
set_option maxRecDepth 100000 in
set_option maxHeartbeats 4000000 in
theorem ct_xm_hasIllFormed (l : Launch) (np nd : Nat) : mx_Ct l vw_T vw_cl (kx np nd) { frames := 2, cells := 0, slots := 0, locals := 42 } y_xm_hasIllFormed b_xm_hasIllFormed 3 (some .boolean) (pre_xm_hasIllFormed np nd) (fn_xm_hasIllFormed np nd) := by
  refine mx_ct_of (tb_xm_hasIllFormed np nd ) (by decide) (ok_xm_hasIllFormed l np nd ) (fun as u h => by obtain ⟨_, rfl, -⟩ := h; exact Nat.le_of_ble_eq_true rfl) ?_
  intro as u hpre At hc hw
  obtain ⟨a1, rfl, hp⟩ := hpre
  obtain ⟨RES, hRES⟩ : ∃ z, z = (xm_hasIllFormed a1 u) := ⟨_, rfl⟩
  have hfn : fn_xm_hasIllFormed np nd [.inr (.inr 0), .inl a1] u = mx_rI u RES := by rw [hRES]; rfl
  rw [hfn] at hc
  have lp5 : ∀ (n5 : Nat) (v2 : Int32), q_xm_hasIllFormed_l5 np nd a1 u n5 v2 → xm_hasIllFormed_l5 a1 u n5 v2 = RES → At 5 [(2, .inl v2), (0, .inr (.inr 0)), (1, .inl a1)] [] u := by
    intro n5
    induction n5 with
    | zero =>
      intro v2 hi he
      exact hi.elim
    | succ n5 ih5 =>
      intro v2 hi5 he5
      exact hc 200 [5] _ _ _ _ (
        And.intro (fun h7 => 
         And.intro (Or.inl rfl) (
         congrArg (mx_rI u) (show 0 = RES from (if_pos h7).symm.trans he5))) (fun h7 => 
         And.intro ((hi5.2 h7).1) (
         And.intro rfl (
         And.intro ⟨_, rfl, trivial⟩ (
         And.intro (fun h19 => 
          hw [0, 1, 2] _ _ _ _ (ih5 (v2 + 1) ((hi5.2 h7).2.1 h19) (((if_neg h7).trans (if_pos h19)).symm.trans he5))) (fun h19 => 
          And.intro (Or.inr rfl) (
          congrArg (mx_rI u) (show 1 = RES from ((if_neg h7).trans (if_neg h19)).symm.trans he5))))))))
  exact hc 200 [5] _ _ _ _ (
    hw [0, 1, 2] _ _ _ _ (lp5 20 (mx_gf u 0 6) hp ((rfl).symm.trans hRES.symm)))
/-! WideMachine.hasUnitTwice(I)Z -/
def xm_hasUnitTwice_l7 (a1 : Int32) (u : mx_S) : Nat → Int32 → Int32 → (Int32)
  | 0, _, _ => 0
  | n + 1, v2, v3 =>
    if a1 ≤ v3 then
     0
    else
     if (v2 &&& ((1 : Int32) <<< ((xw_unit (mx_ga u 1 (v3).toNatClampNeg) ) &&& 31))) = 0 then
      xm_hasUnitTwice_l7 a1 u n (v2 ||| ((1 : Int32) <<< ((xw_unit (mx_ga u 1 (v3).toNatClampNeg) ) &&& 31))) (v3 + 1)
     else
      1
def q_xm_hasUnitTwice_l7 (np nd : Nat) (a1 : Int32) (u : mx_S) : Nat → Int32 → Int32 → Prop
  | 0, _, _ => False
  | n + 1, v2, v3 =>
    ((a1 ≤ v3) → 
     True) ∧ ((¬ (a1 ≤ v3)) → 
     (vp_in v3 np) ∧ (
      (((v2 &&& ((1 : Int32) <<< ((xw_unit (mx_ga u 1 (v3).toNatClampNeg) ) &&& 31))) = 0) → 
       q_xm_hasUnitTwice_l7 np nd a1 u n (v2 ||| ((1 : Int32) <<< ((xw_unit (mx_ga u 1 (v3).toNatClampNeg) ) &&& 31))) (v3 + 1)) ∧ ((¬ ((v2 &&& ((1 : Int32) <<< ((xw_unit (mx_ga u 1 (v3).toNatClampNeg) ) &&& 31))) = 0)) → 
       True)))
def xm_hasUnitTwice (a1 : Int32) (u : mx_S) : Int32 :=
  xm_hasUnitTwice_l7 a1 u 20 0 (mx_gf u 0 6)
def q_xm_hasUnitTwice (np nd : Nat) (a1 : Int32) (u : mx_S) : Prop :=
  q_xm_hasUnitTwice_l7 np nd a1 u 20 0 (mx_gf u 0 6)
def pre_xm_hasUnitTwice (np nd : Nat) : List mx_V → mx_S → Prop := fun as u => ∃ (a1 : Int32), as = [.inr (.inr 0), .inl a1] ∧ q_xm_hasUnitTwice np nd a1 u
def fn_xm_hasUnitTwice (np nd : Nat) : mx_F := fun as u => match as with
  | [_, .inl a1] => mx_rI u (xm_hasUnitTwice a1 u)
  | _ => (none, u)
def tb_xm_hasUnitTwice (np nd : Nat) : List (Nat × mx_T) := [
  (0, mx_iconst 0 0),
  (1, mx_istore_n 2 1),
  (2, mx_aload_n 0 2),
  (3, mx_getf (kx np nd) 0 6 3),
  (6, mx_istore_n 3 6),
  (7, mx_iload_n 3 7),
  (8, mx_iload_n 1 8),
  (9, mx_icmp_ge 45 9),
  (12, mx_iconst 1 12),
  (13, mx_aload_n 0 13),
  (14, mx_getf (kx np nd) 0 0 14),
  (17, mx_iload_n 3 17),
  (18, mx_iald (kx np nd) 18),
  (19, mx_invS 1 (pre_xw_unit np nd) (fn_xw_unit np nd) 19),
  (22, mx_ishl 22),
  (23, mx_istore 4 23),
  (25, mx_iload_n 2 25),
  (26, mx_iload 4 26),
  (28, mx_iand 28),
  (29, mx_if_eq 34 29),
  (32, mx_iconst 1 32),
  (33, mx_zret 33),
  (34, mx_iload_n 2 34),
  (35, mx_iload 4 35),
  (37, mx_ior 37),
  (38, mx_istore_n 2 38),
  (39, mx_iinc 3 1 39),
  (42, mx_goto 7 42),
  (45, mx_iconst 0 45),
  (46, mx_zret 46)]
set_option maxRecDepth 100000 in
set_option maxHeartbeats 4000000 in
theorem ok_xm_hasUnitTwice (l : Launch) (np nd : Nat) : ∀ q ∈ tb_xm_hasUnitTwice np nd , mx_Ok l ({ frames := 1, cells := 0, slots := 0, locals := 20 } : Room) b_xm_hasUnitTwice 5 "WideMachine" (some .boolean) vw_T vw_cl (kx np nd) q.1 q.2 := by
  refine List.forall_mem_cons.mpr ⟨mx_ok_iconst (show decode b_xm_hasUnitTwice 0 = .ok (.iconst 0, 1) by decide +kernel) (by decide), ?_⟩
  refine List.forall_mem_cons.mpr ⟨mx_ok_istore_n (show decode b_xm_hasUnitTwice 1 = .ok (.istore_n 2, 1) by decide +kernel) rfl (by decide), ?_⟩
  refine List.forall_mem_cons.mpr ⟨mx_ok_aload_n (show decode b_xm_hasUnitTwice 2 = .ok (.aload_n 0, 1) by decide +kernel) rfl, ?_⟩
  refine List.forall_mem_cons.mpr ⟨mx_ok_getf fd_xm_48 (show decode b_xm_hasUnitTwice 3 = .ok (.getfield 48, 3) by decide +kernel), ?_⟩
  refine List.forall_mem_cons.mpr ⟨mx_ok_istore_n (show decode b_xm_hasUnitTwice 6 = .ok (.istore_n 3, 1) by decide +kernel) rfl (by decide), ?_⟩
  refine List.forall_mem_cons.mpr ⟨mx_ok_iload_n (show decode b_xm_hasUnitTwice 7 = .ok (.iload_n 3, 1) by decide +kernel) rfl, ?_⟩
  refine List.forall_mem_cons.mpr ⟨mx_ok_iload_n (show decode b_xm_hasUnitTwice 8 = .ok (.iload_n 1, 1) by decide +kernel) rfl, ?_⟩
  refine List.forall_mem_cons.mpr ⟨mx_ok_icmp_ge (show decode b_xm_hasUnitTwice 9 = .ok (.if_icmp .ge 36, 3) by decide +kernel) (by decide), ?_⟩
  refine List.forall_mem_cons.mpr ⟨mx_ok_iconst (show decode b_xm_hasUnitTwice 12 = .ok (.iconst 1, 1) by decide +kernel) (by decide), ?_⟩
  refine List.forall_mem_cons.mpr ⟨mx_ok_aload_n (show decode b_xm_hasUnitTwice 13 = .ok (.aload_n 0, 1) by decide +kernel) rfl, ?_⟩
  refine List.forall_mem_cons.mpr ⟨mx_ok_getf fd_xm_13 (show decode b_xm_hasUnitTwice 14 = .ok (.getfield 13, 3) by decide +kernel), ?_⟩
  refine List.forall_mem_cons.mpr ⟨mx_ok_iload_n (show decode b_xm_hasUnitTwice 17 = .ok (.iload_n 3, 1) by decide +kernel) rfl, ?_⟩
  refine List.forall_mem_cons.mpr ⟨mx_ok_iald (show decode b_xm_hasUnitTwice 18 = .ok (.iaload, 1) by decide +kernel), ?_⟩
  refine List.forall_mem_cons.mpr ⟨mx_ok_invS vw_G (ct_xw_unit l np nd) ⟨vm_129, vm_130, vm_97, ⟨by decide +kernel, by decide +kernel, by decide +kernel⟩, ⟨by decide, by decide⟩, rfl, rfl⟩ vm_131 (show decode b_xm_hasUnitTwice 19 = .ok (.invokestatic 154, 3) by decide +kernel), ?_⟩
  refine List.forall_mem_cons.mpr ⟨mx_ok_ishl (show decode b_xm_hasUnitTwice 22 = .ok (.ishl, 1) by decide +kernel), ?_⟩
  refine List.forall_mem_cons.mpr ⟨mx_ok_istore (show decode b_xm_hasUnitTwice 23 = .ok (.istore 4, 2) by decide +kernel) (by decide), ?_⟩
  refine List.forall_mem_cons.mpr ⟨mx_ok_iload_n (show decode b_xm_hasUnitTwice 25 = .ok (.iload_n 2, 1) by decide +kernel) rfl, ?_⟩
  refine List.forall_mem_cons.mpr ⟨mx_ok_iload (show decode b_xm_hasUnitTwice 26 = .ok (.iload 4, 2) by decide +kernel), ?_⟩
  refine List.forall_mem_cons.mpr ⟨mx_ok_iand (show decode b_xm_hasUnitTwice 28 = .ok (.iand, 1) by decide +kernel), ?_⟩
  refine List.forall_mem_cons.mpr ⟨mx_ok_if_eq (show decode b_xm_hasUnitTwice 29 = .ok (.ifCond .eq 5, 3) by decide +kernel) (by decide), ?_⟩
  refine List.forall_mem_cons.mpr ⟨mx_ok_iconst (show decode b_xm_hasUnitTwice 32 = .ok (.iconst 1, 1) by decide +kernel) (by decide), ?_⟩
  refine List.forall_mem_cons.mpr ⟨mx_ok_zret (show decode b_xm_hasUnitTwice 33 = .ok (.ireturn, 1) by decide +kernel) rfl, ?_⟩
  refine List.forall_mem_cons.mpr ⟨mx_ok_iload_n (show decode b_xm_hasUnitTwice 34 = .ok (.iload_n 2, 1) by decide +kernel) rfl, ?_⟩
  refine List.forall_mem_cons.mpr ⟨mx_ok_iload (show decode b_xm_hasUnitTwice 35 = .ok (.iload 4, 2) by decide +kernel), ?_⟩
  refine List.forall_mem_cons.mpr ⟨mx_ok_ior (show decode b_xm_hasUnitTwice 37 = .ok (.ior, 1) by decide +kernel), ?_⟩
  refine List.forall_mem_cons.mpr ⟨mx_ok_istore_n (show decode b_xm_hasUnitTwice 38 = .ok (.istore_n 2, 1) by decide +kernel) rfl (by decide), ?_⟩
  refine List.forall_mem_cons.mpr ⟨mx_ok_iinc (show decode b_xm_hasUnitTwice 39 = .ok (.iinc 3 1, 3) by decide +kernel) (by decide) (by decide), ?_⟩
  refine List.forall_mem_cons.mpr ⟨mx_ok_goto (show decode b_xm_hasUnitTwice 42 = .ok (.goto (-35), 3) by decide +kernel) (by decide), ?_⟩
  refine List.forall_mem_cons.mpr ⟨mx_ok_iconst (show decode b_xm_hasUnitTwice 45 = .ok (.iconst 0, 1) by decide +kernel) (by decide), ?_⟩
  refine List.forall_mem_cons.mpr ⟨mx_ok_zret (show decode b_xm_hasUnitTwice 46 = .ok (.ireturn, 1) by decide +kernel) rfl, ?_⟩
  exact fun _ h => absurd h List.not_mem_nil
set_option maxRecDepth 100000 in
set_option maxHeartbeats 4000000 in
theorem ct_xm_hasUnitTwice (l : Launch) (np nd : Nat) : mx_Ct l vw_T vw_cl (kx np nd) { frames := 1, cells := 0, slots := 0, locals := 20 } y_xm_hasUnitTwice b_xm_hasUnitTwice 5 (some .boolean) (pre_xm_hasUnitTwice np nd) (fn_xm_hasUnitTwice np nd) := by
  refine mx_ct_of (tb_xm_hasUnitTwice np nd ) (by decide) (ok_xm_hasUnitTwice l np nd ) (fun as u h => by obtain ⟨_, rfl, -⟩ := h; exact Nat.le_of_ble_eq_true rfl) ?_
  intro as u hpre At hc hw
  obtain ⟨a1, rfl, hp⟩ := hpre
  obtain ⟨RES, hRES⟩ : ∃ z, z = (xm_hasUnitTwice a1 u) := ⟨_, rfl⟩
  have hfn : fn_xm_hasUnitTwice np nd [.inr (.inr 0), .inl a1] u = mx_rI u RES := by rw [hRES]; rfl
  rw [hfn] at hc
  have lp7 : ∀ (n7 : Nat) (v2 : Int32) (v3 : Int32), q_xm_hasUnitTwice_l7 np nd a1 u n7 v2 v3 → xm_hasUnitTwice_l7 a1 u n7 v2 v3 = RES → At 7 [(2, .inl v2), (3, .inl v3), (0, .inr (.inr 0)), (1, .inl a1)] [] u := by
    intro n7
    induction n7 with
    | zero =>
      intro v2 v3 hi he
      exact hi.elim
    | succ n7 ih7 =>
      intro v2 v3 hi7 he7
      exact hc 200 [7] _ _ _ _ (
        And.intro (fun h9 => 
         And.intro (Or.inl rfl) (
         congrArg (mx_rI u) (show 0 = RES from (if_pos h9).symm.trans he7))) (fun h9 => 
         And.intro ((hi7.2 h9).1) (
         And.intro rfl (
         And.intro ⟨_, rfl, trivial⟩ (
         And.intro (fun h29 => 
          hw [1, 0, 3, 4] _ _ _ _ (ih7 (v2 ||| ((1 : Int32) <<< ((xw_unit (mx_ga u 1 (v3).toNatClampNeg) ) &&& 31))) (v3 + 1) ((hi7.2 h9).2.1 h29) (((if_neg h9).trans (if_pos h29)).symm.trans he7))) (fun h29 => 
          And.intro (Or.inr rfl) (
          congrArg (mx_rI u) (show 1 = RES from ((if_neg h9).trans (if_neg h29)).symm.trans he7))))))))
  exact hc 200 [7] _ _ _ _ (
    hw [1, 0, 2, 3] _ _ _ _ (lp7 20 0 (mx_gf u 0 6) hp ((rfl).symm.trans hRES.symm)))
/-! WideMachine.hasCrossedTwice(I)Z -/
def xm_hasCrossedTwice_l7 (a1 : Int32) (u : mx_S) : Nat → Int32 → Int32 → (Int32)
  | 0, _, _ => 0
  | n + 1, v2, v3 =>
    if a1 ≤ v3 then
     0
    else
     if (xw_crosses (mx_ga u 1 (v3).toNatClampNeg) ) = 0 then
      xm_hasCrossedTwice_l7 a1 u n v2 (v3 + 1)
     else
      if (v2 &&& ((1 : Int32) <<< ((xw_side (mx_ga u 1 (v3).toNatClampNeg) ) &&& 31))) = 0 then
       xm_hasCrossedTwice_l7 a1 u n (v2 ||| ((1 : Int32) <<< ((xw_side (mx_ga u 1 (v3).toNatClampNeg) ) &&& 31))) (v3 + 1)
      else
       1
def q_xm_hasCrossedTwice_l7 (np nd : Nat) (a1 : Int32) (u : mx_S) : Nat → Int32 → Int32 → Prop
  | 0, _, _ => False
  | n + 1, v2, v3 =>
    ((a1 ≤ v3) → 
     True) ∧ ((¬ (a1 ≤ v3)) → 
     (vp_in v3 np) ∧ (
      (((xw_crosses (mx_ga u 1 (v3).toNatClampNeg) ) = 0) → 
       q_xm_hasCrossedTwice_l7 np nd a1 u n v2 (v3 + 1)) ∧ ((¬ ((xw_crosses (mx_ga u 1 (v3).toNatClampNeg) ) = 0)) → 
       (vp_in v3 np) ∧ (
        (((v2 &&& ((1 : Int32) <<< ((xw_side (mx_ga u 1 (v3).toNatClampNeg) ) &&& 31))) = 0) → 
         q_xm_hasCrossedTwice_l7 np nd a1 u n (v2 ||| ((1 : Int32) <<< ((xw_side (mx_ga u 1 (v3).toNatClampNeg) ) &&& 31))) (v3 + 1)) ∧ ((¬ ((v2 &&& ((1 : Int32) <<< ((xw_side (mx_ga u 1 (v3).toNatClampNeg) ) &&& 31))) = 0)) → 
         True)))))
def xm_hasCrossedTwice (a1 : Int32) (u : mx_S) : Int32 :=
  xm_hasCrossedTwice_l7 a1 u 20 0 (mx_gf u 0 6)
def q_xm_hasCrossedTwice (np nd : Nat) (a1 : Int32) (u : mx_S) : Prop :=
  q_xm_hasCrossedTwice_l7 np nd a1 u 20 0 (mx_gf u 0 6)
def pre_xm_hasCrossedTwice (np nd : Nat) : List mx_V → mx_S → Prop := fun as u => ∃ (a1 : Int32), as = [.inr (.inr 0), .inl a1] ∧ q_xm_hasCrossedTwice np nd a1 u
def fn_xm_hasCrossedTwice (np nd : Nat) : mx_F := fun as u => match as with
  | [_, .inl a1] => mx_rI u (xm_hasCrossedTwice a1 u)
  | _ => (none, u)
def tb_xm_hasCrossedTwice (np nd : Nat) : List (Nat × mx_T) := [
  (0, mx_iconst 0 0),
  (1, mx_istore_n 2 1),
  (2, mx_aload_n 0 2),
  (3, mx_getf (kx np nd) 0 6 3),
  (6, mx_istore_n 3 6),
  (7, mx_iload_n 3 7),
  (8, mx_iload_n 1 8),
  (9, mx_icmp_ge 57 9),
  (12, mx_aload_n 0 12),
  (13, mx_getf (kx np nd) 0 0 13),
  (16, mx_iload_n 3 16),
  (17, mx_iald (kx np nd) 17),
  (18, mx_invS 1 (pre_xw_crosses np nd) (fn_xw_crosses np nd) 18),
  (21, mx_if_eq 51 21),
  (24, mx_iconst 1 24),
  (25, mx_aload_n 0 25),
  (26, mx_getf (kx np nd) 0 0 26),
  (29, mx_iload_n 3 29),
  (30, mx_iald (kx np nd) 30),
  (31, mx_invS 1 (pre_xw_side np nd) (fn_xw_side np nd) 31),
  (34, mx_ishl 34),
  (35, mx_istore 4 35),
  (37, mx_iload_n 2 37),
  (38, mx_iload 4 38),
  (40, mx_iand 40),
  (41, mx_if_eq 46 41),
  (44, mx_iconst 1 44),
  (45, mx_zret 45),
  (46, mx_iload_n 2 46),
  (47, mx_iload 4 47),
  (49, mx_ior 49),
  (50, mx_istore_n 2 50),
  (51, mx_iinc 3 1 51),
  (54, mx_goto 7 54),
  (57, mx_iconst 0 57),
  (58, mx_zret 58)]
set_option maxRecDepth 100000 in
set_option maxHeartbeats 4000000 in
theorem ok_xm_hasCrossedTwice (l : Launch) (np nd : Nat) : ∀ q ∈ tb_xm_hasCrossedTwice np nd , mx_Ok l ({ frames := 3, cells := 0, slots := 0, locals := 60 } : Room) b_xm_hasCrossedTwice 5 "WideMachine" (some .boolean) vw_T vw_cl (kx np nd) q.1 q.2 := by
  refine List.forall_mem_cons.mpr ⟨mx_ok_iconst (show decode b_xm_hasCrossedTwice 0 = .ok (.iconst 0, 1) by decide +kernel) (by decide), ?_⟩
  refine List.forall_mem_cons.mpr ⟨mx_ok_istore_n (show decode b_xm_hasCrossedTwice 1 = .ok (.istore_n 2, 1) by decide +kernel) rfl (by decide), ?_⟩
  refine List.forall_mem_cons.mpr ⟨mx_ok_aload_n (show decode b_xm_hasCrossedTwice 2 = .ok (.aload_n 0, 1) by decide +kernel) rfl, ?_⟩
  refine List.forall_mem_cons.mpr ⟨mx_ok_getf fd_xm_48 (show decode b_xm_hasCrossedTwice 3 = .ok (.getfield 48, 3) by decide +kernel), ?_⟩
  refine List.forall_mem_cons.mpr ⟨mx_ok_istore_n (show decode b_xm_hasCrossedTwice 6 = .ok (.istore_n 3, 1) by decide +kernel) rfl (by decide), ?_⟩
  refine List.forall_mem_cons.mpr ⟨mx_ok_iload_n (show decode b_xm_hasCrossedTwice 7 = .ok (.iload_n 3, 1) by decide +kernel) rfl, ?_⟩
  refine List.forall_mem_cons.mpr ⟨mx_ok_iload_n (show decode b_xm_hasCrossedTwice 8 = .ok (.iload_n 1, 1) by decide +kernel) rfl, ?_⟩
  refine List.forall_mem_cons.mpr ⟨mx_ok_icmp_ge (show decode b_xm_hasCrossedTwice 9 = .ok (.if_icmp .ge 48, 3) by decide +kernel) (by decide), ?_⟩
  refine List.forall_mem_cons.mpr ⟨mx_ok_aload_n (show decode b_xm_hasCrossedTwice 12 = .ok (.aload_n 0, 1) by decide +kernel) rfl, ?_⟩
  refine List.forall_mem_cons.mpr ⟨mx_ok_getf fd_xm_13 (show decode b_xm_hasCrossedTwice 13 = .ok (.getfield 13, 3) by decide +kernel), ?_⟩
  refine List.forall_mem_cons.mpr ⟨mx_ok_iload_n (show decode b_xm_hasCrossedTwice 16 = .ok (.iload_n 3, 1) by decide +kernel) rfl, ?_⟩
  refine List.forall_mem_cons.mpr ⟨mx_ok_iald (show decode b_xm_hasCrossedTwice 17 = .ok (.iaload, 1) by decide +kernel), ?_⟩
  refine List.forall_mem_cons.mpr ⟨mx_ok_invS vw_G (ct_xw_crosses l np nd) ⟨vm_141, vm_142, vm_97, ⟨by decide +kernel, by decide +kernel, by decide +kernel⟩, ⟨by decide, by decide⟩, rfl, rfl⟩ vm_143 (show decode b_xm_hasCrossedTwice 18 = .ok (.invokestatic 157, 3) by decide +kernel), ?_⟩
  refine List.forall_mem_cons.mpr ⟨mx_ok_if_eq (show decode b_xm_hasCrossedTwice 21 = .ok (.ifCond .eq 30, 3) by decide +kernel) (by decide), ?_⟩
  refine List.forall_mem_cons.mpr ⟨mx_ok_iconst (show decode b_xm_hasCrossedTwice 24 = .ok (.iconst 1, 1) by decide +kernel) (by decide), ?_⟩
  refine List.forall_mem_cons.mpr ⟨mx_ok_aload_n (show decode b_xm_hasCrossedTwice 25 = .ok (.aload_n 0, 1) by decide +kernel) rfl, ?_⟩
  refine List.forall_mem_cons.mpr ⟨mx_ok_getf fd_xm_13 (show decode b_xm_hasCrossedTwice 26 = .ok (.getfield 13, 3) by decide +kernel), ?_⟩
  refine List.forall_mem_cons.mpr ⟨mx_ok_iload_n (show decode b_xm_hasCrossedTwice 29 = .ok (.iload_n 3, 1) by decide +kernel) rfl, ?_⟩
  refine List.forall_mem_cons.mpr ⟨mx_ok_iald (show decode b_xm_hasCrossedTwice 30 = .ok (.iaload, 1) by decide +kernel), ?_⟩
  refine List.forall_mem_cons.mpr ⟨mx_ok_invS vw_G (ct_xw_side l np nd) ⟨vm_144, vm_118, vm_97, ⟨by decide +kernel, by decide +kernel, by decide +kernel⟩, ⟨by decide, by decide⟩, rfl, rfl⟩ vm_119 (show decode b_xm_hasCrossedTwice 31 = .ok (.invokestatic 160, 3) by decide +kernel), ?_⟩
  refine List.forall_mem_cons.mpr ⟨mx_ok_ishl (show decode b_xm_hasCrossedTwice 34 = .ok (.ishl, 1) by decide +kernel), ?_⟩
  refine List.forall_mem_cons.mpr ⟨mx_ok_istore (show decode b_xm_hasCrossedTwice 35 = .ok (.istore 4, 2) by decide +kernel) (by decide), ?_⟩
  refine List.forall_mem_cons.mpr ⟨mx_ok_iload_n (show decode b_xm_hasCrossedTwice 37 = .ok (.iload_n 2, 1) by decide +kernel) rfl, ?_⟩
  refine List.forall_mem_cons.mpr ⟨mx_ok_iload (show decode b_xm_hasCrossedTwice 38 = .ok (.iload 4, 2) by decide +kernel), ?_⟩
  refine List.forall_mem_cons.mpr ⟨mx_ok_iand (show decode b_xm_hasCrossedTwice 40 = .ok (.iand, 1) by decide +kernel), ?_⟩
  refine List.forall_mem_cons.mpr ⟨mx_ok_if_eq (show decode b_xm_hasCrossedTwice 41 = .ok (.ifCond .eq 5, 3) by decide +kernel) (by decide), ?_⟩
  refine List.forall_mem_cons.mpr ⟨mx_ok_iconst (show decode b_xm_hasCrossedTwice 44 = .ok (.iconst 1, 1) by decide +kernel) (by decide), ?_⟩
  refine List.forall_mem_cons.mpr ⟨mx_ok_zret (show decode b_xm_hasCrossedTwice 45 = .ok (.ireturn, 1) by decide +kernel) rfl, ?_⟩
  refine List.forall_mem_cons.mpr ⟨mx_ok_iload_n (show decode b_xm_hasCrossedTwice 46 = .ok (.iload_n 2, 1) by decide +kernel) rfl, ?_⟩
  refine List.forall_mem_cons.mpr ⟨mx_ok_iload (show decode b_xm_hasCrossedTwice 47 = .ok (.iload 4, 2) by decide +kernel), ?_⟩
  refine List.forall_mem_cons.mpr ⟨mx_ok_ior (show decode b_xm_hasCrossedTwice 49 = .ok (.ior, 1) by decide +kernel), ?_⟩
  refine List.forall_mem_cons.mpr ⟨mx_ok_istore_n (show decode b_xm_hasCrossedTwice 50 = .ok (.istore_n 2, 1) by decide +kernel) rfl (by decide), ?_⟩
  refine List.forall_mem_cons.mpr ⟨mx_ok_iinc (show decode b_xm_hasCrossedTwice 51 = .ok (.iinc 3 1, 3) by decide +kernel) (by decide) (by decide), ?_⟩
  refine List.forall_mem_cons.mpr ⟨mx_ok_goto (show decode b_xm_hasCrossedTwice 54 = .ok (.goto (-47), 3) by decide +kernel) (by decide), ?_⟩
  refine List.forall_mem_cons.mpr ⟨mx_ok_iconst (show decode b_xm_hasCrossedTwice 57 = .ok (.iconst 0, 1) by decide +kernel) (by decide), ?_⟩
  refine List.forall_mem_cons.mpr ⟨mx_ok_zret (show decode b_xm_hasCrossedTwice 58 = .ok (.ireturn, 1) by decide +kernel) rfl, ?_⟩
  exact fun _ h => absurd h List.not_mem_nil
set_option maxRecDepth 100000 in
set_option maxHeartbeats 4000000 in
theorem ct_xm_hasCrossedTwice (l : Launch) (np nd : Nat) : mx_Ct l vw_T vw_cl (kx np nd) { frames := 3, cells := 0, slots := 0, locals := 60 } y_xm_hasCrossedTwice b_xm_hasCrossedTwice 5 (some .boolean) (pre_xm_hasCrossedTwice np nd) (fn_xm_hasCrossedTwice np nd) := by
  refine mx_ct_of (tb_xm_hasCrossedTwice np nd ) (by decide) (ok_xm_hasCrossedTwice l np nd ) (fun as u h => by obtain ⟨_, rfl, -⟩ := h; exact Nat.le_of_ble_eq_true rfl) ?_
  intro as u hpre At hc hw
  obtain ⟨a1, rfl, hp⟩ := hpre
  obtain ⟨RES, hRES⟩ : ∃ z, z = (xm_hasCrossedTwice a1 u) := ⟨_, rfl⟩
  have hfn : fn_xm_hasCrossedTwice np nd [.inr (.inr 0), .inl a1] u = mx_rI u RES := by rw [hRES]; rfl
  rw [hfn] at hc
  have lp7 : ∀ (n7 : Nat) (v2 : Int32) (v3 : Int32), q_xm_hasCrossedTwice_l7 np nd a1 u n7 v2 v3 → xm_hasCrossedTwice_l7 a1 u n7 v2 v3 = RES → At 7 [(2, .inl v2), (3, .inl v3), (0, .inr (.inr 0)), (1, .inl a1)] [] u := by
    intro n7
    induction n7 with
    | zero =>
      intro v2 v3 hi he
      exact hi.elim
    | succ n7 ih7 =>
      intro v2 v3 hi7 he7
      exact hc 200 [7] _ _ _ _ (
        And.intro (fun h9 => 
         And.intro (Or.inl rfl) (
         congrArg (mx_rI u) (show 0 = RES from (if_pos h9).symm.trans he7))) (fun h9 => 
         And.intro ((hi7.2 h9).1) (
         And.intro rfl (
         And.intro ⟨_, rfl, trivial⟩ (
         And.intro (fun h21 => 
          hw [1, 0, 2, 3] _ _ _ _ (ih7 v2 (v3 + 1) ((hi7.2 h9).2.1 h21) (((if_neg h9).trans (if_pos h21)).symm.trans he7))) (fun h21 => 
          And.intro (((hi7.2 h9).2.2 h21).1) (
          And.intro rfl (
          And.intro ⟨_, rfl, trivial⟩ (
          And.intro (fun h41 => 
           hw [1, 0, 3, 4] _ _ _ _ (ih7 (v2 ||| ((1 : Int32) <<< ((xw_side (mx_ga u 1 (v3).toNatClampNeg) ) &&& 31))) (v3 + 1) (((hi7.2 h9).2.2 h21).2.1 h41) (((if_neg h9).trans ((if_neg h21).trans (if_pos h41))).symm.trans he7))) (fun h41 => 
           And.intro (Or.inr rfl) (
           congrArg (mx_rI u) (show 1 = RES from ((if_neg h9).trans ((if_neg h21).trans (if_neg h41))).symm.trans he7))))))))))))
  exact hc 200 [7] _ _ _ _ (
    hw [1, 0, 2, 3] _ _ _ _ (lp7 20 0 (mx_gf u 0 6) hp ((rfl).symm.trans hRES.symm)))
/-! WideMachine.isConditionTrue(I)Z -/
def xm_isConditionTrue (a1 : Int32) (u : mx_S) : Int32 :=
  if (xw_conditionRegister a1 ) = (-1) then
   1
  else
   if (mx_ga u 3 ((xw_conditionRegister a1 )).toNatClampNeg) = 0 then
    if 1 = (xw_isOnZero a1 ) then
     1
    else
     0
   else
    if 0 = (xw_isOnZero a1 ) then
     1
    else
     0
def q_xm_isConditionTrue (np nd : Nat) (a1 : Int32) (u : mx_S) : Prop :=
  ((¬ ((xw_conditionRegister a1 ) = (-1))) → 
   (vp_in (xw_conditionRegister a1 ) 32)) ∧ (((xw_conditionRegister a1 ) = (-1)) → 
   True)
def pre_xm_isConditionTrue (np nd : Nat) : List mx_V → mx_S → Prop := fun as u => ∃ (a1 : Int32), as = [.inr (.inr 0), .inl a1] ∧ q_xm_isConditionTrue np nd a1 u
def fn_xm_isConditionTrue (np nd : Nat) : mx_F := fun as u => match as with
  | [_, .inl a1] => mx_rI u (xm_isConditionTrue a1 u)
  | _ => (none, u)
def tb_xm_isConditionTrue (np nd : Nat) : List (Nat × mx_T) := [
  (0, mx_iload_n 1 0),
  (1, mx_invS 1 (pre_xw_conditionRegister np nd) (fn_xw_conditionRegister np nd) 1),
  (4, mx_istore_n 2 4),
  (5, mx_iload_n 2 5),
  (6, mx_iconst (-1) 6),
  (7, mx_icmp_ne 12 7),
  (10, mx_iconst 1 10),
  (11, mx_zret 11),
  (12, mx_aload_n 0 12),
  (13, mx_getf (kx np nd) 0 2 13),
  (16, mx_iload_n 2 16),
  (17, mx_iald (kx np nd) 17),
  (18, mx_if_ne 25 18),
  (21, mx_iconst 1 21),
  (22, mx_goto 26 22),
  (25, mx_iconst 0 25),
  (26, mx_iload_n 1 26),
  (27, mx_invS 1 (pre_xw_isOnZero np nd) (fn_xw_isOnZero np nd) 27),
  (30, mx_icmp_ne 37 30),
  (33, mx_iconst 1 33),
  (34, mx_goto 38 34),
  (37, mx_iconst 0 37),
  (38, mx_zret 38)]
set_option maxRecDepth 100000 in
set_option maxHeartbeats 4000000 in
theorem ok_xm_isConditionTrue (l : Launch) (np nd : Nat) : ∀ q ∈ tb_xm_isConditionTrue np nd , mx_Ok l ({ frames := 1, cells := 0, slots := 0, locals := 20 } : Room) b_xm_isConditionTrue 3 "WideMachine" (some .boolean) vw_T vw_cl (kx np nd) q.1 q.2 := by
  refine List.forall_mem_cons.mpr ⟨mx_ok_iload_n (show decode b_xm_isConditionTrue 0 = .ok (.iload_n 1, 1) by decide +kernel) rfl, ?_⟩
  refine List.forall_mem_cons.mpr ⟨mx_ok_invS vw_G (ct_xw_conditionRegister l np nd) ⟨vm_145, vm_146, vm_97, ⟨by decide +kernel, by decide +kernel, by decide +kernel⟩, ⟨by decide, by decide⟩, rfl, rfl⟩ vm_147 (show decode b_xm_isConditionTrue 1 = .ok (.invokestatic 172, 3) by decide +kernel), ?_⟩
  refine List.forall_mem_cons.mpr ⟨mx_ok_istore_n (show decode b_xm_isConditionTrue 4 = .ok (.istore_n 2, 1) by decide +kernel) rfl (by decide), ?_⟩
  refine List.forall_mem_cons.mpr ⟨mx_ok_iload_n (show decode b_xm_isConditionTrue 5 = .ok (.iload_n 2, 1) by decide +kernel) rfl, ?_⟩
  refine List.forall_mem_cons.mpr ⟨mx_ok_iconst (show decode b_xm_isConditionTrue 6 = .ok (.iconst (-1), 1) by decide +kernel) (by decide), ?_⟩
  refine List.forall_mem_cons.mpr ⟨mx_ok_icmp_ne (show decode b_xm_isConditionTrue 7 = .ok (.if_icmp .ne 5, 3) by decide +kernel) (by decide), ?_⟩
  refine List.forall_mem_cons.mpr ⟨mx_ok_iconst (show decode b_xm_isConditionTrue 10 = .ok (.iconst 1, 1) by decide +kernel) (by decide), ?_⟩
  refine List.forall_mem_cons.mpr ⟨mx_ok_zret (show decode b_xm_isConditionTrue 11 = .ok (.ireturn, 1) by decide +kernel) rfl, ?_⟩
  refine List.forall_mem_cons.mpr ⟨mx_ok_aload_n (show decode b_xm_isConditionTrue 12 = .ok (.aload_n 0, 1) by decide +kernel) rfl, ?_⟩
  refine List.forall_mem_cons.mpr ⟨mx_ok_getf fd_xm_20 (show decode b_xm_isConditionTrue 13 = .ok (.getfield 20, 3) by decide +kernel), ?_⟩
  refine List.forall_mem_cons.mpr ⟨mx_ok_iload_n (show decode b_xm_isConditionTrue 16 = .ok (.iload_n 2, 1) by decide +kernel) rfl, ?_⟩
  refine List.forall_mem_cons.mpr ⟨mx_ok_iald (show decode b_xm_isConditionTrue 17 = .ok (.iaload, 1) by decide +kernel), ?_⟩
  refine List.forall_mem_cons.mpr ⟨mx_ok_if_ne (show decode b_xm_isConditionTrue 18 = .ok (.ifCond .ne 7, 3) by decide +kernel) (by decide), ?_⟩
  refine List.forall_mem_cons.mpr ⟨mx_ok_iconst (show decode b_xm_isConditionTrue 21 = .ok (.iconst 1, 1) by decide +kernel) (by decide), ?_⟩
  refine List.forall_mem_cons.mpr ⟨mx_ok_goto (show decode b_xm_isConditionTrue 22 = .ok (.goto 4, 3) by decide +kernel) (by decide), ?_⟩
  refine List.forall_mem_cons.mpr ⟨mx_ok_iconst (show decode b_xm_isConditionTrue 25 = .ok (.iconst 0, 1) by decide +kernel) (by decide), ?_⟩
  refine List.forall_mem_cons.mpr ⟨mx_ok_iload_n (show decode b_xm_isConditionTrue 26 = .ok (.iload_n 1, 1) by decide +kernel) rfl, ?_⟩
  refine List.forall_mem_cons.mpr ⟨mx_ok_invS vw_G (ct_xw_isOnZero l np nd) ⟨vm_148, vm_103, vm_97, ⟨by decide +kernel, by decide +kernel, by decide +kernel⟩, ⟨by decide, by decide⟩, rfl, rfl⟩ vm_104 (show decode b_xm_isConditionTrue 27 = .ok (.invokestatic 175, 3) by decide +kernel), ?_⟩
  refine List.forall_mem_cons.mpr ⟨mx_ok_icmp_ne (show decode b_xm_isConditionTrue 30 = .ok (.if_icmp .ne 7, 3) by decide +kernel) (by decide), ?_⟩
  refine List.forall_mem_cons.mpr ⟨mx_ok_iconst (show decode b_xm_isConditionTrue 33 = .ok (.iconst 1, 1) by decide +kernel) (by decide), ?_⟩
  refine List.forall_mem_cons.mpr ⟨mx_ok_goto (show decode b_xm_isConditionTrue 34 = .ok (.goto 4, 3) by decide +kernel) (by decide), ?_⟩
  refine List.forall_mem_cons.mpr ⟨mx_ok_iconst (show decode b_xm_isConditionTrue 37 = .ok (.iconst 0, 1) by decide +kernel) (by decide), ?_⟩
  refine List.forall_mem_cons.mpr ⟨mx_ok_zret (show decode b_xm_isConditionTrue 38 = .ok (.ireturn, 1) by decide +kernel) rfl, ?_⟩
  exact fun _ h => absurd h List.not_mem_nil
set_option maxRecDepth 100000 in
set_option maxHeartbeats 4000000 in
theorem ct_xm_isConditionTrue (l : Launch) (np nd : Nat) : mx_Ct l vw_T vw_cl (kx np nd) { frames := 1, cells := 0, slots := 0, locals := 20 } y_xm_isConditionTrue b_xm_isConditionTrue 3 (some .boolean) (pre_xm_isConditionTrue np nd) (fn_xm_isConditionTrue np nd) := by
  refine mx_ct_of (tb_xm_isConditionTrue np nd ) (by decide) (ok_xm_isConditionTrue l np nd ) (fun as u h => by obtain ⟨_, rfl, -⟩ := h; exact Nat.le_of_ble_eq_true rfl) ?_
  intro as u hpre At hc hw
  obtain ⟨a1, rfl, hp⟩ := hpre
  exact hc 200 [] _ _ _ _ (
    And.intro rfl (
    And.intro ⟨_, rfl, trivial⟩ (
    And.intro (fun h7 => 
     And.intro ((hp.1 h7)) (
     And.intro (fun h18 => 
      And.intro rfl (
      And.intro ⟨_, rfl, trivial⟩ (
      And.intro (fun h30 => 
       And.intro (Or.inl rfl) (
       congrArg (mx_rI u) (show 0 = (xm_isConditionTrue a1 u) from ((if_neg h7).trans ((if_neg h18).trans (if_neg h30))).symm))) (fun h30 => 
       And.intro (Or.inr rfl) (
       congrArg (mx_rI u) (show 1 = (xm_isConditionTrue a1 u) from ((if_neg h7).trans ((if_neg h18).trans (if_pos h30))).symm)))))) (fun h18 => 
      And.intro rfl (
      And.intro ⟨_, rfl, trivial⟩ (
      And.intro (fun h30 => 
       And.intro (Or.inl rfl) (
       congrArg (mx_rI u) (show 0 = (xm_isConditionTrue a1 u) from ((if_neg h7).trans ((if_pos h18).trans (if_neg h30))).symm))) (fun h30 => 
       And.intro (Or.inr rfl) (
       congrArg (mx_rI u) (show 1 = (xm_isConditionTrue a1 u) from ((if_neg h7).trans ((if_pos h18).trans (if_pos h30))).symm)))))))) (fun h7 => 
     And.intro (Or.inr rfl) (
     congrArg (mx_rI u) (show 1 = (xm_isConditionTrue a1 u) from (if_pos h7).symm))))))
/-! WideMachine.operandB(I)I -/
def xm_operandB (a1 : Int32) (u : mx_S) : Int32 :=
  if (xw_isNumberB a1 ) = 0 then
   (mx_ga u 3 ((xw_b a1 )).toNatClampNeg)
  else
   (xw_numberB a1 )
def pre_xm_operandB (np nd : Nat) : List mx_V → mx_S → Prop := fun as u => ∃ (a1 : Int32), as = [.inr (.inr 0), .inl a1] ∧ True
def fn_xm_operandB (np nd : Nat) : mx_F := fun as u => match as with
  | [_, .inl a1] => mx_rI u (xm_operandB a1 u)
  | _ => (none, u)
def tb_xm_operandB (np nd : Nat) : List (Nat × mx_T) := [
  (0, mx_iload_n 1 0),
  (1, mx_invS 1 (pre_xw_isNumberB np nd) (fn_xw_isNumberB np nd) 1),
  (4, mx_if_eq 14 4),
  (7, mx_iload_n 1 7),
  (8, mx_invS 1 (pre_xw_numberB np nd) (fn_xw_numberB np nd) 8),
  (11, mx_goto 23 11),
  (14, mx_aload_n 0 14),
  (15, mx_getf (kx np nd) 0 2 15),
  (18, mx_iload_n 1 18),
  (19, mx_invS 1 (pre_xw_b np nd) (fn_xw_b np nd) 19),
  (22, mx_iald (kx np nd) 22),
  (23, mx_iret 23)]
set_option maxRecDepth 100000 in
set_option maxHeartbeats 4000000 in
theorem ok_xm_operandB (l : Launch) (np nd : Nat) : ∀ q ∈ tb_xm_operandB np nd , mx_Ok l ({ frames := 1, cells := 0, slots := 0, locals := 20 } : Room) b_xm_operandB 2 "WideMachine" (some .int) vw_T vw_cl (kx np nd) q.1 q.2 := by
  refine List.forall_mem_cons.mpr ⟨mx_ok_iload_n (show decode b_xm_operandB 0 = .ok (.iload_n 1, 1) by decide +kernel) rfl, ?_⟩
  refine List.forall_mem_cons.mpr ⟨mx_ok_invS vw_G (ct_xw_isNumberB l np nd) ⟨vm_149, vm_136, vm_97, ⟨by decide +kernel, by decide +kernel, by decide +kernel⟩, ⟨by decide, by decide⟩, rfl, rfl⟩ vm_137 (show decode b_xm_operandB 1 = .ok (.invokestatic 184, 3) by decide +kernel), ?_⟩
  refine List.forall_mem_cons.mpr ⟨mx_ok_if_eq (show decode b_xm_operandB 4 = .ok (.ifCond .eq 10, 3) by decide +kernel) (by decide), ?_⟩
  refine List.forall_mem_cons.mpr ⟨mx_ok_iload_n (show decode b_xm_operandB 7 = .ok (.iload_n 1, 1) by decide +kernel) rfl, ?_⟩
  refine List.forall_mem_cons.mpr ⟨mx_ok_invS vw_G (ct_xw_numberB l np nd) ⟨vm_150, vm_151, vm_97, ⟨by decide +kernel, by decide +kernel, by decide +kernel⟩, ⟨by decide, by decide⟩, rfl, rfl⟩ vm_152 (show decode b_xm_operandB 8 = .ok (.invokestatic 187, 3) by decide +kernel), ?_⟩
  refine List.forall_mem_cons.mpr ⟨mx_ok_goto (show decode b_xm_operandB 11 = .ok (.goto 12, 3) by decide +kernel) (by decide), ?_⟩
  refine List.forall_mem_cons.mpr ⟨mx_ok_aload_n (show decode b_xm_operandB 14 = .ok (.aload_n 0, 1) by decide +kernel) rfl, ?_⟩
  refine List.forall_mem_cons.mpr ⟨mx_ok_getf fd_xm_20 (show decode b_xm_operandB 15 = .ok (.getfield 20, 3) by decide +kernel), ?_⟩
  refine List.forall_mem_cons.mpr ⟨mx_ok_iload_n (show decode b_xm_operandB 18 = .ok (.iload_n 1, 1) by decide +kernel) rfl, ?_⟩
  refine List.forall_mem_cons.mpr ⟨mx_ok_invS vw_G (ct_xw_b l np nd) ⟨vm_153, vm_139, vm_97, ⟨by decide +kernel, by decide +kernel, by decide +kernel⟩, ⟨by decide, by decide⟩, rfl, rfl⟩ vm_140 (show decode b_xm_operandB 19 = .ok (.invokestatic 190, 3) by decide +kernel), ?_⟩
  refine List.forall_mem_cons.mpr ⟨mx_ok_iald (show decode b_xm_operandB 22 = .ok (.iaload, 1) by decide +kernel), ?_⟩
  refine List.forall_mem_cons.mpr ⟨mx_ok_iret (show decode b_xm_operandB 23 = .ok (.ireturn, 1) by decide +kernel) rfl, ?_⟩
  exact fun _ h => absurd h List.not_mem_nil
set_option maxRecDepth 100000 in
set_option maxHeartbeats 4000000 in
theorem ct_xm_operandB (l : Launch) (np nd : Nat) : mx_Ct l vw_T vw_cl (kx np nd) { frames := 1, cells := 0, slots := 0, locals := 20 } y_xm_operandB b_xm_operandB 2 (some .int) (pre_xm_operandB np nd) (fn_xm_operandB np nd) := by
  refine mx_ct_of (tb_xm_operandB np nd ) (by decide) (ok_xm_operandB l np nd ) (fun as u h => by obtain ⟨_, rfl, -⟩ := h; exact Nat.le_of_ble_eq_true rfl) ?_
  intro as u hpre At hc hw
  obtain ⟨a1, rfl, hp⟩ := hpre
  exact hc 200 [] _ _ _ _ (
    And.intro rfl (
    And.intro ⟨_, rfl, trivial⟩ (
    And.intro (fun h4 => 
     And.intro rfl (
     And.intro ⟨_, rfl, trivial⟩ (
     And.intro (xw_b_in _) (
     congrArg (mx_rI u) (show (mx_ga u 3 ((xw_b a1 )).toNatClampNeg) = (xm_operandB a1 u) from (if_pos h4).symm))))) (fun h4 => 
     And.intro rfl (
     And.intro ⟨_, rfl, trivial⟩ (
     congrArg (mx_rI u) (show (xw_numberB a1 ) = (xm_operandB a1 u) from (if_neg h4).symm)))))))
/-! WideMachine.dataAddress(I)I -/
def xm_dataAddress (a1 : Int32) (u : mx_S) : Int32 :=
  ((mx_ga u 3 ((xw_a a1 )).toNatClampNeg) + (xm_operandB a1 u))
def pre_xm_dataAddress (np nd : Nat) : List mx_V → mx_S → Prop := fun as u => ∃ (a1 : Int32), as = [.inr (.inr 0), .inl a1] ∧ True
def fn_xm_dataAddress (np nd : Nat) : mx_F := fun as u => match as with
  | [_, .inl a1] => mx_rI u (xm_dataAddress a1 u)
  | _ => (none, u)
def tb_xm_dataAddress (np nd : Nat) : List (Nat × mx_T) := [
  (0, mx_aload_n 0 0),
  (1, mx_getf (kx np nd) 0 2 1),
  (4, mx_iload_n 1 4),
  (5, mx_invS 1 (pre_xw_a np nd) (fn_xw_a np nd) 5),
  (8, mx_iald (kx np nd) 8),
  (9, mx_aload_n 0 9),
  (10, mx_iload_n 1 10),
  (11, mx_invV (kx np nd) 0 1 (pre_xm_operandB np nd) (fn_xm_operandB np nd) 11),
  (14, mx_iadd 14),
  (15, mx_iret 15)]
set_option maxRecDepth 100000 in
set_option maxHeartbeats 4000000 in
theorem ok_xm_dataAddress (l : Launch) (np nd : Nat) : ∀ q ∈ tb_xm_dataAddress np nd , mx_Ok l ({ frames := 2, cells := 0, slots := 0, locals := 41 } : Room) b_xm_dataAddress 2 "WideMachine" (some .int) vw_T vw_cl (kx np nd) q.1 q.2 := by
  refine List.forall_mem_cons.mpr ⟨mx_ok_aload_n (show decode b_xm_dataAddress 0 = .ok (.aload_n 0, 1) by decide +kernel) rfl, ?_⟩
  refine List.forall_mem_cons.mpr ⟨mx_ok_getf fd_xm_20 (show decode b_xm_dataAddress 1 = .ok (.getfield 20, 3) by decide +kernel), ?_⟩
  refine List.forall_mem_cons.mpr ⟨mx_ok_iload_n (show decode b_xm_dataAddress 4 = .ok (.iload_n 1, 1) by decide +kernel) rfl, ?_⟩
  refine List.forall_mem_cons.mpr ⟨mx_ok_invS vw_G (ct_xw_a l np nd) ⟨vm_154, vm_124, vm_97, ⟨by decide +kernel, by decide +kernel, by decide +kernel⟩, ⟨by decide, by decide⟩, rfl, rfl⟩ vm_125 (show decode b_xm_dataAddress 5 = .ok (.invokestatic 178, 3) by decide +kernel), ?_⟩
  refine List.forall_mem_cons.mpr ⟨mx_ok_iald (show decode b_xm_dataAddress 8 = .ok (.iaload, 1) by decide +kernel), ?_⟩
  refine List.forall_mem_cons.mpr ⟨mx_ok_aload_n (show decode b_xm_dataAddress 9 = .ok (.aload_n 0, 1) by decide +kernel) rfl, ?_⟩
  refine List.forall_mem_cons.mpr ⟨mx_ok_iload_n (show decode b_xm_dataAddress 10 = .ok (.iload_n 1, 1) by decide +kernel) rfl, ?_⟩
  refine List.forall_mem_cons.mpr ⟨mx_ok_invV vw_G (ct_xm_operandB l np nd) ⟨vm_155, vm_156, vm_46, ⟨by decide +kernel, by decide +kernel, by decide +kernel⟩, ⟨by decide, by decide⟩, rfl, rfl⟩ vm_157 vm_158 rfl (show decode b_xm_dataAddress 11 = .ok (.invokevirtual 181, 3) by decide +kernel), ?_⟩
  refine List.forall_mem_cons.mpr ⟨mx_ok_iadd (show decode b_xm_dataAddress 14 = .ok (.iadd, 1) by decide +kernel), ?_⟩
  refine List.forall_mem_cons.mpr ⟨mx_ok_iret (show decode b_xm_dataAddress 15 = .ok (.ireturn, 1) by decide +kernel) rfl, ?_⟩
  exact fun _ h => absurd h List.not_mem_nil
set_option maxRecDepth 100000 in
set_option maxHeartbeats 4000000 in
theorem ct_xm_dataAddress (l : Launch) (np nd : Nat) : mx_Ct l vw_T vw_cl (kx np nd) { frames := 2, cells := 0, slots := 0, locals := 41 } y_xm_dataAddress b_xm_dataAddress 2 (some .int) (pre_xm_dataAddress np nd) (fn_xm_dataAddress np nd) := by
  refine mx_ct_of (tb_xm_dataAddress np nd ) (by decide) (ok_xm_dataAddress l np nd ) (fun as u h => by obtain ⟨_, rfl, -⟩ := h; exact Nat.le_of_ble_eq_true rfl) ?_
  intro as u hpre At hc hw
  obtain ⟨a1, rfl, hp⟩ := hpre
  exact hc 200 [] _ _ _ _ (
    And.intro rfl (
    And.intro ⟨_, rfl, trivial⟩ (
    And.intro (xw_a_in _) (
    And.intro rfl (
    And.intro ⟨_, rfl, trivial⟩ (
    congrArg (mx_rI u) (show ((mx_ga u 3 ((xw_a a1 )).toNatClampNeg) + (xm_operandB a1 u)) = (xm_dataAddress a1 u) from (rfl).symm)))))))
/-! WideMachine.nearestSize(I)I -/
def xm_nearestSize (a1 : Int32) : Int32 :=
  (if 16 < (if a1 < 256 then a1 else 256) then (if a1 < 256 then a1 else 256) else 16)
def pre_xm_nearestSize (np nd : Nat) : List mx_V → mx_S → Prop := fun as u => ∃ (a1 : Int32), as = [.inl a1] ∧ True
def fn_xm_nearestSize (np nd : Nat) : mx_F := fun as u => match as with
  | [.inl a1] => mx_rI u (xm_nearestSize a1 )
  | _ => (none, u)
def tb_xm_nearestSize (np nd : Nat) : List (Nat × mx_T) := [
  (0, mx_bipush 16 0),
  (2, mx_sipush 256 2),
  (5, mx_iload_n 0 5),
  (6, mx_mmin 6),
  (9, mx_mmax 9),
  (12, mx_iret 12)]
set_option maxRecDepth 100000 in
set_option maxHeartbeats 4000000 in
theorem ok_xm_nearestSize (l : Launch) (np nd : Nat) : ∀ q ∈ tb_xm_nearestSize np nd , mx_Ok l ({ frames := 1, cells := 0, slots := 0, locals := 21 } : Room) b_xm_nearestSize 1 "WideMachine" (some .int) vw_T vw_cl (kx np nd) q.1 q.2 := by
  refine List.forall_mem_cons.mpr ⟨mx_ok_bipush (show decode b_xm_nearestSize 0 = .ok (.bipush 16, 2) by decide +kernel) (by decide), ?_⟩
  refine List.forall_mem_cons.mpr ⟨mx_ok_sipush (show decode b_xm_nearestSize 2 = .ok (.sipush 256, 3) by decide +kernel) (by decide), ?_⟩
  refine List.forall_mem_cons.mpr ⟨mx_ok_iload_n (show decode b_xm_nearestSize 5 = .ok (.iload_n 0, 1) by decide +kernel) rfl, ?_⟩
  refine List.forall_mem_cons.mpr ⟨mx_ok_mmin vm_299 vm_300 vm_233 vm_301 (by decide) (by decide) (show decode b_xm_nearestSize 6 = .ok (.invokestatic 87, 3) by decide +kernel), ?_⟩
  refine List.forall_mem_cons.mpr ⟨mx_ok_mmax vm_231 vm_232 vm_233 vm_234 (by decide) (by decide) (show decode b_xm_nearestSize 9 = .ok (.invokestatic 93, 3) by decide +kernel), ?_⟩
  refine List.forall_mem_cons.mpr ⟨mx_ok_iret (show decode b_xm_nearestSize 12 = .ok (.ireturn, 1) by decide +kernel) rfl, ?_⟩
  exact fun _ h => absurd h List.not_mem_nil
set_option maxRecDepth 100000 in
set_option maxHeartbeats 4000000 in
theorem ct_xm_nearestSize (l : Launch) (np nd : Nat) : mx_Ct l vw_T vw_cl (kx np nd) { frames := 1, cells := 0, slots := 0, locals := 21 } y_xm_nearestSize b_xm_nearestSize 1 (some .int) (pre_xm_nearestSize np nd) (fn_xm_nearestSize np nd) := by
  refine mx_ct_of (tb_xm_nearestSize np nd ) (by decide) (ok_xm_nearestSize l np nd ) (fun as u h => by obtain ⟨_, rfl, -⟩ := h; exact Nat.le_of_ble_eq_true rfl) ?_
  intro as u hpre At hc hw
  obtain ⟨a1, rfl, hp⟩ := hpre
  exact hc 200 [] _ _ _ _ (
    And.intro rfl (
    And.intro rfl (
    congrArg (mx_rI u) (show (if 16 < (if a1 < 256 then a1 else 256) then (if a1 < 256 then a1 else 256) else 16) = (xm_nearestSize a1 ) from (rfl).symm))))
end
section
/-! WideMachine.landWrites()V -/
def xm_landWrites (u : mx_S) : mx_S :=
  if (xq_clash (xq_comeNearer u)) = 0 then
   (xq_land (xq_comeNearer u))
  else
   (mx_sf (xq_comeNearer u) 0 5 5)
def q_xm_landWrites (np nd : Nat) (u : mx_S) : Prop :=
  ((q_xq_comeNearer np nd u)) ∧ (
   ((q_xq_clash np nd (xq_comeNearer u))) ∧ (
    (((xq_clash (xq_comeNearer u)) = 0) → 
     ((q_xq_land np nd (xq_comeNearer u)))) ∧ ((¬ ((xq_clash (xq_comeNearer u)) = 0)) → 
     True)))
def pre_xm_landWrites (np nd : Nat) : List mx_V → mx_S → Prop := fun as u => as = [.inr (.inr 0)] ∧ q_xm_landWrites np nd u
def fn_xm_landWrites (np nd : Nat) : mx_F := fun as u => match as with
  | [_] => (none, (xm_landWrites u))
  | _ => (none, u)
def tb_xm_landWrites (np nd : Nat) : List (Nat × mx_T) := [
  (0, mx_aload_n 0 0),
  (1, mx_getf (kx np nd) 0 3 1),
  (4, mx_invV (kx np nd) 1 0 (pre_xq_comeNearer np nd) (fn_xq_comeNearer np nd) 4),
  (7, mx_aload_n 0 7),
  (8, mx_getf (kx np nd) 0 3 8),
  (11, mx_invV (kx np nd) 1 0 (pre_xq_clash np nd) (fn_xq_clash np nd) 11),
  (14, mx_if_eq 25 14),
  (17, mx_aload_n 0 17),
  (18, mx_iconst 5 18),
  (19, mx_putf (kx np nd) 0 5 19),
  (22, mx_goto 36 22),
  (25, mx_aload_n 0 25),
  (26, mx_getf (kx np nd) 0 3 26),
  (29, mx_aload_n 0 29),
  (30, mx_getf (kx np nd) 0 2 30),
  (33, mx_invV (kx np nd) 1 1 (pre_xq_land np nd) (fn_xq_land np nd) 33),
  (36, mx_vret 36)]
set_option maxRecDepth 100000 in
set_option maxHeartbeats 4000000 in
theorem ok_xm_landWrites (l : Launch) (np nd : Nat) : ∀ q ∈ tb_xm_landWrites np nd , mx_Ok l ({ frames := 1, cells := 0, slots := 0, locals := 23 } : Room) b_xm_landWrites 1 "WideMachine" none vw_T vw_cl (kx np nd) q.1 q.2 := by
  refine List.forall_mem_cons.mpr ⟨mx_ok_aload_n (show decode b_xm_landWrites 0 = .ok (.aload_n 0, 1) by decide +kernel) rfl, ?_⟩
  refine List.forall_mem_cons.mpr ⟨mx_ok_getf fd_xm_26 (show decode b_xm_landWrites 1 = .ok (.getfield 26, 3) by decide +kernel), ?_⟩
  refine List.forall_mem_cons.mpr ⟨mx_ok_invV vw_G (ct_xq_comeNearer l np nd) ⟨vm_55, vm_56, vm_57, ⟨by decide +kernel, by decide +kernel, by decide +kernel⟩, ⟨by decide, by decide⟩, rfl, rfl⟩ vm_58 vm_59 rfl (show decode b_xm_landWrites 4 = .ok (.invokevirtual 116, 3) by decide +kernel), ?_⟩
  refine List.forall_mem_cons.mpr ⟨mx_ok_aload_n (show decode b_xm_landWrites 7 = .ok (.aload_n 0, 1) by decide +kernel) rfl, ?_⟩
  refine List.forall_mem_cons.mpr ⟨mx_ok_getf fd_xm_26 (show decode b_xm_landWrites 8 = .ok (.getfield 26, 3) by decide +kernel), ?_⟩
  refine List.forall_mem_cons.mpr ⟨mx_ok_invV vw_G (ct_xq_clash l np nd) ⟨vm_60, vm_61, vm_57, ⟨by decide +kernel, by decide +kernel, by decide +kernel⟩, ⟨by decide, by decide⟩, rfl, rfl⟩ vm_62 vm_63 rfl (show decode b_xm_landWrites 11 = .ok (.invokevirtual 119, 3) by decide +kernel), ?_⟩
  refine List.forall_mem_cons.mpr ⟨mx_ok_if_eq (show decode b_xm_landWrites 14 = .ok (.ifCond .eq 11, 3) by decide +kernel) (by decide), ?_⟩
  refine List.forall_mem_cons.mpr ⟨mx_ok_aload_n (show decode b_xm_landWrites 17 = .ok (.aload_n 0, 1) by decide +kernel) rfl, ?_⟩
  refine List.forall_mem_cons.mpr ⟨mx_ok_iconst (show decode b_xm_landWrites 18 = .ok (.iconst 5, 1) by decide +kernel) (by decide), ?_⟩
  refine List.forall_mem_cons.mpr ⟨mx_ok_putf fd_xm_41 fw_0_5 (show decode b_xm_landWrites 19 = .ok (.putfield 41, 3) by decide +kernel), ?_⟩
  refine List.forall_mem_cons.mpr ⟨mx_ok_goto (show decode b_xm_landWrites 22 = .ok (.goto 14, 3) by decide +kernel) (by decide), ?_⟩
  refine List.forall_mem_cons.mpr ⟨mx_ok_aload_n (show decode b_xm_landWrites 25 = .ok (.aload_n 0, 1) by decide +kernel) rfl, ?_⟩
  refine List.forall_mem_cons.mpr ⟨mx_ok_getf fd_xm_26 (show decode b_xm_landWrites 26 = .ok (.getfield 26, 3) by decide +kernel), ?_⟩
  refine List.forall_mem_cons.mpr ⟨mx_ok_aload_n (show decode b_xm_landWrites 29 = .ok (.aload_n 0, 1) by decide +kernel) rfl, ?_⟩
  refine List.forall_mem_cons.mpr ⟨mx_ok_getf fd_xm_20 (show decode b_xm_landWrites 30 = .ok (.getfield 20, 3) by decide +kernel), ?_⟩
  refine List.forall_mem_cons.mpr ⟨mx_ok_invV vw_G (ct_xq_land l np nd) ⟨vm_65, vm_66, vm_57, ⟨by decide +kernel, by decide +kernel, by decide +kernel⟩, ⟨by decide, by decide⟩, rfl, rfl⟩ vm_67 vm_68 rfl (show decode b_xm_landWrites 33 = .ok (.invokevirtual 123, 3) by decide +kernel), ?_⟩
  refine List.forall_mem_cons.mpr ⟨mx_ok_vret (show decode b_xm_landWrites 36 = .ok (.return_, 1) by decide +kernel) rfl, ?_⟩
  exact fun _ h => absurd h List.not_mem_nil
set_option maxRecDepth 100000 in
set_option maxHeartbeats 4000000 in
theorem ct_xm_landWrites (l : Launch) (np nd : Nat) : mx_Ct l vw_T vw_cl (kx np nd) { frames := 1, cells := 0, slots := 0, locals := 23 } y_xm_landWrites b_xm_landWrites 1 none (pre_xm_landWrites np nd) (fn_xm_landWrites np nd) := by
  refine mx_ct_of (tb_xm_landWrites np nd ) (by decide) (ok_xm_landWrites l np nd ) (fun as u h => by obtain ⟨rfl, -⟩ := h; exact Nat.le_of_ble_eq_true rfl) ?_
  intro as u hpre At hc hw
  obtain ⟨rfl, hp⟩ := hpre
  exact hc 200 [] _ _ _ _ (
    And.intro rfl (
    And.intro ⟨rfl, hp.1⟩ (
    And.intro rfl (
    And.intro ⟨rfl, hp.2.1⟩ (
    And.intro (fun h14 => 
     And.intro rfl (
     And.intro ⟨rfl, (hp.2.2.1 h14)⟩ (
     congrArg (fun z : mx_S => ((none, z) : Option mx_V × mx_S)) (show (xq_land (xq_comeNearer u)) = (xm_landWrites u) from (if_pos h14).symm)))) (fun h14 => 
     And.intro rfl (
     congrArg (fun z : mx_S => ((none, z) : Option mx_V × mx_S)) (show (mx_sf (xq_comeNearer u) 0 5 5) = (xm_landWrites u) from (if_neg h14).symm))))))))
/-! WideMachine.takeBranch()V -/
def xm_takeBranch (u : mx_S) : mx_S :=
  if (xb_arrived (xb_comeNearer u)) ≤ 1 then
   if (xb_arrived (xb_comeNearer u)) = 1 then
    (mx_sf (xb_takeFirst (xb_comeNearer u)).2 0 6 (xb_takeFirst (xb_comeNearer u)).1)
   else
    (xb_comeNearer u)
  else
   (mx_sf (xb_comeNearer u) 0 5 6)
def q_xm_takeBranch (np nd : Nat) (u : mx_S) : Prop :=
  ((q_xb_comeNearer np nd u)) ∧ (
   ((q_xb_arrived np nd (xb_comeNearer u))) ∧ (
    (((xb_arrived (xb_comeNearer u)) ≤ 1) → 
     ((¬ ((xb_arrived (xb_comeNearer u)) = 1)) → 
      True) ∧ (((xb_arrived (xb_comeNearer u)) = 1) → 
      ((q_xb_takeFirst np nd (xb_comeNearer u))))) ∧ ((¬ ((xb_arrived (xb_comeNearer u)) ≤ 1)) → 
     True)))
def pre_xm_takeBranch (np nd : Nat) : List mx_V → mx_S → Prop := fun as u => as = [.inr (.inr 0)] ∧ q_xm_takeBranch np nd u
def fn_xm_takeBranch (np nd : Nat) : mx_F := fun as u => match as with
  | [_] => (none, (xm_takeBranch u))
  | _ => (none, u)
def tb_xm_takeBranch (np nd : Nat) : List (Nat × mx_T) := [
  (0, mx_aload_n 0 0),
  (1, mx_getf (kx np nd) 0 4 1),
  (4, mx_invV (kx np nd) 2 0 (pre_xb_comeNearer np nd) (fn_xb_comeNearer np nd) 4),
  (7, mx_aload_n 0 7),
  (8, mx_getf (kx np nd) 0 4 8),
  (11, mx_invV (kx np nd) 2 0 (pre_xb_arrived np nd) (fn_xb_arrived np nd) 11),
  (14, mx_istore_n 1 14),
  (15, mx_iload_n 1 15),
  (16, mx_iconst 1 16),
  (17, mx_icmp_le 29 17),
  (20, mx_aload_n 0 20),
  (21, mx_bipush 6 21),
  (23, mx_putf (kx np nd) 0 5 23),
  (26, mx_goto 45 26),
  (29, mx_iload_n 1 29),
  (30, mx_iconst 1 30),
  (31, mx_icmp_ne 45 31),
  (34, mx_aload_n 0 34),
  (35, mx_aload_n 0 35),
  (36, mx_getf (kx np nd) 0 4 36),
  (39, mx_invV (kx np nd) 2 0 (pre_xb_takeFirst np nd) (fn_xb_takeFirst np nd) 39),
  (42, mx_putf (kx np nd) 0 6 42),
  (45, mx_vret 45)]
set_option maxRecDepth 100000 in
set_option maxHeartbeats 4000000 in
theorem ok_xm_takeBranch (l : Launch) (np nd : Nat) : ∀ q ∈ tb_xm_takeBranch np nd , mx_Ok l ({ frames := 1, cells := 0, slots := 0, locals := 22 } : Room) b_xm_takeBranch 2 "WideMachine" none vw_T vw_cl (kx np nd) q.1 q.2 := by
  refine List.forall_mem_cons.mpr ⟨mx_ok_aload_n (show decode b_xm_takeBranch 0 = .ok (.aload_n 0, 1) by decide +kernel) rfl, ?_⟩
  refine List.forall_mem_cons.mpr ⟨mx_ok_getf fd_xm_33 (show decode b_xm_takeBranch 1 = .ok (.getfield 33, 3) by decide +kernel), ?_⟩
  refine List.forall_mem_cons.mpr ⟨mx_ok_invV vw_G (ct_xb_comeNearer l np nd) ⟨vm_73, vm_74, vm_75, ⟨by decide +kernel, by decide +kernel, by decide +kernel⟩, ⟨by decide, by decide⟩, rfl, rfl⟩ vm_76 vm_77 rfl (show decode b_xm_takeBranch 4 = .ok (.invokevirtual 127, 3) by decide +kernel), ?_⟩
  refine List.forall_mem_cons.mpr ⟨mx_ok_aload_n (show decode b_xm_takeBranch 7 = .ok (.aload_n 0, 1) by decide +kernel) rfl, ?_⟩
  refine List.forall_mem_cons.mpr ⟨mx_ok_getf fd_xm_33 (show decode b_xm_takeBranch 8 = .ok (.getfield 33, 3) by decide +kernel), ?_⟩
  refine List.forall_mem_cons.mpr ⟨mx_ok_invV vw_G (ct_xb_arrived l np nd) ⟨vm_78, vm_79, vm_75, ⟨by decide +kernel, by decide +kernel, by decide +kernel⟩, ⟨by decide, by decide⟩, rfl, rfl⟩ vm_80 vm_81 rfl (show decode b_xm_takeBranch 11 = .ok (.invokevirtual 128, 3) by decide +kernel), ?_⟩
  refine List.forall_mem_cons.mpr ⟨mx_ok_istore_n (show decode b_xm_takeBranch 14 = .ok (.istore_n 1, 1) by decide +kernel) rfl (by decide), ?_⟩
  refine List.forall_mem_cons.mpr ⟨mx_ok_iload_n (show decode b_xm_takeBranch 15 = .ok (.iload_n 1, 1) by decide +kernel) rfl, ?_⟩
  refine List.forall_mem_cons.mpr ⟨mx_ok_iconst (show decode b_xm_takeBranch 16 = .ok (.iconst 1, 1) by decide +kernel) (by decide), ?_⟩
  refine List.forall_mem_cons.mpr ⟨mx_ok_icmp_le (show decode b_xm_takeBranch 17 = .ok (.if_icmp .le 12, 3) by decide +kernel) (by decide), ?_⟩
  refine List.forall_mem_cons.mpr ⟨mx_ok_aload_n (show decode b_xm_takeBranch 20 = .ok (.aload_n 0, 1) by decide +kernel) rfl, ?_⟩
  refine List.forall_mem_cons.mpr ⟨mx_ok_bipush (show decode b_xm_takeBranch 21 = .ok (.bipush 6, 2) by decide +kernel) (by decide), ?_⟩
  refine List.forall_mem_cons.mpr ⟨mx_ok_putf fd_xm_41 fw_0_5 (show decode b_xm_takeBranch 23 = .ok (.putfield 41, 3) by decide +kernel), ?_⟩
  refine List.forall_mem_cons.mpr ⟨mx_ok_goto (show decode b_xm_takeBranch 26 = .ok (.goto 19, 3) by decide +kernel) (by decide), ?_⟩
  refine List.forall_mem_cons.mpr ⟨mx_ok_iload_n (show decode b_xm_takeBranch 29 = .ok (.iload_n 1, 1) by decide +kernel) rfl, ?_⟩
  refine List.forall_mem_cons.mpr ⟨mx_ok_iconst (show decode b_xm_takeBranch 30 = .ok (.iconst 1, 1) by decide +kernel) (by decide), ?_⟩
  refine List.forall_mem_cons.mpr ⟨mx_ok_icmp_ne (show decode b_xm_takeBranch 31 = .ok (.if_icmp .ne 14, 3) by decide +kernel) (by decide), ?_⟩
  refine List.forall_mem_cons.mpr ⟨mx_ok_aload_n (show decode b_xm_takeBranch 34 = .ok (.aload_n 0, 1) by decide +kernel) rfl, ?_⟩
  refine List.forall_mem_cons.mpr ⟨mx_ok_aload_n (show decode b_xm_takeBranch 35 = .ok (.aload_n 0, 1) by decide +kernel) rfl, ?_⟩
  refine List.forall_mem_cons.mpr ⟨mx_ok_getf fd_xm_33 (show decode b_xm_takeBranch 36 = .ok (.getfield 33, 3) by decide +kernel), ?_⟩
  refine List.forall_mem_cons.mpr ⟨mx_ok_invV vw_G (ct_xb_takeFirst l np nd) ⟨vm_82, vm_83, vm_75, ⟨by decide +kernel, by decide +kernel, by decide +kernel⟩, ⟨by decide, by decide⟩, rfl, rfl⟩ vm_84 vm_85 rfl (show decode b_xm_takeBranch 39 = .ok (.invokevirtual 131, 3) by decide +kernel), ?_⟩
  refine List.forall_mem_cons.mpr ⟨mx_ok_putf fd_xm_48 fw_0_6 (show decode b_xm_takeBranch 42 = .ok (.putfield 48, 3) by decide +kernel), ?_⟩
  refine List.forall_mem_cons.mpr ⟨mx_ok_vret (show decode b_xm_takeBranch 45 = .ok (.return_, 1) by decide +kernel) rfl, ?_⟩
  exact fun _ h => absurd h List.not_mem_nil
set_option maxRecDepth 100000 in
set_option maxHeartbeats 4000000 in
theorem ct_xm_takeBranch (l : Launch) (np nd : Nat) : mx_Ct l vw_T vw_cl (kx np nd) { frames := 1, cells := 0, slots := 0, locals := 22 } y_xm_takeBranch b_xm_takeBranch 2 none (pre_xm_takeBranch np nd) (fn_xm_takeBranch np nd) := by
  refine mx_ct_of (tb_xm_takeBranch np nd ) (by decide) (ok_xm_takeBranch l np nd ) (fun as u h => by obtain ⟨rfl, -⟩ := h; exact Nat.le_of_ble_eq_true rfl) ?_
  intro as u hpre At hc hw
  obtain ⟨rfl, hp⟩ := hpre
  exact hc 200 [] _ _ _ _ (
    And.intro rfl (
    And.intro ⟨rfl, hp.1⟩ (
    And.intro rfl (
    And.intro ⟨rfl, hp.2.1⟩ (
    And.intro (fun h17 => 
     And.intro (fun h31 => 
      congrArg (fun z : mx_S => ((none, z) : Option mx_V × mx_S)) (show (xb_comeNearer u) = (xm_takeBranch u) from ((if_pos h17).trans (if_neg h31)).symm)) (fun h31 => 
      And.intro rfl (
      And.intro ⟨rfl, ((hp.2.2.1 h17).2 h31)⟩ (
      And.intro rfl (
      congrArg (fun z : mx_S => ((none, z) : Option mx_V × mx_S)) (show (mx_sf (xb_takeFirst (xb_comeNearer u)).2 0 6 (xb_takeFirst (xb_comeNearer u)).1) = (xm_takeBranch u) from ((if_pos h17).trans (if_pos h31)).symm)))))) (fun h17 => 
     And.intro rfl (
     congrArg (fun z : mx_S => ((none, z) : Option mx_V × mx_S)) (show (mx_sf (xb_comeNearer u) 0 5 6) = (xm_takeBranch u) from (if_neg h17).symm))))))))
/-! WideMachine.takeInterrupt()V -/
def xm_takeInterrupt_l20 : Nat → Int32 → mx_S → (mx_S)
  | 0, _, u => u
  | n + 1, v1, u =>
    if 4 ≤ v1 then
     u
    else
     if (xm_isRaised v1 u) = 0 then
      xm_takeInterrupt_l20 n (v1 + 1) u
     else
      (mx_sf (mx_sf (mx_sf (mx_sf u 0 10 ((mx_gf u 0 10) &&& (((1 : Int32) <<< (v1 &&& 31)) ^^^ ((-1) : Int32)))) 0 11 0) 0 9 (mx_gf (mx_sf (mx_sf u 0 10 ((mx_gf u 0 10) &&& (((1 : Int32) <<< (v1 &&& 31)) ^^^ ((-1) : Int32)))) 0 11 0) 0 6)) 0 6 (((8 : Int32) * v1) + (8 : Int32)))
def q_xm_takeInterrupt_l20 (np nd : Nat) : Nat → Int32 → mx_S → Prop
  | 0, _, _ => False
  | n + 1, v1, u =>
    ((4 ≤ v1) → 
     True) ∧ ((¬ (4 ≤ v1)) → 
     (((xm_isRaised v1 u) = 0) → 
      q_xm_takeInterrupt_l20 np nd n (v1 + 1) u) ∧ ((¬ ((xm_isRaised v1 u) = 0)) → 
      True))
def xm_takeInterrupt (u : mx_S) : mx_S :=
  if (mx_gf u 0 11) = 0 then
   u
  else
   if (mx_gf u 8 2) ≤ 0 then
    xm_takeInterrupt_l20 20 0 u
   else
    u
def q_xm_takeInterrupt (np nd : Nat) (u : mx_S) : Prop :=
  (((mx_gf u 0 11) = 0) → 
   True) ∧ ((¬ ((mx_gf u 0 11) = 0)) → 
   (((mx_gf u 8 2) ≤ 0) → 
    q_xm_takeInterrupt_l20 np nd 20 0 u) ∧ ((¬ ((mx_gf u 8 2) ≤ 0)) → 
    True))
def pre_xm_takeInterrupt (np nd : Nat) : List mx_V → mx_S → Prop := fun as u => as = [.inr (.inr 0)] ∧ q_xm_takeInterrupt np nd u
def fn_xm_takeInterrupt (np nd : Nat) : mx_F := fun as u => match as with
  | [_] => (none, (xm_takeInterrupt u))
  | _ => (none, u)
def tb_xm_takeInterrupt (np nd : Nat) : List (Nat × mx_T) := [
  (0, mx_aload_n 0 0),
  (1, mx_getf (kx np nd) 0 11 1),
  (4, mx_if_eq 17 4),
  (7, mx_aload_n 0 7),
  (8, mx_getf (kx np nd) 0 4 8),
  (11, mx_getf (kx np nd) 2 2 11),
  (14, mx_if_le 18 14),
  (17, mx_vret 17),
  (18, mx_iconst 0 18),
  (19, mx_istore_n 1 19),
  (20, mx_iload_n 1 20),
  (21, mx_iconst 4 21),
  (22, mx_icmp_ge 78 22),
  (25, mx_aload_n 0 25),
  (26, mx_iload_n 1 26),
  (27, mx_invV (kx np nd) 0 1 (pre_xm_isRaised np nd) (fn_xm_isRaised np nd) 27),
  (30, mx_if_eq 72 30),
  (33, mx_aload_n 0 33),
  (34, mx_dup 34),
  (35, mx_getf (kx np nd) 0 10 35),
  (38, mx_iconst 1 38),
  (39, mx_iload_n 1 39),
  (40, mx_ishl 40),
  (41, mx_iconst (-1) 41),
  (42, mx_ixor 42),
  (43, mx_iand 43),
  (44, mx_putf (kx np nd) 0 10 44),
  (47, mx_aload_n 0 47),
  (48, mx_iconst 0 48),
  (49, mx_putz (kx np nd) 0 11 49),
  (52, mx_aload_n 0 52),
  (53, mx_aload_n 0 53),
  (54, mx_getf (kx np nd) 0 6 54),
  (57, mx_putf (kx np nd) 0 9 57),
  (60, mx_aload_n 0 60),
  (61, mx_bipush 8 61),
  (63, mx_iload_n 1 63),
  (64, mx_imul 64),
  (65, mx_bipush 8 65),
  (67, mx_iadd 67),
  (68, mx_putf (kx np nd) 0 6 68),
  (71, mx_vret 71),
  (72, mx_iinc 1 1 72),
  (75, mx_goto 20 75),
  (78, mx_vret 78)]
set_option maxRecDepth 100000 in
set_option maxHeartbeats 4000000 in
theorem ok_xm_takeInterrupt (l : Launch) (np nd : Nat) : ∀ q ∈ tb_xm_takeInterrupt np nd , mx_Ok l ({ frames := 1, cells := 0, slots := 0, locals := 21 } : Room) b_xm_takeInterrupt 2 "WideMachine" none vw_T vw_cl (kx np nd) q.1 q.2 := by
  refine List.forall_mem_cons.mpr ⟨mx_ok_aload_n (show decode b_xm_takeInterrupt 0 = .ok (.aload_n 0, 1) by decide +kernel) rfl, ?_⟩
  refine List.forall_mem_cons.mpr ⟨mx_ok_getf fd_xm_64 (show decode b_xm_takeInterrupt 1 = .ok (.getfield 64, 3) by decide +kernel), ?_⟩
  refine List.forall_mem_cons.mpr ⟨mx_ok_if_eq (show decode b_xm_takeInterrupt 4 = .ok (.ifCond .eq 13, 3) by decide +kernel) (by decide), ?_⟩
  refine List.forall_mem_cons.mpr ⟨mx_ok_aload_n (show decode b_xm_takeInterrupt 7 = .ok (.aload_n 0, 1) by decide +kernel) rfl, ?_⟩
  refine List.forall_mem_cons.mpr ⟨mx_ok_getf fd_xm_33 (show decode b_xm_takeInterrupt 8 = .ok (.getfield 33, 3) by decide +kernel), ?_⟩
  refine List.forall_mem_cons.mpr ⟨mx_ok_getf fd_xm_57 (show decode b_xm_takeInterrupt 11 = .ok (.getfield 57, 3) by decide +kernel), ?_⟩
  refine List.forall_mem_cons.mpr ⟨mx_ok_if_le (show decode b_xm_takeInterrupt 14 = .ok (.ifCond .le 4, 3) by decide +kernel) (by decide), ?_⟩
  refine List.forall_mem_cons.mpr ⟨mx_ok_vret (show decode b_xm_takeInterrupt 17 = .ok (.return_, 1) by decide +kernel) rfl, ?_⟩
  refine List.forall_mem_cons.mpr ⟨mx_ok_iconst (show decode b_xm_takeInterrupt 18 = .ok (.iconst 0, 1) by decide +kernel) (by decide), ?_⟩
  refine List.forall_mem_cons.mpr ⟨mx_ok_istore_n (show decode b_xm_takeInterrupt 19 = .ok (.istore_n 1, 1) by decide +kernel) rfl (by decide), ?_⟩
  refine List.forall_mem_cons.mpr ⟨mx_ok_iload_n (show decode b_xm_takeInterrupt 20 = .ok (.iload_n 1, 1) by decide +kernel) rfl, ?_⟩
  refine List.forall_mem_cons.mpr ⟨mx_ok_iconst (show decode b_xm_takeInterrupt 21 = .ok (.iconst 4, 1) by decide +kernel) (by decide), ?_⟩
  refine List.forall_mem_cons.mpr ⟨mx_ok_icmp_ge (show decode b_xm_takeInterrupt 22 = .ok (.if_icmp .ge 56, 3) by decide +kernel) (by decide), ?_⟩
  refine List.forall_mem_cons.mpr ⟨mx_ok_aload_n (show decode b_xm_takeInterrupt 25 = .ok (.aload_n 0, 1) by decide +kernel) rfl, ?_⟩
  refine List.forall_mem_cons.mpr ⟨mx_ok_iload_n (show decode b_xm_takeInterrupt 26 = .ok (.iload_n 1, 1) by decide +kernel) rfl, ?_⟩
  refine List.forall_mem_cons.mpr ⟨mx_ok_invV vw_G (ct_xm_isRaised l np nd) ⟨vm_90, vm_91, vm_46, ⟨by decide +kernel, by decide +kernel, by decide +kernel⟩, ⟨by decide, by decide⟩, rfl, rfl⟩ vm_92 vm_93 rfl (show decode b_xm_takeInterrupt 27 = .ok (.invokevirtual 80, 3) by decide +kernel), ?_⟩
  refine List.forall_mem_cons.mpr ⟨mx_ok_if_eq (show decode b_xm_takeInterrupt 30 = .ok (.ifCond .eq 42, 3) by decide +kernel) (by decide), ?_⟩
  refine List.forall_mem_cons.mpr ⟨mx_ok_aload_n (show decode b_xm_takeInterrupt 33 = .ok (.aload_n 0, 1) by decide +kernel) rfl, ?_⟩
  refine List.forall_mem_cons.mpr ⟨mx_ok_dup (show decode b_xm_takeInterrupt 34 = .ok (.dup, 1) by decide +kernel), ?_⟩
  refine List.forall_mem_cons.mpr ⟨mx_ok_getf fd_xm_68 (show decode b_xm_takeInterrupt 35 = .ok (.getfield 68, 3) by decide +kernel), ?_⟩
  refine List.forall_mem_cons.mpr ⟨mx_ok_iconst (show decode b_xm_takeInterrupt 38 = .ok (.iconst 1, 1) by decide +kernel) (by decide), ?_⟩
  refine List.forall_mem_cons.mpr ⟨mx_ok_iload_n (show decode b_xm_takeInterrupt 39 = .ok (.iload_n 1, 1) by decide +kernel) rfl, ?_⟩
  refine List.forall_mem_cons.mpr ⟨mx_ok_ishl (show decode b_xm_takeInterrupt 40 = .ok (.ishl, 1) by decide +kernel), ?_⟩
  refine List.forall_mem_cons.mpr ⟨mx_ok_iconst (show decode b_xm_takeInterrupt 41 = .ok (.iconst (-1), 1) by decide +kernel) (by decide), ?_⟩
  refine List.forall_mem_cons.mpr ⟨mx_ok_ixor (show decode b_xm_takeInterrupt 42 = .ok (.ixor, 1) by decide +kernel), ?_⟩
  refine List.forall_mem_cons.mpr ⟨mx_ok_iand (show decode b_xm_takeInterrupt 43 = .ok (.iand, 1) by decide +kernel), ?_⟩
  refine List.forall_mem_cons.mpr ⟨mx_ok_putf fd_xm_68 fw_0_10 (show decode b_xm_takeInterrupt 44 = .ok (.putfield 68, 3) by decide +kernel), ?_⟩
  refine List.forall_mem_cons.mpr ⟨mx_ok_aload_n (show decode b_xm_takeInterrupt 47 = .ok (.aload_n 0, 1) by decide +kernel) rfl, ?_⟩
  refine List.forall_mem_cons.mpr ⟨mx_ok_iconst (show decode b_xm_takeInterrupt 48 = .ok (.iconst 0, 1) by decide +kernel) (by decide), ?_⟩
  refine List.forall_mem_cons.mpr ⟨mx_ok_putz fd_xm_64 fw_0_11 (show decode b_xm_takeInterrupt 49 = .ok (.putfield 64, 3) by decide +kernel), ?_⟩
  refine List.forall_mem_cons.mpr ⟨mx_ok_aload_n (show decode b_xm_takeInterrupt 52 = .ok (.aload_n 0, 1) by decide +kernel) rfl, ?_⟩
  refine List.forall_mem_cons.mpr ⟨mx_ok_aload_n (show decode b_xm_takeInterrupt 53 = .ok (.aload_n 0, 1) by decide +kernel) rfl, ?_⟩
  refine List.forall_mem_cons.mpr ⟨mx_ok_getf fd_xm_48 (show decode b_xm_takeInterrupt 54 = .ok (.getfield 48, 3) by decide +kernel), ?_⟩
  refine List.forall_mem_cons.mpr ⟨mx_ok_putf fd_xm_61 fw_0_9 (show decode b_xm_takeInterrupt 57 = .ok (.putfield 61, 3) by decide +kernel), ?_⟩
  refine List.forall_mem_cons.mpr ⟨mx_ok_aload_n (show decode b_xm_takeInterrupt 60 = .ok (.aload_n 0, 1) by decide +kernel) rfl, ?_⟩
  refine List.forall_mem_cons.mpr ⟨mx_ok_bipush (show decode b_xm_takeInterrupt 61 = .ok (.bipush 8, 2) by decide +kernel) (by decide), ?_⟩
  refine List.forall_mem_cons.mpr ⟨mx_ok_iload_n (show decode b_xm_takeInterrupt 63 = .ok (.iload_n 1, 1) by decide +kernel) rfl, ?_⟩
  refine List.forall_mem_cons.mpr ⟨mx_ok_imul (show decode b_xm_takeInterrupt 64 = .ok (.imul, 1) by decide +kernel), ?_⟩
  refine List.forall_mem_cons.mpr ⟨mx_ok_bipush (show decode b_xm_takeInterrupt 65 = .ok (.bipush 8, 2) by decide +kernel) (by decide), ?_⟩
  refine List.forall_mem_cons.mpr ⟨mx_ok_iadd (show decode b_xm_takeInterrupt 67 = .ok (.iadd, 1) by decide +kernel), ?_⟩
  refine List.forall_mem_cons.mpr ⟨mx_ok_putf fd_xm_48 fw_0_6 (show decode b_xm_takeInterrupt 68 = .ok (.putfield 48, 3) by decide +kernel), ?_⟩
  refine List.forall_mem_cons.mpr ⟨mx_ok_vret (show decode b_xm_takeInterrupt 71 = .ok (.return_, 1) by decide +kernel) rfl, ?_⟩
  refine List.forall_mem_cons.mpr ⟨mx_ok_iinc (show decode b_xm_takeInterrupt 72 = .ok (.iinc 1 1, 3) by decide +kernel) (by decide) (by decide), ?_⟩
  refine List.forall_mem_cons.mpr ⟨mx_ok_goto (show decode b_xm_takeInterrupt 75 = .ok (.goto (-55), 3) by decide +kernel) (by decide), ?_⟩
  refine List.forall_mem_cons.mpr ⟨mx_ok_vret (show decode b_xm_takeInterrupt 78 = .ok (.return_, 1) by decide +kernel) rfl, ?_⟩
  exact fun _ h => absurd h List.not_mem_nil
set_option maxRecDepth 100000 in
set_option maxHeartbeats 4000000 in
theorem ct_xm_takeInterrupt (l : Launch) (np nd : Nat) : mx_Ct l vw_T vw_cl (kx np nd) { frames := 1, cells := 0, slots := 0, locals := 21 } y_xm_takeInterrupt b_xm_takeInterrupt 2 none (pre_xm_takeInterrupt np nd) (fn_xm_takeInterrupt np nd) := by
  refine mx_ct_of (tb_xm_takeInterrupt np nd ) (by decide) (ok_xm_takeInterrupt l np nd ) (fun as u h => by obtain ⟨rfl, -⟩ := h; exact Nat.le_of_ble_eq_true rfl) ?_
  intro as u hpre At hc hw
  obtain ⟨rfl, hp⟩ := hpre
  obtain ⟨RES, hRES⟩ : ∃ z, z = (xm_takeInterrupt u) := ⟨_, rfl⟩
  have hfn : fn_xm_takeInterrupt np nd [.inr (.inr 0)] u = (none, RES) := by rw [hRES]; rfl
  rw [hfn] at hc
  have lp20 : ∀ (n20 : Nat) (v1 : Int32) (u : mx_S), q_xm_takeInterrupt_l20 np nd n20 v1 u → xm_takeInterrupt_l20 n20 v1 u = RES → At 20 [(1, .inl v1), (0, .inr (.inr 0))] [] u := by
    intro n20
    induction n20 with
    | zero =>
      intro v1 u hi he
      exact hi.elim
    | succ n20 ih20 =>
      intro v1 u hi20 he20
      exact hc 200 [20] _ _ _ _ (
        And.intro (fun h22 => 
         congrArg (fun z : mx_S => ((none, z) : Option mx_V × mx_S)) (show u = RES from (if_pos h22).symm.trans he20)) (fun h22 => 
         And.intro rfl (
         And.intro ⟨_, rfl, trivial⟩ (
         And.intro (fun h30 => 
          hw [0, 1] _ _ _ _ (ih20 (v1 + 1) u ((hi20.2 h22).1 h30) (((if_neg h22).trans (if_pos h30)).symm.trans he20))) (fun h30 => 
          And.intro rfl (
          And.intro rfl (
          And.intro (Or.inl rfl) (
          And.intro rfl (
          And.intro rfl (
          congrArg (fun z : mx_S => ((none, z) : Option mx_V × mx_S)) (show (mx_sf (mx_sf (mx_sf (mx_sf u 0 10 ((mx_gf u 0 10) &&& (((1 : Int32) <<< (v1 &&& 31)) ^^^ ((-1) : Int32)))) 0 11 0) 0 9 (mx_gf (mx_sf (mx_sf u 0 10 ((mx_gf u 0 10) &&& (((1 : Int32) <<< (v1 &&& 31)) ^^^ ((-1) : Int32)))) 0 11 0) 0 6)) 0 6 (((8 : Int32) * v1) + (8 : Int32))) = RES from ((if_neg h22).trans (if_neg h30)).symm.trans he20)))))))))))
  exact hc 200 [20] _ _ _ _ (
    And.intro (fun h4 => 
     congrArg (fun z : mx_S => ((none, z) : Option mx_V × mx_S)) (show u = RES from (if_pos h4).symm.trans hRES.symm)) (fun h4 => 
     And.intro (fun h14 => 
      hw [0, 1] _ _ _ _ (lp20 20 0 u ((hp.2 h4).1 h14) (((if_neg h4).trans (if_pos h14)).symm.trans hRES.symm))) (fun h14 => 
      congrArg (fun z : mx_S => ((none, z) : Option mx_V × mx_S)) (show u = RES from ((if_neg h4).trans (if_neg h14)).symm.trans hRES.symm))))
/-! WideMachine.goesBeyondData(I)Z -/
def xm_goesBeyondData_l5 (np nd : Nat) (a1 : Int32) (u : mx_S) : Nat → Int32 → (Int32)
  | 0, _ => 0
  | n + 1, v2 =>
    if a1 ≤ v2 then
     0
    else
     if (xw_code (mx_ga u 1 (v2).toNatClampNeg) ) = 50 then
      if (xm_isConditionTrue (mx_ga u 1 (v2).toNatClampNeg) u) = 0 then
       xm_goesBeyondData_l5 np nd a1 u n (v2 + 1)
      else
       if (xm_isInData np nd (xm_dataAddress (mx_ga u 1 (v2).toNatClampNeg) u) ) = 0 then
        1
       else
        xm_goesBeyondData_l5 np nd a1 u n (v2 + 1)
     else
      if (xw_code (mx_ga u 1 (v2).toNatClampNeg) ) = 51 then
       if (xm_isConditionTrue (mx_ga u 1 (v2).toNatClampNeg) u) = 0 then
        xm_goesBeyondData_l5 np nd a1 u n (v2 + 1)
       else
        if (xm_isInData np nd (xm_dataAddress (mx_ga u 1 (v2).toNatClampNeg) u) ) = 0 then
         1
        else
         xm_goesBeyondData_l5 np nd a1 u n (v2 + 1)
      else
       xm_goesBeyondData_l5 np nd a1 u n (v2 + 1)
def q_xm_goesBeyondData_l5 (np nd : Nat) (a1 : Int32) (u : mx_S) : Nat → Int32 → Prop
  | 0, _ => False
  | n + 1, v2 =>
    ((a1 ≤ v2) → 
     True) ∧ ((¬ (a1 ≤ v2)) → 
     (vp_in v2 np) ∧ (
      (((xw_code (mx_ga u 1 (v2).toNatClampNeg) ) = 50) → 
       ((q_xm_isConditionTrue np nd (mx_ga u 1 (v2).toNatClampNeg) u)) ∧ (
        (((xm_isConditionTrue (mx_ga u 1 (v2).toNatClampNeg) u) = 0) → 
         q_xm_goesBeyondData_l5 np nd a1 u n (v2 + 1)) ∧ ((¬ ((xm_isConditionTrue (mx_ga u 1 (v2).toNatClampNeg) u) = 0)) → 
         ((¬ ((xm_isInData np nd (xm_dataAddress (mx_ga u 1 (v2).toNatClampNeg) u) ) = 0)) → 
          q_xm_goesBeyondData_l5 np nd a1 u n (v2 + 1)) ∧ (((xm_isInData np nd (xm_dataAddress (mx_ga u 1 (v2).toNatClampNeg) u) ) = 0) → 
          True)))) ∧ ((¬ ((xw_code (mx_ga u 1 (v2).toNatClampNeg) ) = 50)) → 
       ((¬ ((xw_code (mx_ga u 1 (v2).toNatClampNeg) ) = 51)) → 
        q_xm_goesBeyondData_l5 np nd a1 u n (v2 + 1)) ∧ (((xw_code (mx_ga u 1 (v2).toNatClampNeg) ) = 51) → 
        ((q_xm_isConditionTrue np nd (mx_ga u 1 (v2).toNatClampNeg) u)) ∧ (
         (((xm_isConditionTrue (mx_ga u 1 (v2).toNatClampNeg) u) = 0) → 
          q_xm_goesBeyondData_l5 np nd a1 u n (v2 + 1)) ∧ ((¬ ((xm_isConditionTrue (mx_ga u 1 (v2).toNatClampNeg) u) = 0)) → 
          ((¬ ((xm_isInData np nd (xm_dataAddress (mx_ga u 1 (v2).toNatClampNeg) u) ) = 0)) → 
           q_xm_goesBeyondData_l5 np nd a1 u n (v2 + 1)) ∧ (((xm_isInData np nd (xm_dataAddress (mx_ga u 1 (v2).toNatClampNeg) u) ) = 0) → 
           True)))))))
def xm_goesBeyondData (np nd : Nat) (a1 : Int32) (u : mx_S) : Int32 :=
  xm_goesBeyondData_l5 np nd a1 u 20 (mx_gf u 0 6)
def q_xm_goesBeyondData (np nd : Nat) (a1 : Int32) (u : mx_S) : Prop :=
  q_xm_goesBeyondData_l5 np nd a1 u 20 (mx_gf u 0 6)
def pre_xm_goesBeyondData (np nd : Nat) : List mx_V → mx_S → Prop := fun as u => ∃ (a1 : Int32), as = [.inr (.inr 0), .inl a1] ∧ q_xm_goesBeyondData np nd a1 u
def fn_xm_goesBeyondData (np nd : Nat) : mx_F := fun as u => match as with
  | [_, .inl a1] => mx_rI u (xm_goesBeyondData np nd a1 u)
  | _ => (none, u)
def tb_xm_goesBeyondData (np nd : Nat) : List (Nat × mx_T) := [
  (0, mx_aload_n 0 0),
  (1, mx_getf (kx np nd) 0 6 1),
  (4, mx_istore_n 2 4),
  (5, mx_iload_n 2 5),
  (6, mx_iload_n 1 6),
  (7, mx_icmp_ge 77 7),
  (10, mx_aload_n 0 10),
  (11, mx_getf (kx np nd) 0 0 11),
  (14, mx_iload_n 2 14),
  (15, mx_iald (kx np nd) 15),
  (16, mx_istore_n 3 16),
  (17, mx_iload_n 3 17),
  (18, mx_invS 1 (pre_xw_code np nd) (fn_xw_code np nd) 18),
  (21, mx_istore 4 21),
  (23, mx_iload 4 23),
  (25, mx_bipush 50 25),
  (27, mx_icmp_eq 37 27),
  (30, mx_iload 4 30),
  (32, mx_bipush 51 32),
  (34, mx_icmp_ne 41 34),
  (37, mx_iconst 1 37),
  (38, mx_goto 42 38),
  (41, mx_iconst 0 41),
  (42, mx_istore 5 42),
  (44, mx_iload 5 44),
  (46, mx_if_eq 71 46),
  (49, mx_aload_n 0 49),
  (50, mx_iload_n 3 50),
  (51, mx_invV (kx np nd) 0 1 (pre_xm_isConditionTrue np nd) (fn_xm_isConditionTrue np nd) 51),
  (54, mx_if_eq 71 54),
  (57, mx_aload_n 0 57),
  (58, mx_aload_n 0 58),
  (59, mx_iload_n 3 59),
  (60, mx_invV (kx np nd) 0 1 (pre_xm_dataAddress np nd) (fn_xm_dataAddress np nd) 60),
  (63, mx_invV (kx np nd) 0 1 (pre_xm_isInData np nd) (fn_xm_isInData np nd) 63),
  (66, mx_if_ne 71 66),
  (69, mx_iconst 1 69),
  (70, mx_zret 70),
  (71, mx_iinc 2 1 71),
  (74, mx_goto 5 74),
  (77, mx_iconst 0 77),
  (78, mx_zret 78)]
set_option maxRecDepth 100000 in
set_option maxHeartbeats 4000000 in
theorem ok_xm_goesBeyondData (l : Launch) (np nd : Nat) : ∀ q ∈ tb_xm_goesBeyondData np nd , mx_Ok l ({ frames := 3, cells := 0, slots := 0, locals := 62 } : Room) b_xm_goesBeyondData 6 "WideMachine" (some .boolean) vw_T vw_cl (kx np nd) q.1 q.2 := by
  refine List.forall_mem_cons.mpr ⟨mx_ok_aload_n (show decode b_xm_goesBeyondData 0 = .ok (.aload_n 0, 1) by decide +kernel) rfl, ?_⟩
  refine List.forall_mem_cons.mpr ⟨mx_ok_getf fd_xm_48 (show decode b_xm_goesBeyondData 1 = .ok (.getfield 48, 3) by decide +kernel), ?_⟩
  refine List.forall_mem_cons.mpr ⟨mx_ok_istore_n (show decode b_xm_goesBeyondData 4 = .ok (.istore_n 2, 1) by decide +kernel) rfl (by decide), ?_⟩
  refine List.forall_mem_cons.mpr ⟨mx_ok_iload_n (show decode b_xm_goesBeyondData 5 = .ok (.iload_n 2, 1) by decide +kernel) rfl, ?_⟩
  refine List.forall_mem_cons.mpr ⟨mx_ok_iload_n (show decode b_xm_goesBeyondData 6 = .ok (.iload_n 1, 1) by decide +kernel) rfl, ?_⟩
  refine List.forall_mem_cons.mpr ⟨mx_ok_icmp_ge (show decode b_xm_goesBeyondData 7 = .ok (.if_icmp .ge 70, 3) by decide +kernel) (by decide), ?_⟩
  refine List.forall_mem_cons.mpr ⟨mx_ok_aload_n (show decode b_xm_goesBeyondData 10 = .ok (.aload_n 0, 1) by decide +kernel) rfl, ?_⟩
  refine List.forall_mem_cons.mpr ⟨mx_ok_getf fd_xm_13 (show decode b_xm_goesBeyondData 11 = .ok (.getfield 13, 3) by decide +kernel), ?_⟩
  refine List.forall_mem_cons.mpr ⟨mx_ok_iload_n (show decode b_xm_goesBeyondData 14 = .ok (.iload_n 2, 1) by decide +kernel) rfl, ?_⟩
  refine List.forall_mem_cons.mpr ⟨mx_ok_iald (show decode b_xm_goesBeyondData 15 = .ok (.iaload, 1) by decide +kernel), ?_⟩
  refine List.forall_mem_cons.mpr ⟨mx_ok_istore_n (show decode b_xm_goesBeyondData 16 = .ok (.istore_n 3, 1) by decide +kernel) rfl (by decide), ?_⟩
  refine List.forall_mem_cons.mpr ⟨mx_ok_iload_n (show decode b_xm_goesBeyondData 17 = .ok (.iload_n 3, 1) by decide +kernel) rfl, ?_⟩
  refine List.forall_mem_cons.mpr ⟨mx_ok_invS vw_G (ct_xw_code l np nd) ⟨vm_159, vm_100, vm_97, ⟨by decide +kernel, by decide +kernel, by decide +kernel⟩, ⟨by decide, by decide⟩, rfl, rfl⟩ vm_101 (show decode b_xm_goesBeyondData 18 = .ok (.invokestatic 163, 3) by decide +kernel), ?_⟩
  refine List.forall_mem_cons.mpr ⟨mx_ok_istore (show decode b_xm_goesBeyondData 21 = .ok (.istore 4, 2) by decide +kernel) (by decide), ?_⟩
  refine List.forall_mem_cons.mpr ⟨mx_ok_iload (show decode b_xm_goesBeyondData 23 = .ok (.iload 4, 2) by decide +kernel), ?_⟩
  refine List.forall_mem_cons.mpr ⟨mx_ok_bipush (show decode b_xm_goesBeyondData 25 = .ok (.bipush 50, 2) by decide +kernel) (by decide), ?_⟩
  refine List.forall_mem_cons.mpr ⟨mx_ok_icmp_eq (show decode b_xm_goesBeyondData 27 = .ok (.if_icmp .eq 10, 3) by decide +kernel) (by decide), ?_⟩
  refine List.forall_mem_cons.mpr ⟨mx_ok_iload (show decode b_xm_goesBeyondData 30 = .ok (.iload 4, 2) by decide +kernel), ?_⟩
  refine List.forall_mem_cons.mpr ⟨mx_ok_bipush (show decode b_xm_goesBeyondData 32 = .ok (.bipush 51, 2) by decide +kernel) (by decide), ?_⟩
  refine List.forall_mem_cons.mpr ⟨mx_ok_icmp_ne (show decode b_xm_goesBeyondData 34 = .ok (.if_icmp .ne 7, 3) by decide +kernel) (by decide), ?_⟩
  refine List.forall_mem_cons.mpr ⟨mx_ok_iconst (show decode b_xm_goesBeyondData 37 = .ok (.iconst 1, 1) by decide +kernel) (by decide), ?_⟩
  refine List.forall_mem_cons.mpr ⟨mx_ok_goto (show decode b_xm_goesBeyondData 38 = .ok (.goto 4, 3) by decide +kernel) (by decide), ?_⟩
  refine List.forall_mem_cons.mpr ⟨mx_ok_iconst (show decode b_xm_goesBeyondData 41 = .ok (.iconst 0, 1) by decide +kernel) (by decide), ?_⟩
  refine List.forall_mem_cons.mpr ⟨mx_ok_istore (show decode b_xm_goesBeyondData 42 = .ok (.istore 5, 2) by decide +kernel) (by decide), ?_⟩
  refine List.forall_mem_cons.mpr ⟨mx_ok_iload (show decode b_xm_goesBeyondData 44 = .ok (.iload 5, 2) by decide +kernel), ?_⟩
  refine List.forall_mem_cons.mpr ⟨mx_ok_if_eq (show decode b_xm_goesBeyondData 46 = .ok (.ifCond .eq 25, 3) by decide +kernel) (by decide), ?_⟩
  refine List.forall_mem_cons.mpr ⟨mx_ok_aload_n (show decode b_xm_goesBeyondData 49 = .ok (.aload_n 0, 1) by decide +kernel) rfl, ?_⟩
  refine List.forall_mem_cons.mpr ⟨mx_ok_iload_n (show decode b_xm_goesBeyondData 50 = .ok (.iload_n 3, 1) by decide +kernel) rfl, ?_⟩
  refine List.forall_mem_cons.mpr ⟨mx_ok_invV vw_G (ct_xm_isConditionTrue l np nd) ⟨vm_160, vm_161, vm_46, ⟨by decide +kernel, by decide +kernel, by decide +kernel⟩, ⟨by decide, by decide⟩, rfl, rfl⟩ vm_162 vm_163 rfl (show decode b_xm_goesBeyondData 51 = .ok (.invokevirtual 166, 3) by decide +kernel), ?_⟩
  refine List.forall_mem_cons.mpr ⟨mx_ok_if_eq (show decode b_xm_goesBeyondData 54 = .ok (.ifCond .eq 17, 3) by decide +kernel) (by decide), ?_⟩
  refine List.forall_mem_cons.mpr ⟨mx_ok_aload_n (show decode b_xm_goesBeyondData 57 = .ok (.aload_n 0, 1) by decide +kernel) rfl, ?_⟩
  refine List.forall_mem_cons.mpr ⟨mx_ok_aload_n (show decode b_xm_goesBeyondData 58 = .ok (.aload_n 0, 1) by decide +kernel) rfl, ?_⟩
  refine List.forall_mem_cons.mpr ⟨mx_ok_iload_n (show decode b_xm_goesBeyondData 59 = .ok (.iload_n 3, 1) by decide +kernel) rfl, ?_⟩
  refine List.forall_mem_cons.mpr ⟨mx_ok_invV vw_G (ct_xm_dataAddress l np nd) ⟨vm_164, vm_165, vm_46, ⟨by decide +kernel, by decide +kernel, by decide +kernel⟩, ⟨by decide, by decide⟩, rfl, rfl⟩ vm_166 vm_167 rfl (show decode b_xm_goesBeyondData 60 = .ok (.invokevirtual 169, 3) by decide +kernel), ?_⟩
  refine List.forall_mem_cons.mpr ⟨mx_ok_invV vw_G (ct_xm_isInData l np nd) ⟨vm_44, vm_45, vm_46, ⟨by decide +kernel, by decide +kernel, by decide +kernel⟩, ⟨by decide, by decide⟩, rfl, rfl⟩ vm_47 vm_48 rfl (show decode b_xm_goesBeyondData 63 = .ok (.invokevirtual 37, 3) by decide +kernel), ?_⟩
  refine List.forall_mem_cons.mpr ⟨mx_ok_if_ne (show decode b_xm_goesBeyondData 66 = .ok (.ifCond .ne 5, 3) by decide +kernel) (by decide), ?_⟩
  refine List.forall_mem_cons.mpr ⟨mx_ok_iconst (show decode b_xm_goesBeyondData 69 = .ok (.iconst 1, 1) by decide +kernel) (by decide), ?_⟩
  refine List.forall_mem_cons.mpr ⟨mx_ok_zret (show decode b_xm_goesBeyondData 70 = .ok (.ireturn, 1) by decide +kernel) rfl, ?_⟩
  refine List.forall_mem_cons.mpr ⟨mx_ok_iinc (show decode b_xm_goesBeyondData 71 = .ok (.iinc 2 1, 3) by decide +kernel) (by decide) (by decide), ?_⟩
  refine List.forall_mem_cons.mpr ⟨mx_ok_goto (show decode b_xm_goesBeyondData 74 = .ok (.goto (-69), 3) by decide +kernel) (by decide), ?_⟩
  refine List.forall_mem_cons.mpr ⟨mx_ok_iconst (show decode b_xm_goesBeyondData 77 = .ok (.iconst 0, 1) by decide +kernel) (by decide), ?_⟩
  refine List.forall_mem_cons.mpr ⟨mx_ok_zret (show decode b_xm_goesBeyondData 78 = .ok (.ireturn, 1) by decide +kernel) rfl, ?_⟩
  exact fun _ h => absurd h List.not_mem_nil
set_option maxRecDepth 100000 in
set_option maxHeartbeats 4000000 in
theorem ct_xm_goesBeyondData (l : Launch) (np nd : Nat) : mx_Ct l vw_T vw_cl (kx np nd) { frames := 3, cells := 0, slots := 0, locals := 62 } y_xm_goesBeyondData b_xm_goesBeyondData 6 (some .boolean) (pre_xm_goesBeyondData np nd) (fn_xm_goesBeyondData np nd) := by
  refine mx_ct_of (tb_xm_goesBeyondData np nd ) (by decide) (ok_xm_goesBeyondData l np nd ) (fun as u h => by obtain ⟨_, rfl, -⟩ := h; exact Nat.le_of_ble_eq_true rfl) ?_
  intro as u hpre At hc hw
  obtain ⟨a1, rfl, hp⟩ := hpre
  obtain ⟨RES, hRES⟩ : ∃ z, z = (xm_goesBeyondData np nd a1 u) := ⟨_, rfl⟩
  have hfn : fn_xm_goesBeyondData np nd [.inr (.inr 0), .inl a1] u = mx_rI u RES := by rw [hRES]; rfl
  rw [hfn] at hc
  have lp5 : ∀ (n5 : Nat) (v2 : Int32), q_xm_goesBeyondData_l5 np nd a1 u n5 v2 → xm_goesBeyondData_l5 np nd a1 u n5 v2 = RES → At 5 [(2, .inl v2), (0, .inr (.inr 0)), (1, .inl a1)] [] u := by
    intro n5
    induction n5 with
    | zero =>
      intro v2 hi he
      exact hi.elim
    | succ n5 ih5 =>
      intro v2 hi5 he5
      exact hc 200 [5] _ _ _ _ (
        And.intro (fun h7 => 
         And.intro (Or.inl rfl) (
         congrArg (mx_rI u) (show 0 = RES from (if_pos h7).symm.trans he5))) (fun h7 => 
         And.intro ((hi5.2 h7).1) (
         And.intro rfl (
         And.intro ⟨_, rfl, trivial⟩ (
         And.intro (fun h27 => 
          And.intro (fun h46 => absurd h46 (by decide)) (fun h46 => 
           And.intro rfl (
           And.intro ⟨_, rfl, ((hi5.2 h7).2.1 h27).1⟩ (
           And.intro (fun h54 => 
            hw [0, 4, 5] _ _ _ _ (ih5 (v2 + 1) (((hi5.2 h7).2.1 h27).2.1 h54) (((if_neg h7).trans ((if_pos h27).trans (if_pos h54))).symm.trans he5))) (fun h54 => 
            And.intro rfl (
            And.intro ⟨_, rfl, trivial⟩ (
            And.intro rfl (
            And.intro ⟨_, rfl, trivial⟩ (
            And.intro (fun h66 => 
             hw [0, 4, 5] _ _ _ _ (ih5 (v2 + 1) ((((hi5.2 h7).2.1 h27).2.2 h54).1 h66) (((if_neg h7).trans ((if_pos h27).trans ((if_neg h54).trans (if_neg h66)))).symm.trans he5))) (fun h66 => 
             And.intro (Or.inr rfl) (
             congrArg (mx_rI u) (show 1 = RES from ((if_neg h7).trans ((if_pos h27).trans ((if_neg h54).trans (if_pos h66)))).symm.trans he5)))))))))))) (fun h27 => 
          And.intro (fun h34 => 
           And.intro (fun h46 => 
            hw [0, 4, 5] _ _ _ _ (ih5 (v2 + 1) (((hi5.2 h7).2.2 h27).1 h34) (((if_neg h7).trans ((if_neg h27).trans (if_neg h34))).symm.trans he5))) (fun h46 => absurd h46 (by decide))) (fun h34 => 
           And.intro (fun h46 => absurd h46 (by decide)) (fun h46 => 
            And.intro rfl (
            And.intro ⟨_, rfl, (((hi5.2 h7).2.2 h27).2 h34).1⟩ (
            And.intro (fun h54 => 
             hw [0, 4, 5] _ _ _ _ (ih5 (v2 + 1) ((((hi5.2 h7).2.2 h27).2 h34).2.1 h54) (((if_neg h7).trans ((if_neg h27).trans ((if_pos h34).trans (if_pos h54)))).symm.trans he5))) (fun h54 => 
             And.intro rfl (
             And.intro ⟨_, rfl, trivial⟩ (
             And.intro rfl (
             And.intro ⟨_, rfl, trivial⟩ (
             And.intro (fun h66 => 
              hw [0, 4, 5] _ _ _ _ (ih5 (v2 + 1) (((((hi5.2 h7).2.2 h27).2 h34).2.2 h54).1 h66) (((if_neg h7).trans ((if_neg h27).trans ((if_pos h34).trans ((if_neg h54).trans (if_neg h66))))).symm.trans he5))) (fun h66 => 
              And.intro (Or.inr rfl) (
              congrArg (mx_rI u) (show 1 = RES from ((if_neg h7).trans ((if_neg h27).trans ((if_pos h34).trans ((if_neg h54).trans (if_pos h66))))).symm.trans he5))))))))))))))))))
  exact hc 200 [5] _ _ _ _ (
    hw [0, 1, 2] _ _ _ _ (lp5 20 (mx_gf u 0 6) hp ((rfl).symm.trans hRES.symm)))
/-! WideMachine.faultOfPacket(I)I -/
def xm_faultOfPacket (np nd : Nat) (a1 : Int32) (u : mx_S) : Int32 :=
  if a1 = (-1) then
   if (mx_gf u 0 6) < 0 then
    8
   else
    if (nI np) ≤ ((mx_gf u 0 6) ||| (7 : Int32)) then
     8
    else
     1
  else
   if (xm_hasIllFormed a1 u) = 0 then
    if (xm_hasUnitTwice a1 u) = 0 then
     if (xm_hasCrossedTwice a1 u) = 0 then
      if (xm_goesBeyondData np nd a1 u) = 0 then
       0
      else
       7
     else
      4
    else
     3
   else
    2
def q_xm_faultOfPacket (np nd : Nat) (a1 : Int32) (u : mx_S) : Prop :=
  ((¬ (a1 = (-1))) → 
   ((q_xm_hasIllFormed np nd a1 u)) ∧ (
    (((xm_hasIllFormed a1 u) = 0) → 
     ((q_xm_hasUnitTwice np nd a1 u)) ∧ (
      (((xm_hasUnitTwice a1 u) = 0) → 
       ((q_xm_hasCrossedTwice np nd a1 u)) ∧ (
        (((xm_hasCrossedTwice a1 u) = 0) → 
         ((q_xm_goesBeyondData np nd a1 u))) ∧ ((¬ ((xm_hasCrossedTwice a1 u) = 0)) → 
         True))) ∧ ((¬ ((xm_hasUnitTwice a1 u) = 0)) → 
       True))) ∧ ((¬ ((xm_hasIllFormed a1 u) = 0)) → 
     True))) ∧ ((a1 = (-1)) → 
   True)
def pre_xm_faultOfPacket (np nd : Nat) : List mx_V → mx_S → Prop := fun as u => ∃ (a1 : Int32), as = [.inr (.inr 0), .inl a1] ∧ q_xm_faultOfPacket np nd a1 u
def fn_xm_faultOfPacket (np nd : Nat) : mx_F := fun as u => match as with
  | [_, .inl a1] => mx_rI u (xm_faultOfPacket np nd a1 u)
  | _ => (none, u)
def tb_xm_faultOfPacket (np nd : Nat) : List (Nat × mx_T) := [
  (0, mx_iload_n 1 0),
  (1, mx_iconst (-1) 1),
  (2, mx_icmp_ne 44 2),
  (5, mx_aload_n 0 5),
  (6, mx_getf (kx np nd) 0 6 6),
  (9, mx_if_lt 31 9),
  (12, mx_aload_n 0 12),
  (13, mx_getf (kx np nd) 0 6 13),
  (16, mx_bipush 7 16),
  (18, mx_ior 18),
  (19, mx_aload_n 0 19),
  (20, mx_getf (kx np nd) 0 0 20),
  (23, mx_alen (kx np nd) 23),
  (24, mx_icmp_ge 31 24),
  (27, mx_iconst 1 27),
  (28, mx_goto 32 28),
  (31, mx_iconst 0 31),
  (32, mx_istore_n 2 32),
  (33, mx_iload_n 2 33),
  (34, mx_if_eq 41 34),
  (37, mx_iconst 1 37),
  (38, mx_goto 43 38),
  (41, mx_bipush 8 41),
  (43, mx_iret 43),
  (44, mx_aload_n 0 44),
  (45, mx_iload_n 1 45),
  (46, mx_invV (kx np nd) 0 1 (pre_xm_hasIllFormed np nd) (fn_xm_hasIllFormed np nd) 46),
  (49, mx_if_eq 54 49),
  (52, mx_iconst 2 52),
  (53, mx_iret 53),
  (54, mx_aload_n 0 54),
  (55, mx_iload_n 1 55),
  (56, mx_invV (kx np nd) 0 1 (pre_xm_hasUnitTwice np nd) (fn_xm_hasUnitTwice np nd) 56),
  (59, mx_if_eq 64 59),
  (62, mx_iconst 3 62),
  (63, mx_iret 63),
  (64, mx_aload_n 0 64),
  (65, mx_iload_n 1 65),
  (66, mx_invV (kx np nd) 0 1 (pre_xm_hasCrossedTwice np nd) (fn_xm_hasCrossedTwice np nd) 66),
  (69, mx_if_eq 74 69),
  (72, mx_iconst 4 72),
  (73, mx_iret 73),
  (74, mx_aload_n 0 74),
  (75, mx_iload_n 1 75),
  (76, mx_invV (kx np nd) 0 1 (pre_xm_goesBeyondData np nd) (fn_xm_goesBeyondData np nd) 76),
  (79, mx_if_eq 87 79),
  (82, mx_bipush 7 82),
  (84, mx_goto 88 84),
  (87, mx_iconst 0 87),
  (88, mx_iret 88)]
set_option maxRecDepth 100000 in
set_option maxHeartbeats 4000000 in
theorem ok_xm_faultOfPacket (l : Launch) (np nd : Nat) : ∀ q ∈ tb_xm_faultOfPacket np nd , mx_Ok l ({ frames := 4, cells := 0, slots := 0, locals := 87 } : Room) b_xm_faultOfPacket 3 "WideMachine" (some .int) vw_T vw_cl (kx np nd) q.1 q.2 := by
  refine List.forall_mem_cons.mpr ⟨mx_ok_iload_n (show decode b_xm_faultOfPacket 0 = .ok (.iload_n 1, 1) by decide +kernel) rfl, ?_⟩
  refine List.forall_mem_cons.mpr ⟨mx_ok_iconst (show decode b_xm_faultOfPacket 1 = .ok (.iconst (-1), 1) by decide +kernel) (by decide), ?_⟩
  refine List.forall_mem_cons.mpr ⟨mx_ok_icmp_ne (show decode b_xm_faultOfPacket 2 = .ok (.if_icmp .ne 42, 3) by decide +kernel) (by decide), ?_⟩
  refine List.forall_mem_cons.mpr ⟨mx_ok_aload_n (show decode b_xm_faultOfPacket 5 = .ok (.aload_n 0, 1) by decide +kernel) rfl, ?_⟩
  refine List.forall_mem_cons.mpr ⟨mx_ok_getf fd_xm_48 (show decode b_xm_faultOfPacket 6 = .ok (.getfield 48, 3) by decide +kernel), ?_⟩
  refine List.forall_mem_cons.mpr ⟨mx_ok_if_lt (show decode b_xm_faultOfPacket 9 = .ok (.ifCond .lt 22, 3) by decide +kernel) (by decide), ?_⟩
  refine List.forall_mem_cons.mpr ⟨mx_ok_aload_n (show decode b_xm_faultOfPacket 12 = .ok (.aload_n 0, 1) by decide +kernel) rfl, ?_⟩
  refine List.forall_mem_cons.mpr ⟨mx_ok_getf fd_xm_48 (show decode b_xm_faultOfPacket 13 = .ok (.getfield 48, 3) by decide +kernel), ?_⟩
  refine List.forall_mem_cons.mpr ⟨mx_ok_bipush (show decode b_xm_faultOfPacket 16 = .ok (.bipush 7, 2) by decide +kernel) (by decide), ?_⟩
  refine List.forall_mem_cons.mpr ⟨mx_ok_ior (show decode b_xm_faultOfPacket 18 = .ok (.ior, 1) by decide +kernel), ?_⟩
  refine List.forall_mem_cons.mpr ⟨mx_ok_aload_n (show decode b_xm_faultOfPacket 19 = .ok (.aload_n 0, 1) by decide +kernel) rfl, ?_⟩
  refine List.forall_mem_cons.mpr ⟨mx_ok_getf fd_xm_13 (show decode b_xm_faultOfPacket 20 = .ok (.getfield 13, 3) by decide +kernel), ?_⟩
  refine List.forall_mem_cons.mpr ⟨mx_ok_alen (show decode b_xm_faultOfPacket 23 = .ok (.arraylength, 1) by decide +kernel), ?_⟩
  refine List.forall_mem_cons.mpr ⟨mx_ok_icmp_ge (show decode b_xm_faultOfPacket 24 = .ok (.if_icmp .ge 7, 3) by decide +kernel) (by decide), ?_⟩
  refine List.forall_mem_cons.mpr ⟨mx_ok_iconst (show decode b_xm_faultOfPacket 27 = .ok (.iconst 1, 1) by decide +kernel) (by decide), ?_⟩
  refine List.forall_mem_cons.mpr ⟨mx_ok_goto (show decode b_xm_faultOfPacket 28 = .ok (.goto 4, 3) by decide +kernel) (by decide), ?_⟩
  refine List.forall_mem_cons.mpr ⟨mx_ok_iconst (show decode b_xm_faultOfPacket 31 = .ok (.iconst 0, 1) by decide +kernel) (by decide), ?_⟩
  refine List.forall_mem_cons.mpr ⟨mx_ok_istore_n (show decode b_xm_faultOfPacket 32 = .ok (.istore_n 2, 1) by decide +kernel) rfl (by decide), ?_⟩
  refine List.forall_mem_cons.mpr ⟨mx_ok_iload_n (show decode b_xm_faultOfPacket 33 = .ok (.iload_n 2, 1) by decide +kernel) rfl, ?_⟩
  refine List.forall_mem_cons.mpr ⟨mx_ok_if_eq (show decode b_xm_faultOfPacket 34 = .ok (.ifCond .eq 7, 3) by decide +kernel) (by decide), ?_⟩
  refine List.forall_mem_cons.mpr ⟨mx_ok_iconst (show decode b_xm_faultOfPacket 37 = .ok (.iconst 1, 1) by decide +kernel) (by decide), ?_⟩
  refine List.forall_mem_cons.mpr ⟨mx_ok_goto (show decode b_xm_faultOfPacket 38 = .ok (.goto 5, 3) by decide +kernel) (by decide), ?_⟩
  refine List.forall_mem_cons.mpr ⟨mx_ok_bipush (show decode b_xm_faultOfPacket 41 = .ok (.bipush 8, 2) by decide +kernel) (by decide), ?_⟩
  refine List.forall_mem_cons.mpr ⟨mx_ok_iret (show decode b_xm_faultOfPacket 43 = .ok (.ireturn, 1) by decide +kernel) rfl, ?_⟩
  refine List.forall_mem_cons.mpr ⟨mx_ok_aload_n (show decode b_xm_faultOfPacket 44 = .ok (.aload_n 0, 1) by decide +kernel) rfl, ?_⟩
  refine List.forall_mem_cons.mpr ⟨mx_ok_iload_n (show decode b_xm_faultOfPacket 45 = .ok (.iload_n 1, 1) by decide +kernel) rfl, ?_⟩
  refine List.forall_mem_cons.mpr ⟨mx_ok_invV vw_G (ct_xm_hasIllFormed l np nd) ⟨vm_168, vm_169, vm_46, ⟨by decide +kernel, by decide +kernel, by decide +kernel⟩, ⟨by decide, by decide⟩, rfl, rfl⟩ vm_170 vm_171 rfl (show decode b_xm_faultOfPacket 46 = .ok (.invokevirtual 139, 3) by decide +kernel), ?_⟩
  refine List.forall_mem_cons.mpr ⟨mx_ok_if_eq (show decode b_xm_faultOfPacket 49 = .ok (.ifCond .eq 5, 3) by decide +kernel) (by decide), ?_⟩
  refine List.forall_mem_cons.mpr ⟨mx_ok_iconst (show decode b_xm_faultOfPacket 52 = .ok (.iconst 2, 1) by decide +kernel) (by decide), ?_⟩
  refine List.forall_mem_cons.mpr ⟨mx_ok_iret (show decode b_xm_faultOfPacket 53 = .ok (.ireturn, 1) by decide +kernel) rfl, ?_⟩
  refine List.forall_mem_cons.mpr ⟨mx_ok_aload_n (show decode b_xm_faultOfPacket 54 = .ok (.aload_n 0, 1) by decide +kernel) rfl, ?_⟩
  refine List.forall_mem_cons.mpr ⟨mx_ok_iload_n (show decode b_xm_faultOfPacket 55 = .ok (.iload_n 1, 1) by decide +kernel) rfl, ?_⟩
  refine List.forall_mem_cons.mpr ⟨mx_ok_invV vw_G (ct_xm_hasUnitTwice l np nd) ⟨vm_172, vm_173, vm_46, ⟨by decide +kernel, by decide +kernel, by decide +kernel⟩, ⟨by decide, by decide⟩, rfl, rfl⟩ vm_174 vm_175 rfl (show decode b_xm_faultOfPacket 56 = .ok (.invokevirtual 142, 3) by decide +kernel), ?_⟩
  refine List.forall_mem_cons.mpr ⟨mx_ok_if_eq (show decode b_xm_faultOfPacket 59 = .ok (.ifCond .eq 5, 3) by decide +kernel) (by decide), ?_⟩
  refine List.forall_mem_cons.mpr ⟨mx_ok_iconst (show decode b_xm_faultOfPacket 62 = .ok (.iconst 3, 1) by decide +kernel) (by decide), ?_⟩
  refine List.forall_mem_cons.mpr ⟨mx_ok_iret (show decode b_xm_faultOfPacket 63 = .ok (.ireturn, 1) by decide +kernel) rfl, ?_⟩
  refine List.forall_mem_cons.mpr ⟨mx_ok_aload_n (show decode b_xm_faultOfPacket 64 = .ok (.aload_n 0, 1) by decide +kernel) rfl, ?_⟩
  refine List.forall_mem_cons.mpr ⟨mx_ok_iload_n (show decode b_xm_faultOfPacket 65 = .ok (.iload_n 1, 1) by decide +kernel) rfl, ?_⟩
  refine List.forall_mem_cons.mpr ⟨mx_ok_invV vw_G (ct_xm_hasCrossedTwice l np nd) ⟨vm_176, vm_177, vm_46, ⟨by decide +kernel, by decide +kernel, by decide +kernel⟩, ⟨by decide, by decide⟩, rfl, rfl⟩ vm_178 vm_179 rfl (show decode b_xm_faultOfPacket 66 = .ok (.invokevirtual 145, 3) by decide +kernel), ?_⟩
  refine List.forall_mem_cons.mpr ⟨mx_ok_if_eq (show decode b_xm_faultOfPacket 69 = .ok (.ifCond .eq 5, 3) by decide +kernel) (by decide), ?_⟩
  refine List.forall_mem_cons.mpr ⟨mx_ok_iconst (show decode b_xm_faultOfPacket 72 = .ok (.iconst 4, 1) by decide +kernel) (by decide), ?_⟩
  refine List.forall_mem_cons.mpr ⟨mx_ok_iret (show decode b_xm_faultOfPacket 73 = .ok (.ireturn, 1) by decide +kernel) rfl, ?_⟩
  refine List.forall_mem_cons.mpr ⟨mx_ok_aload_n (show decode b_xm_faultOfPacket 74 = .ok (.aload_n 0, 1) by decide +kernel) rfl, ?_⟩
  refine List.forall_mem_cons.mpr ⟨mx_ok_iload_n (show decode b_xm_faultOfPacket 75 = .ok (.iload_n 1, 1) by decide +kernel) rfl, ?_⟩
  refine List.forall_mem_cons.mpr ⟨mx_ok_invV vw_G (ct_xm_goesBeyondData l np nd) ⟨vm_180, vm_181, vm_46, ⟨by decide +kernel, by decide +kernel, by decide +kernel⟩, ⟨by decide, by decide⟩, rfl, rfl⟩ vm_182 vm_183 rfl (show decode b_xm_faultOfPacket 76 = .ok (.invokevirtual 148, 3) by decide +kernel), ?_⟩
  refine List.forall_mem_cons.mpr ⟨mx_ok_if_eq (show decode b_xm_faultOfPacket 79 = .ok (.ifCond .eq 8, 3) by decide +kernel) (by decide), ?_⟩
  refine List.forall_mem_cons.mpr ⟨mx_ok_bipush (show decode b_xm_faultOfPacket 82 = .ok (.bipush 7, 2) by decide +kernel) (by decide), ?_⟩
  refine List.forall_mem_cons.mpr ⟨mx_ok_goto (show decode b_xm_faultOfPacket 84 = .ok (.goto 4, 3) by decide +kernel) (by decide), ?_⟩
  refine List.forall_mem_cons.mpr ⟨mx_ok_iconst (show decode b_xm_faultOfPacket 87 = .ok (.iconst 0, 1) by decide +kernel) (by decide), ?_⟩
  refine List.forall_mem_cons.mpr ⟨mx_ok_iret (show decode b_xm_faultOfPacket 88 = .ok (.ireturn, 1) by decide +kernel) rfl, ?_⟩
  exact fun _ h => absurd h List.not_mem_nil
set_option maxRecDepth 100000 in
set_option maxHeartbeats 4000000 in
theorem ct_xm_faultOfPacket (l : Launch) (np nd : Nat) : mx_Ct l vw_T vw_cl (kx np nd) { frames := 4, cells := 0, slots := 0, locals := 87 } y_xm_faultOfPacket b_xm_faultOfPacket 3 (some .int) (pre_xm_faultOfPacket np nd) (fn_xm_faultOfPacket np nd) := by
  refine mx_ct_of (tb_xm_faultOfPacket np nd ) (by decide) (ok_xm_faultOfPacket l np nd ) (fun as u h => by obtain ⟨_, rfl, -⟩ := h; exact Nat.le_of_ble_eq_true rfl) ?_
  intro as u hpre At hc hw
  obtain ⟨a1, rfl, hp⟩ := hpre
  exact hc 200 [] _ _ _ _ (
    And.intro (fun h2 => 
     And.intro rfl (
     And.intro ⟨_, rfl, (hp.1 h2).1⟩ (
     And.intro (fun h49 => 
      And.intro rfl (
      And.intro ⟨_, rfl, ((hp.1 h2).2.1 h49).1⟩ (
      And.intro (fun h59 => 
       And.intro rfl (
       And.intro ⟨_, rfl, (((hp.1 h2).2.1 h49).2.1 h59).1⟩ (
       And.intro (fun h69 => 
        And.intro rfl (
        And.intro ⟨_, rfl, ((((hp.1 h2).2.1 h49).2.1 h59).2.1 h69)⟩ (
        And.intro (fun h79 => 
         congrArg (mx_rI u) (show 0 = (xm_faultOfPacket np nd a1 u) from ((if_neg h2).trans ((if_pos h49).trans ((if_pos h59).trans ((if_pos h69).trans (if_pos h79))))).symm)) (fun h79 => 
         congrArg (mx_rI u) (show 7 = (xm_faultOfPacket np nd a1 u) from ((if_neg h2).trans ((if_pos h49).trans ((if_pos h59).trans ((if_pos h69).trans (if_neg h79))))).symm))))) (fun h69 => 
        congrArg (mx_rI u) (show 4 = (xm_faultOfPacket np nd a1 u) from ((if_neg h2).trans ((if_pos h49).trans ((if_pos h59).trans (if_neg h69)))).symm))))) (fun h59 => 
       congrArg (mx_rI u) (show 3 = (xm_faultOfPacket np nd a1 u) from ((if_neg h2).trans ((if_pos h49).trans (if_neg h59))).symm))))) (fun h49 => 
      congrArg (mx_rI u) (show 2 = (xm_faultOfPacket np nd a1 u) from ((if_neg h2).trans (if_neg h49)).symm))))) (fun h2 => 
     And.intro (fun h9 => 
      And.intro (fun h34 => 
       congrArg (mx_rI u) (show 8 = (xm_faultOfPacket np nd a1 u) from ((if_pos h2).trans (if_pos h9)).symm)) (fun h34 => absurd h34 (by decide))) (fun h9 => 
      And.intro (fun h24 => 
       And.intro (fun h34 => 
        congrArg (mx_rI u) (show 8 = (xm_faultOfPacket np nd a1 u) from ((if_pos h2).trans ((if_neg h9).trans (if_pos h24))).symm)) (fun h34 => absurd h34 (by decide))) (fun h24 => 
       And.intro (fun h34 => absurd h34 (by decide)) (fun h34 => 
        congrArg (mx_rI u) (show 1 = (xm_faultOfPacket np nd a1 u) from ((if_pos h2).trans ((if_neg h9).trans (if_neg h24))).symm))))))
/-! WideMachine.valueOf(I)I -/
def xm_valueOf (np nd : Nat) (a1 : Int32) (u : mx_S) : Int32 :=
  if (xw_code a1 ) = 21 then
   (xw_number a1 )
  else
  if (xw_code a1 ) = 22 then
   (((xw_number a1 ) * (65536 : Int32)) ||| ((mx_ga u 3 ((xw_d a1 )).toNatClampNeg) &&& (65535 : Int32)))
  else
  if (xw_code a1 ) = 50 then
   (xm_peek np nd ((mx_ga u 3 ((xw_a a1 )).toNatClampNeg) + (xm_operandB a1 u)) u)
  else
  if (xw_kind a1 ) = 0 then
   (xv_ofL (xw_code a1 ) (mx_ga u 3 ((xw_a a1 )).toNatClampNeg) (xm_operandB a1 u) )
  else
  if (xw_kind a1 ) = 1 then
   (xv_ofS (xw_code a1 ) (mx_ga u 3 ((xw_a a1 )).toNatClampNeg) (xm_operandB a1 u) )
  else
  if (xw_kind a1 ) = 2 then
   (xv_ofM (xw_code a1 ) (mx_ga u 3 ((xw_a a1 )).toNatClampNeg) (xm_operandB a1 u) )
  else
  (xv_ofD (xw_code a1 ) (mx_ga u 3 ((xw_a a1 )).toNatClampNeg) (xm_operandB a1 u) )
def q_xm_valueOf (np nd : Nat) (a1 : Int32) (u : mx_S) : Prop :=
  (((xw_code a1 ) = 21) → 
   True) ∧ (¬ ((xw_code a1 ) = 21) → 
  (((xw_code a1 ) = 22) → 
   True) ∧ (¬ ((xw_code a1 ) = 22) → 
  (((xw_code a1 ) = 50) → 
   ((q_xm_peek np nd ((mx_ga u 3 ((xw_a a1 )).toNatClampNeg) + (xm_operandB a1 u)) u))) ∧ (¬ ((xw_code a1 ) = 50) → 
   (((xw_kind a1 ) = 0) → 
    ((q_xv_ofL np nd (xw_code a1 ) (mx_ga u 3 ((xw_a a1 )).toNatClampNeg) (xm_operandB a1 u) u))) ∧ (¬ ((xw_kind a1 ) = 0) → 
   (((xw_kind a1 ) = 1) → 
    True) ∧ (¬ ((xw_kind a1 ) = 1) → 
   (((xw_kind a1 ) = 2) → 
    True) ∧ (¬ ((xw_kind a1 ) = 2) → 
    True))))))
def pre_xm_valueOf (np nd : Nat) : List mx_V → mx_S → Prop := fun as u => ∃ (a1 : Int32), as = [.inr (.inr 0), .inl a1] ∧ q_xm_valueOf np nd a1 u
def fn_xm_valueOf (np nd : Nat) : mx_F := fun as u => match as with
  | [_, .inl a1] => mx_rI u (xm_valueOf np nd a1 u)
  | _ => (none, u)
def tb_xm_valueOf (np nd : Nat) : List (Nat × mx_T) := [
  (0, mx_iload_n 1 0),
  (1, mx_invS 1 (pre_xw_code np nd) (fn_xw_code np nd) 1),
  (4, mx_istore_n 2 4),
  (5, mx_aload_n 0 5),
  (6, mx_getf (kx np nd) 0 2 6),
  (9, mx_iload_n 1 9),
  (10, mx_invS 1 (pre_xw_a np nd) (fn_xw_a np nd) 10),
  (13, mx_iald (kx np nd) 13),
  (14, mx_istore_n 3 14),
  (15, mx_aload_n 0 15),
  (16, mx_iload_n 1 16),
  (17, mx_invV (kx np nd) 0 1 (pre_xm_operandB np nd) (fn_xm_operandB np nd) 17),
  (20, mx_istore 4 20),
  (22, mx_iload_n 2 22),
  (23, mx_lsw0 91 [(21, 56), (22, 61), (50, 82)] 23),
  (56, mx_iload_n 1 56),
  (57, mx_invS 1 (pre_xw_number np nd) (fn_xw_number np nd) 57),
  (60, mx_iret 60),
  (61, mx_iload_n 1 61),
  (62, mx_invS 1 (pre_xw_number np nd) (fn_xw_number np nd) 62),
  (65, mx_ldc 65536 65),
  (67, mx_imul 67),
  (68, mx_aload_n 0 68),
  (69, mx_getf (kx np nd) 0 2 69),
  (72, mx_iload_n 1 72),
  (73, mx_invS 1 (pre_xw_d np nd) (fn_xw_d np nd) 73),
  (76, mx_iald (kx np nd) 76),
  (77, mx_ldc 65535 77),
  (79, mx_iand 79),
  (80, mx_ior 80),
  (81, mx_iret 81),
  (82, mx_aload_n 0 82),
  (83, mx_iload_n 3 83),
  (84, mx_iload 4 84),
  (86, mx_iadd 86),
  (87, mx_invV (kx np nd) 0 1 (pre_xm_peek np nd) (fn_xm_peek np nd) 87),
  (90, mx_iret 90),
  (91, mx_iload_n 1 91),
  (92, mx_invS 1 (pre_xw_kind np nd) (fn_xw_kind np nd) 92),
  (95, mx_tsw 144 [(0, 120), (1, 128), (2, 136)] 95),
  (120, mx_iload_n 2 120),
  (121, mx_iload_n 3 121),
  (122, mx_iload 4 122),
  (124, mx_invS 3 (pre_xv_ofL np nd) (fn_xv_ofL np nd) 124),
  (127, mx_iret 127),
  (128, mx_iload_n 2 128),
  (129, mx_iload_n 3 129),
  (130, mx_iload 4 130),
  (132, mx_invS 3 (pre_xv_ofS np nd) (fn_xv_ofS np nd) 132),
  (135, mx_iret 135),
  (136, mx_iload_n 2 136),
  (137, mx_iload_n 3 137),
  (138, mx_iload 4 138),
  (140, mx_invS 3 (pre_xv_ofM np nd) (fn_xv_ofM np nd) 140),
  (143, mx_iret 143),
  (144, mx_iload_n 2 144),
  (145, mx_iload_n 3 145),
  (146, mx_iload 4 146),
  (148, mx_invS 3 (pre_xv_ofD np nd) (fn_xv_ofD np nd) 148),
  (151, mx_iret 151)]
set_option maxRecDepth 100000 in
set_option maxHeartbeats 4000000 in
theorem ok_xm_valueOf (l : Launch) (np nd : Nat) : ∀ q ∈ tb_xm_valueOf np nd , mx_Ok l ({ frames := 2, cells := 0, slots := 0, locals := 45 } : Room) b_xm_valueOf 5 "WideMachine" (some .int) vw_T vw_cl (kx np nd) q.1 q.2 := by
  refine List.forall_mem_cons.mpr ⟨mx_ok_iload_n (show decode b_xm_valueOf 0 = .ok (.iload_n 1, 1) by decide +kernel) rfl, ?_⟩
  refine List.forall_mem_cons.mpr ⟨mx_ok_invS vw_G (ct_xw_code l np nd) ⟨vm_159, vm_100, vm_97, ⟨by decide +kernel, by decide +kernel, by decide +kernel⟩, ⟨by decide, by decide⟩, rfl, rfl⟩ vm_101 (show decode b_xm_valueOf 1 = .ok (.invokestatic 163, 3) by decide +kernel), ?_⟩
  refine List.forall_mem_cons.mpr ⟨mx_ok_istore_n (show decode b_xm_valueOf 4 = .ok (.istore_n 2, 1) by decide +kernel) rfl (by decide), ?_⟩
  refine List.forall_mem_cons.mpr ⟨mx_ok_aload_n (show decode b_xm_valueOf 5 = .ok (.aload_n 0, 1) by decide +kernel) rfl, ?_⟩
  refine List.forall_mem_cons.mpr ⟨mx_ok_getf fd_xm_20 (show decode b_xm_valueOf 6 = .ok (.getfield 20, 3) by decide +kernel), ?_⟩
  refine List.forall_mem_cons.mpr ⟨mx_ok_iload_n (show decode b_xm_valueOf 9 = .ok (.iload_n 1, 1) by decide +kernel) rfl, ?_⟩
  refine List.forall_mem_cons.mpr ⟨mx_ok_invS vw_G (ct_xw_a l np nd) ⟨vm_154, vm_124, vm_97, ⟨by decide +kernel, by decide +kernel, by decide +kernel⟩, ⟨by decide, by decide⟩, rfl, rfl⟩ vm_125 (show decode b_xm_valueOf 10 = .ok (.invokestatic 178, 3) by decide +kernel), ?_⟩
  refine List.forall_mem_cons.mpr ⟨mx_ok_iald (show decode b_xm_valueOf 13 = .ok (.iaload, 1) by decide +kernel), ?_⟩
  refine List.forall_mem_cons.mpr ⟨mx_ok_istore_n (show decode b_xm_valueOf 14 = .ok (.istore_n 3, 1) by decide +kernel) rfl (by decide), ?_⟩
  refine List.forall_mem_cons.mpr ⟨mx_ok_aload_n (show decode b_xm_valueOf 15 = .ok (.aload_n 0, 1) by decide +kernel) rfl, ?_⟩
  refine List.forall_mem_cons.mpr ⟨mx_ok_iload_n (show decode b_xm_valueOf 16 = .ok (.iload_n 1, 1) by decide +kernel) rfl, ?_⟩
  refine List.forall_mem_cons.mpr ⟨mx_ok_invV vw_G (ct_xm_operandB l np nd) ⟨vm_155, vm_156, vm_46, ⟨by decide +kernel, by decide +kernel, by decide +kernel⟩, ⟨by decide, by decide⟩, rfl, rfl⟩ vm_157 vm_158 rfl (show decode b_xm_valueOf 17 = .ok (.invokevirtual 181, 3) by decide +kernel), ?_⟩
  refine List.forall_mem_cons.mpr ⟨mx_ok_istore (show decode b_xm_valueOf 20 = .ok (.istore 4, 2) by decide +kernel) (by decide), ?_⟩
  refine List.forall_mem_cons.mpr ⟨mx_ok_iload_n (show decode b_xm_valueOf 22 = .ok (.iload_n 2, 1) by decide +kernel) rfl, ?_⟩
  refine List.forall_mem_cons.mpr ⟨mx_ok_lsw0 (show decode b_xm_valueOf 23 = .ok (.lookupswitch 68 #[(21, 33), (22, 38), (50, 59)], 33) by decide +kernel) (by decide) (by decide) (by decide), ?_⟩
  refine List.forall_mem_cons.mpr ⟨mx_ok_iload_n (show decode b_xm_valueOf 56 = .ok (.iload_n 1, 1) by decide +kernel) rfl, ?_⟩
  refine List.forall_mem_cons.mpr ⟨mx_ok_invS vw_G (ct_xw_number l np nd) ⟨vm_197, vm_198, vm_97, ⟨by decide +kernel, by decide +kernel, by decide +kernel⟩, ⟨by decide, by decide⟩, rfl, rfl⟩ vm_199 (show decode b_xm_valueOf 57 = .ok (.invokestatic 217, 3) by decide +kernel), ?_⟩
  refine List.forall_mem_cons.mpr ⟨mx_ok_iret (show decode b_xm_valueOf 60 = .ok (.ireturn, 1) by decide +kernel) rfl, ?_⟩
  refine List.forall_mem_cons.mpr ⟨mx_ok_iload_n (show decode b_xm_valueOf 61 = .ok (.iload_n 1, 1) by decide +kernel) rfl, ?_⟩
  refine List.forall_mem_cons.mpr ⟨mx_ok_invS vw_G (ct_xw_number l np nd) ⟨vm_197, vm_198, vm_97, ⟨by decide +kernel, by decide +kernel, by decide +kernel⟩, ⟨by decide, by decide⟩, rfl, rfl⟩ vm_199 (show decode b_xm_valueOf 62 = .ok (.invokestatic 217, 3) by decide +kernel), ?_⟩
  refine List.forall_mem_cons.mpr ⟨mx_ok_ldc (show decode b_xm_valueOf 65 = .ok (.ldc 220, 2) by decide +kernel) vm_200, ?_⟩
  refine List.forall_mem_cons.mpr ⟨mx_ok_imul (show decode b_xm_valueOf 67 = .ok (.imul, 1) by decide +kernel), ?_⟩
  refine List.forall_mem_cons.mpr ⟨mx_ok_aload_n (show decode b_xm_valueOf 68 = .ok (.aload_n 0, 1) by decide +kernel) rfl, ?_⟩
  refine List.forall_mem_cons.mpr ⟨mx_ok_getf fd_xm_20 (show decode b_xm_valueOf 69 = .ok (.getfield 20, 3) by decide +kernel), ?_⟩
  refine List.forall_mem_cons.mpr ⟨mx_ok_iload_n (show decode b_xm_valueOf 72 = .ok (.iload_n 1, 1) by decide +kernel) rfl, ?_⟩
  refine List.forall_mem_cons.mpr ⟨mx_ok_invS vw_G (ct_xw_d l np nd) ⟨vm_201, vm_115, vm_97, ⟨by decide +kernel, by decide +kernel, by decide +kernel⟩, ⟨by decide, by decide⟩, rfl, rfl⟩ vm_116 (show decode b_xm_valueOf 73 = .ok (.invokestatic 205, 3) by decide +kernel), ?_⟩
  refine List.forall_mem_cons.mpr ⟨mx_ok_iald (show decode b_xm_valueOf 76 = .ok (.iaload, 1) by decide +kernel), ?_⟩
  refine List.forall_mem_cons.mpr ⟨mx_ok_ldc (show decode b_xm_valueOf 77 = .ok (.ldc 221, 2) by decide +kernel) vm_202, ?_⟩
  refine List.forall_mem_cons.mpr ⟨mx_ok_iand (show decode b_xm_valueOf 79 = .ok (.iand, 1) by decide +kernel), ?_⟩
  refine List.forall_mem_cons.mpr ⟨mx_ok_ior (show decode b_xm_valueOf 80 = .ok (.ior, 1) by decide +kernel), ?_⟩
  refine List.forall_mem_cons.mpr ⟨mx_ok_iret (show decode b_xm_valueOf 81 = .ok (.ireturn, 1) by decide +kernel) rfl, ?_⟩
  refine List.forall_mem_cons.mpr ⟨mx_ok_aload_n (show decode b_xm_valueOf 82 = .ok (.aload_n 0, 1) by decide +kernel) rfl, ?_⟩
  refine List.forall_mem_cons.mpr ⟨mx_ok_iload_n (show decode b_xm_valueOf 83 = .ok (.iload_n 3, 1) by decide +kernel) rfl, ?_⟩
  refine List.forall_mem_cons.mpr ⟨mx_ok_iload (show decode b_xm_valueOf 84 = .ok (.iload 4, 2) by decide +kernel), ?_⟩
  refine List.forall_mem_cons.mpr ⟨mx_ok_iadd (show decode b_xm_valueOf 86 = .ok (.iadd, 1) by decide +kernel), ?_⟩
  refine List.forall_mem_cons.mpr ⟨mx_ok_invV vw_G (ct_xm_peek l np nd) ⟨vm_203, vm_204, vm_46, ⟨by decide +kernel, by decide +kernel, by decide +kernel⟩, ⟨by decide, by decide⟩, rfl, rfl⟩ vm_205 vm_206 rfl (show decode b_xm_valueOf 87 = .ok (.invokevirtual 222, 3) by decide +kernel), ?_⟩
  refine List.forall_mem_cons.mpr ⟨mx_ok_iret (show decode b_xm_valueOf 90 = .ok (.ireturn, 1) by decide +kernel) rfl, ?_⟩
  refine List.forall_mem_cons.mpr ⟨mx_ok_iload_n (show decode b_xm_valueOf 91 = .ok (.iload_n 1, 1) by decide +kernel) rfl, ?_⟩
  refine List.forall_mem_cons.mpr ⟨mx_ok_invS vw_G (ct_xw_kind l np nd) ⟨vm_207, vm_208, vm_97, ⟨by decide +kernel, by decide +kernel, by decide +kernel⟩, ⟨by decide, by decide⟩, rfl, rfl⟩ vm_209 (show decode b_xm_valueOf 92 = .ok (.invokestatic 225, 3) by decide +kernel), ?_⟩
  refine List.forall_mem_cons.mpr ⟨mx_ok_tsw (show decode b_xm_valueOf 95 = .ok (.tableswitch 49 0 2 #[25, 33, 41], 25) by decide +kernel) (by decide) (by decide), ?_⟩
  refine List.forall_mem_cons.mpr ⟨mx_ok_iload_n (show decode b_xm_valueOf 120 = .ok (.iload_n 2, 1) by decide +kernel) rfl, ?_⟩
  refine List.forall_mem_cons.mpr ⟨mx_ok_iload_n (show decode b_xm_valueOf 121 = .ok (.iload_n 3, 1) by decide +kernel) rfl, ?_⟩
  refine List.forall_mem_cons.mpr ⟨mx_ok_iload (show decode b_xm_valueOf 122 = .ok (.iload 4, 2) by decide +kernel), ?_⟩
  refine List.forall_mem_cons.mpr ⟨mx_ok_invS vw_G (ct_xv_ofL l np nd) ⟨vm_210, vm_211, vm_190, ⟨by decide +kernel, by decide +kernel, by decide +kernel⟩, ⟨by decide, by decide⟩, rfl, rfl⟩ vm_212 (show decode b_xm_valueOf 124 = .ok (.invokestatic 228, 3) by decide +kernel), ?_⟩
  refine List.forall_mem_cons.mpr ⟨mx_ok_iret (show decode b_xm_valueOf 127 = .ok (.ireturn, 1) by decide +kernel) rfl, ?_⟩
  refine List.forall_mem_cons.mpr ⟨mx_ok_iload_n (show decode b_xm_valueOf 128 = .ok (.iload_n 2, 1) by decide +kernel) rfl, ?_⟩
  refine List.forall_mem_cons.mpr ⟨mx_ok_iload_n (show decode b_xm_valueOf 129 = .ok (.iload_n 3, 1) by decide +kernel) rfl, ?_⟩
  refine List.forall_mem_cons.mpr ⟨mx_ok_iload (show decode b_xm_valueOf 130 = .ok (.iload 4, 2) by decide +kernel), ?_⟩
  refine List.forall_mem_cons.mpr ⟨mx_ok_invS vw_G (ct_xv_ofS l np nd) ⟨vm_213, vm_214, vm_190, ⟨by decide +kernel, by decide +kernel, by decide +kernel⟩, ⟨by decide, by decide⟩, rfl, rfl⟩ vm_215 (show decode b_xm_valueOf 132 = .ok (.invokestatic 234, 3) by decide +kernel), ?_⟩
  refine List.forall_mem_cons.mpr ⟨mx_ok_iret (show decode b_xm_valueOf 135 = .ok (.ireturn, 1) by decide +kernel) rfl, ?_⟩
  refine List.forall_mem_cons.mpr ⟨mx_ok_iload_n (show decode b_xm_valueOf 136 = .ok (.iload_n 2, 1) by decide +kernel) rfl, ?_⟩
  refine List.forall_mem_cons.mpr ⟨mx_ok_iload_n (show decode b_xm_valueOf 137 = .ok (.iload_n 3, 1) by decide +kernel) rfl, ?_⟩
  refine List.forall_mem_cons.mpr ⟨mx_ok_iload (show decode b_xm_valueOf 138 = .ok (.iload 4, 2) by decide +kernel), ?_⟩
  refine List.forall_mem_cons.mpr ⟨mx_ok_invS vw_G (ct_xv_ofM l np nd) ⟨vm_216, vm_217, vm_190, ⟨by decide +kernel, by decide +kernel, by decide +kernel⟩, ⟨by decide, by decide⟩, rfl, rfl⟩ vm_218 (show decode b_xm_valueOf 140 = .ok (.invokestatic 237, 3) by decide +kernel), ?_⟩
  refine List.forall_mem_cons.mpr ⟨mx_ok_iret (show decode b_xm_valueOf 143 = .ok (.ireturn, 1) by decide +kernel) rfl, ?_⟩
  refine List.forall_mem_cons.mpr ⟨mx_ok_iload_n (show decode b_xm_valueOf 144 = .ok (.iload_n 2, 1) by decide +kernel) rfl, ?_⟩
  refine List.forall_mem_cons.mpr ⟨mx_ok_iload_n (show decode b_xm_valueOf 145 = .ok (.iload_n 3, 1) by decide +kernel) rfl, ?_⟩
  refine List.forall_mem_cons.mpr ⟨mx_ok_iload (show decode b_xm_valueOf 146 = .ok (.iload 4, 2) by decide +kernel), ?_⟩
  refine List.forall_mem_cons.mpr ⟨mx_ok_invS vw_G (ct_xv_ofD l np nd) ⟨vm_219, vm_220, vm_190, ⟨by decide +kernel, by decide +kernel, by decide +kernel⟩, ⟨by decide, by decide⟩, rfl, rfl⟩ vm_221 (show decode b_xm_valueOf 148 = .ok (.invokestatic 240, 3) by decide +kernel), ?_⟩
  refine List.forall_mem_cons.mpr ⟨mx_ok_iret (show decode b_xm_valueOf 151 = .ok (.ireturn, 1) by decide +kernel) rfl, ?_⟩
  exact fun _ h => absurd h List.not_mem_nil
set_option maxRecDepth 100000 in
set_option maxHeartbeats 4000000 in
theorem ct_xm_valueOf (l : Launch) (np nd : Nat) : mx_Ct l vw_T vw_cl (kx np nd) { frames := 2, cells := 0, slots := 0, locals := 45 } y_xm_valueOf b_xm_valueOf 5 (some .int) (pre_xm_valueOf np nd) (fn_xm_valueOf np nd) := by
  refine mx_ct_of (tb_xm_valueOf np nd ) (by decide) (ok_xm_valueOf l np nd ) (fun as u h => by obtain ⟨_, rfl, -⟩ := h; exact Nat.le_of_ble_eq_true rfl) ?_
  intro as u hpre At hc hw
  obtain ⟨a1, rfl, hp⟩ := hpre
  exact hc 200 [] _ _ _ _ (
    And.intro rfl (
    And.intro ⟨_, rfl, trivial⟩ (
    And.intro rfl (
    And.intro ⟨_, rfl, trivial⟩ (
    And.intro (xw_a_in _) (
    And.intro rfl (
    And.intro ⟨_, rfl, trivial⟩ (
    And.intro (fun h23_0 => 
     And.intro rfl (
     And.intro ⟨_, rfl, trivial⟩ (
     congrArg (mx_rI u) (show (xw_number a1 ) = (xm_valueOf np nd a1 u) from (if_pos h23_0).symm)))) (fun h23_0 => 
    And.intro (fun h23_1 => 
     And.intro rfl (
     And.intro ⟨_, rfl, trivial⟩ (
     And.intro rfl (
     And.intro ⟨_, rfl, trivial⟩ (
     And.intro (xw_d_in _) (
     congrArg (mx_rI u) (show (((xw_number a1 ) * (65536 : Int32)) ||| ((mx_ga u 3 ((xw_d a1 )).toNatClampNeg) &&& (65535 : Int32))) = (xm_valueOf np nd a1 u) from ((if_neg h23_0).trans (if_pos h23_1)).symm))))))) (fun h23_1 => 
    And.intro (fun h23_2 => 
     And.intro rfl (
     And.intro ⟨_, rfl, (((hp.2 h23_0).2 h23_1).1 h23_2)⟩ (
     congrArg (mx_rI u) (show (xm_peek np nd ((mx_ga u 3 ((xw_a a1 )).toNatClampNeg) + (xm_operandB a1 u)) u) = (xm_valueOf np nd a1 u) from ((if_neg h23_0).trans ((if_neg h23_1).trans (if_pos h23_2))).symm)))) (fun h23_2 => 
     And.intro rfl (
     And.intro ⟨_, rfl, trivial⟩ (
     And.intro (fun h95_0 => 
      And.intro rfl (
      And.intro ⟨_, _, _, rfl, ((((hp.2 h23_0).2 h23_1).2 h23_2).1 h95_0)⟩ (
      congrArg (mx_rI u) (show (xv_ofL (xw_code a1 ) (mx_ga u 3 ((xw_a a1 )).toNatClampNeg) (xm_operandB a1 u) ) = (xm_valueOf np nd a1 u) from ((if_neg h23_0).trans ((if_neg h23_1).trans ((if_neg h23_2).trans (if_pos h95_0)))).symm)))) (fun h95_0 => 
     And.intro (fun h95_1 => 
      And.intro rfl (
      And.intro ⟨_, _, _, rfl, trivial⟩ (
      congrArg (mx_rI u) (show (xv_ofS (xw_code a1 ) (mx_ga u 3 ((xw_a a1 )).toNatClampNeg) (xm_operandB a1 u) ) = (xm_valueOf np nd a1 u) from ((if_neg h23_0).trans ((if_neg h23_1).trans ((if_neg h23_2).trans ((if_neg h95_0).trans (if_pos h95_1))))).symm)))) (fun h95_1 => 
     And.intro (fun h95_2 => 
      And.intro rfl (
      And.intro ⟨_, _, _, rfl, trivial⟩ (
      congrArg (mx_rI u) (show (xv_ofM (xw_code a1 ) (mx_ga u 3 ((xw_a a1 )).toNatClampNeg) (xm_operandB a1 u) ) = (xm_valueOf np nd a1 u) from ((if_neg h23_0).trans ((if_neg h23_1).trans ((if_neg h23_2).trans ((if_neg h95_0).trans ((if_neg h95_1).trans (if_pos h95_2)))))).symm)))) (fun h95_2 => 
      And.intro rfl (
      And.intro ⟨_, _, _, rfl, trivial⟩ (
      congrArg (mx_rI u) (show (xv_ofD (xw_code a1 ) (mx_ga u 3 ((xw_a a1 )).toNatClampNeg) (xm_operandB a1 u) ) = (xm_valueOf np nd a1 u) from ((if_neg h23_0).trans ((if_neg h23_1).trans ((if_neg h23_2).trans ((if_neg h95_0).trans ((if_neg h95_1).trans (if_neg h95_2)))))).symm)))))))))))))))))))
/-! WideMachine.doWord(I)V -/
def xm_doWord (np nd : Nat) (a1 : Int32) (u : mx_S) : mx_S :=
  if (xw_code a1 ) = 23 then
   (xb_add (xw_target a1 ) u)
  else
  if (xw_code a1 ) = 24 then
   (xb_add (xm_operandB a1 u) u)
  else
  if (xw_code a1 ) = 25 then
   (mx_sf (xb_add (mx_gf u 0 9) u) 0 11 1)
  else
  if (xw_code a1 ) = 26 then
   (mx_sf u 0 8 (if (mx_gf u 0 8) < ((xm_operandB a1 u) &&& (15 : Int32)) then ((xm_operandB a1 u) &&& (15 : Int32)) else (mx_gf u 0 8)))
  else
  if (xw_code a1 ) = 27 then
   (mx_sf u 0 5 9)
  else
  if (xw_code a1 ) = 51 then
   u
  else
  (xq_add (xw_d a1 ) (xm_valueOf np nd a1 u) (xw_timeOfWrite a1 ) u)
def q_xm_doWord (np nd : Nat) (a1 : Int32) (u : mx_S) : Prop :=
  (((xw_code a1 ) = 23) → 
   ((q_xb_add np nd (xw_target a1 ) u))) ∧ (¬ ((xw_code a1 ) = 23) → 
  (((xw_code a1 ) = 24) → 
   ((q_xb_add np nd (xm_operandB a1 u) u))) ∧ (¬ ((xw_code a1 ) = 24) → 
  (((xw_code a1 ) = 25) → 
   ((q_xb_add np nd (mx_gf u 0 9) u))) ∧ (¬ ((xw_code a1 ) = 25) → 
  (((xw_code a1 ) = 26) → 
   True) ∧ (¬ ((xw_code a1 ) = 26) → 
  (((xw_code a1 ) = 27) → 
   True) ∧ (¬ ((xw_code a1 ) = 27) → 
  (((xw_code a1 ) = 51) → 
   True) ∧ (¬ ((xw_code a1 ) = 51) → 
   ((q_xm_valueOf np nd a1 u)) ∧ (
    ((q_xq_add np nd (xw_d a1 ) (xm_valueOf np nd a1 u) (xw_timeOfWrite a1 ) u)))))))))
def pre_xm_doWord (np nd : Nat) : List mx_V → mx_S → Prop := fun as u => ∃ (a1 : Int32), as = [.inr (.inr 0), .inl a1] ∧ q_xm_doWord np nd a1 u
def fn_xm_doWord (np nd : Nat) : mx_F := fun as u => match as with
  | [_, .inl a1] => (none, (xm_doWord np nd a1 u))
  | _ => (none, u)
def tb_xm_doWord (np nd : Nat) : List (Nat × mx_T) := [
  (0, mx_iload_n 1 0),
  (1, mx_invS 1 (pre_xw_code np nd) (fn_xw_code np nd) 1),
  (4, mx_lsw0 146 [(23, 64), (24, 78), (25, 93), (26, 112), (27, 134), (51, 143)] 4),
  (64, mx_aload_n 0 64),
  (65, mx_getf (kx np nd) 0 4 65),
  (68, mx_iload_n 1 68),
  (69, mx_invS 1 (pre_xw_target np nd) (fn_xw_target np nd) 69),
  (72, mx_invV (kx np nd) 2 1 (pre_xb_add np nd) (fn_xb_add np nd) 72),
  (75, mx_goto 166 75),
  (78, mx_aload_n 0 78),
  (79, mx_getf (kx np nd) 0 4 79),
  (82, mx_aload_n 0 82),
  (83, mx_iload_n 1 83),
  (84, mx_invV (kx np nd) 0 1 (pre_xm_operandB np nd) (fn_xm_operandB np nd) 84),
  (87, mx_invV (kx np nd) 2 1 (pre_xb_add np nd) (fn_xb_add np nd) 87),
  (90, mx_goto 166 90),
  (93, mx_aload_n 0 93),
  (94, mx_getf (kx np nd) 0 4 94),
  (97, mx_aload_n 0 97),
  (98, mx_getf (kx np nd) 0 9 98),
  (101, mx_invV (kx np nd) 2 1 (pre_xb_add np nd) (fn_xb_add np nd) 101),
  (104, mx_aload_n 0 104),
  (105, mx_iconst 1 105),
  (106, mx_putz (kx np nd) 0 11 106),
  (109, mx_goto 166 109),
  (112, mx_aload_n 0 112),
  (113, mx_aload_n 0 113),
  (114, mx_getf (kx np nd) 0 8 114),
  (117, mx_aload_n 0 117),
  (118, mx_iload_n 1 118),
  (119, mx_invV (kx np nd) 0 1 (pre_xm_operandB np nd) (fn_xm_operandB np nd) 119),
  (122, mx_bipush 15 122),
  (124, mx_iand 124),
  (125, mx_mmax 125),
  (128, mx_putf (kx np nd) 0 8 128),
  (131, mx_goto 166 131),
  (134, mx_aload_n 0 134),
  (135, mx_bipush 9 135),
  (137, mx_putf (kx np nd) 0 5 137),
  (140, mx_goto 166 140),
  (143, mx_goto 166 143),
  (146, mx_aload_n 0 146),
  (147, mx_getf (kx np nd) 0 3 147),
  (150, mx_iload_n 1 150),
  (151, mx_invS 1 (pre_xw_d np nd) (fn_xw_d np nd) 151),
  (154, mx_aload_n 0 154),
  (155, mx_iload_n 1 155),
  (156, mx_invV (kx np nd) 0 1 (pre_xm_valueOf np nd) (fn_xm_valueOf np nd) 156),
  (159, mx_iload_n 1 159),
  (160, mx_invS 1 (pre_xw_timeOfWrite np nd) (fn_xw_timeOfWrite np nd) 160),
  (163, mx_invV (kx np nd) 1 3 (pre_xq_add np nd) (fn_xq_add np nd) 163),
  (166, mx_vret 166)]
set_option maxRecDepth 100000 in
set_option maxHeartbeats 4000000 in
theorem ok_xm_doWord (l : Launch) (np nd : Nat) : ∀ q ∈ tb_xm_doWord np nd , mx_Ok l ({ frames := 3, cells := 0, slots := 0, locals := 69 } : Room) b_xm_doWord 2 "WideMachine" none vw_T vw_cl (kx np nd) q.1 q.2 := by
  refine List.forall_mem_cons.mpr ⟨mx_ok_iload_n (show decode b_xm_doWord 0 = .ok (.iload_n 1, 1) by decide +kernel) rfl, ?_⟩
  refine List.forall_mem_cons.mpr ⟨mx_ok_invS vw_G (ct_xw_code l np nd) ⟨vm_159, vm_100, vm_97, ⟨by decide +kernel, by decide +kernel, by decide +kernel⟩, ⟨by decide, by decide⟩, rfl, rfl⟩ vm_101 (show decode b_xm_doWord 1 = .ok (.invokestatic 163, 3) by decide +kernel), ?_⟩
  refine List.forall_mem_cons.mpr ⟨mx_ok_lsw0 (show decode b_xm_doWord 4 = .ok (.lookupswitch 142 #[(23, 60), (24, 74), (25, 89), (26, 108), (27, 130), (51, 139)], 60) by decide +kernel) (by decide) (by decide) (by decide), ?_⟩
  refine List.forall_mem_cons.mpr ⟨mx_ok_aload_n (show decode b_xm_doWord 64 = .ok (.aload_n 0, 1) by decide +kernel) rfl, ?_⟩
  refine List.forall_mem_cons.mpr ⟨mx_ok_getf fd_xm_33 (show decode b_xm_doWord 65 = .ok (.getfield 33, 3) by decide +kernel), ?_⟩
  refine List.forall_mem_cons.mpr ⟨mx_ok_iload_n (show decode b_xm_doWord 68 = .ok (.iload_n 1, 1) by decide +kernel) rfl, ?_⟩
  refine List.forall_mem_cons.mpr ⟨mx_ok_invS vw_G (ct_xw_target l np nd) ⟨vm_223, vm_224, vm_97, ⟨by decide +kernel, by decide +kernel, by decide +kernel⟩, ⟨by decide, by decide⟩, rfl, rfl⟩ vm_225 (show decode b_xm_doWord 69 = .ok (.invokestatic 199, 3) by decide +kernel), ?_⟩
  refine List.forall_mem_cons.mpr ⟨mx_ok_invV vw_G (ct_xb_add l np nd) ⟨vm_226, vm_227, vm_75, ⟨by decide +kernel, by decide +kernel, by decide +kernel⟩, ⟨by decide, by decide⟩, rfl, rfl⟩ vm_228 vm_229 rfl (show decode b_xm_doWord 72 = .ok (.invokevirtual 202, 3) by decide +kernel), ?_⟩
  refine List.forall_mem_cons.mpr ⟨mx_ok_goto (show decode b_xm_doWord 75 = .ok (.goto 91, 3) by decide +kernel) (by decide), ?_⟩
  refine List.forall_mem_cons.mpr ⟨mx_ok_aload_n (show decode b_xm_doWord 78 = .ok (.aload_n 0, 1) by decide +kernel) rfl, ?_⟩
  refine List.forall_mem_cons.mpr ⟨mx_ok_getf fd_xm_33 (show decode b_xm_doWord 79 = .ok (.getfield 33, 3) by decide +kernel), ?_⟩
  refine List.forall_mem_cons.mpr ⟨mx_ok_aload_n (show decode b_xm_doWord 82 = .ok (.aload_n 0, 1) by decide +kernel) rfl, ?_⟩
  refine List.forall_mem_cons.mpr ⟨mx_ok_iload_n (show decode b_xm_doWord 83 = .ok (.iload_n 1, 1) by decide +kernel) rfl, ?_⟩
  refine List.forall_mem_cons.mpr ⟨mx_ok_invV vw_G (ct_xm_operandB l np nd) ⟨vm_155, vm_156, vm_46, ⟨by decide +kernel, by decide +kernel, by decide +kernel⟩, ⟨by decide, by decide⟩, rfl, rfl⟩ vm_157 vm_158 rfl (show decode b_xm_doWord 84 = .ok (.invokevirtual 181, 3) by decide +kernel), ?_⟩
  refine List.forall_mem_cons.mpr ⟨mx_ok_invV vw_G (ct_xb_add l np nd) ⟨vm_226, vm_227, vm_75, ⟨by decide +kernel, by decide +kernel, by decide +kernel⟩, ⟨by decide, by decide⟩, rfl, rfl⟩ vm_228 vm_229 rfl (show decode b_xm_doWord 87 = .ok (.invokevirtual 202, 3) by decide +kernel), ?_⟩
  refine List.forall_mem_cons.mpr ⟨mx_ok_goto (show decode b_xm_doWord 90 = .ok (.goto 76, 3) by decide +kernel) (by decide), ?_⟩
  refine List.forall_mem_cons.mpr ⟨mx_ok_aload_n (show decode b_xm_doWord 93 = .ok (.aload_n 0, 1) by decide +kernel) rfl, ?_⟩
  refine List.forall_mem_cons.mpr ⟨mx_ok_getf fd_xm_33 (show decode b_xm_doWord 94 = .ok (.getfield 33, 3) by decide +kernel), ?_⟩
  refine List.forall_mem_cons.mpr ⟨mx_ok_aload_n (show decode b_xm_doWord 97 = .ok (.aload_n 0, 1) by decide +kernel) rfl, ?_⟩
  refine List.forall_mem_cons.mpr ⟨mx_ok_getf fd_xm_61 (show decode b_xm_doWord 98 = .ok (.getfield 61, 3) by decide +kernel), ?_⟩
  refine List.forall_mem_cons.mpr ⟨mx_ok_invV vw_G (ct_xb_add l np nd) ⟨vm_226, vm_227, vm_75, ⟨by decide +kernel, by decide +kernel, by decide +kernel⟩, ⟨by decide, by decide⟩, rfl, rfl⟩ vm_228 vm_229 rfl (show decode b_xm_doWord 101 = .ok (.invokevirtual 202, 3) by decide +kernel), ?_⟩
  refine List.forall_mem_cons.mpr ⟨mx_ok_aload_n (show decode b_xm_doWord 104 = .ok (.aload_n 0, 1) by decide +kernel) rfl, ?_⟩
  refine List.forall_mem_cons.mpr ⟨mx_ok_iconst (show decode b_xm_doWord 105 = .ok (.iconst 1, 1) by decide +kernel) (by decide), ?_⟩
  refine List.forall_mem_cons.mpr ⟨mx_ok_putz fd_xm_64 fw_0_11 (show decode b_xm_doWord 106 = .ok (.putfield 64, 3) by decide +kernel), ?_⟩
  refine List.forall_mem_cons.mpr ⟨mx_ok_goto (show decode b_xm_doWord 109 = .ok (.goto 57, 3) by decide +kernel) (by decide), ?_⟩
  refine List.forall_mem_cons.mpr ⟨mx_ok_aload_n (show decode b_xm_doWord 112 = .ok (.aload_n 0, 1) by decide +kernel) rfl, ?_⟩
  refine List.forall_mem_cons.mpr ⟨mx_ok_aload_n (show decode b_xm_doWord 113 = .ok (.aload_n 0, 1) by decide +kernel) rfl, ?_⟩
  refine List.forall_mem_cons.mpr ⟨mx_ok_getf fd_xm_58 (show decode b_xm_doWord 114 = .ok (.getfield 58, 3) by decide +kernel), ?_⟩
  refine List.forall_mem_cons.mpr ⟨mx_ok_aload_n (show decode b_xm_doWord 117 = .ok (.aload_n 0, 1) by decide +kernel) rfl, ?_⟩
  refine List.forall_mem_cons.mpr ⟨mx_ok_iload_n (show decode b_xm_doWord 118 = .ok (.iload_n 1, 1) by decide +kernel) rfl, ?_⟩
  refine List.forall_mem_cons.mpr ⟨mx_ok_invV vw_G (ct_xm_operandB l np nd) ⟨vm_155, vm_156, vm_46, ⟨by decide +kernel, by decide +kernel, by decide +kernel⟩, ⟨by decide, by decide⟩, rfl, rfl⟩ vm_157 vm_158 rfl (show decode b_xm_doWord 119 = .ok (.invokevirtual 181, 3) by decide +kernel), ?_⟩
  refine List.forall_mem_cons.mpr ⟨mx_ok_bipush (show decode b_xm_doWord 122 = .ok (.bipush 15, 2) by decide +kernel) (by decide), ?_⟩
  refine List.forall_mem_cons.mpr ⟨mx_ok_iand (show decode b_xm_doWord 124 = .ok (.iand, 1) by decide +kernel), ?_⟩
  refine List.forall_mem_cons.mpr ⟨mx_ok_mmax vm_231 vm_232 vm_233 vm_234 (by decide) (by decide) (show decode b_xm_doWord 125 = .ok (.invokestatic 93, 3) by decide +kernel), ?_⟩
  refine List.forall_mem_cons.mpr ⟨mx_ok_putf fd_xm_58 fw_0_8 (show decode b_xm_doWord 128 = .ok (.putfield 58, 3) by decide +kernel), ?_⟩
  refine List.forall_mem_cons.mpr ⟨mx_ok_goto (show decode b_xm_doWord 131 = .ok (.goto 35, 3) by decide +kernel) (by decide), ?_⟩
  refine List.forall_mem_cons.mpr ⟨mx_ok_aload_n (show decode b_xm_doWord 134 = .ok (.aload_n 0, 1) by decide +kernel) rfl, ?_⟩
  refine List.forall_mem_cons.mpr ⟨mx_ok_bipush (show decode b_xm_doWord 135 = .ok (.bipush 9, 2) by decide +kernel) (by decide), ?_⟩
  refine List.forall_mem_cons.mpr ⟨mx_ok_putf fd_xm_41 fw_0_5 (show decode b_xm_doWord 137 = .ok (.putfield 41, 3) by decide +kernel), ?_⟩
  refine List.forall_mem_cons.mpr ⟨mx_ok_goto (show decode b_xm_doWord 140 = .ok (.goto 26, 3) by decide +kernel) (by decide), ?_⟩
  refine List.forall_mem_cons.mpr ⟨mx_ok_goto (show decode b_xm_doWord 143 = .ok (.goto 23, 3) by decide +kernel) (by decide), ?_⟩
  refine List.forall_mem_cons.mpr ⟨mx_ok_aload_n (show decode b_xm_doWord 146 = .ok (.aload_n 0, 1) by decide +kernel) rfl, ?_⟩
  refine List.forall_mem_cons.mpr ⟨mx_ok_getf fd_xm_26 (show decode b_xm_doWord 147 = .ok (.getfield 26, 3) by decide +kernel), ?_⟩
  refine List.forall_mem_cons.mpr ⟨mx_ok_iload_n (show decode b_xm_doWord 150 = .ok (.iload_n 1, 1) by decide +kernel) rfl, ?_⟩
  refine List.forall_mem_cons.mpr ⟨mx_ok_invS vw_G (ct_xw_d l np nd) ⟨vm_201, vm_115, vm_97, ⟨by decide +kernel, by decide +kernel, by decide +kernel⟩, ⟨by decide, by decide⟩, rfl, rfl⟩ vm_116 (show decode b_xm_doWord 151 = .ok (.invokestatic 205, 3) by decide +kernel), ?_⟩
  refine List.forall_mem_cons.mpr ⟨mx_ok_aload_n (show decode b_xm_doWord 154 = .ok (.aload_n 0, 1) by decide +kernel) rfl, ?_⟩
  refine List.forall_mem_cons.mpr ⟨mx_ok_iload_n (show decode b_xm_doWord 155 = .ok (.iload_n 1, 1) by decide +kernel) rfl, ?_⟩
  refine List.forall_mem_cons.mpr ⟨mx_ok_invV vw_G (ct_xm_valueOf l np nd) ⟨vm_235, vm_236, vm_46, ⟨by decide +kernel, by decide +kernel, by decide +kernel⟩, ⟨by decide, by decide⟩, rfl, rfl⟩ vm_237 vm_238 rfl (show decode b_xm_doWord 156 = .ok (.invokevirtual 208, 3) by decide +kernel), ?_⟩
  refine List.forall_mem_cons.mpr ⟨mx_ok_iload_n (show decode b_xm_doWord 159 = .ok (.iload_n 1, 1) by decide +kernel) rfl, ?_⟩
  refine List.forall_mem_cons.mpr ⟨mx_ok_invS vw_G (ct_xw_timeOfWrite l np nd) ⟨vm_239, vm_240, vm_97, ⟨by decide +kernel, by decide +kernel, by decide +kernel⟩, ⟨by decide, by decide⟩, rfl, rfl⟩ vm_241 (show decode b_xm_doWord 160 = .ok (.invokestatic 211, 3) by decide +kernel), ?_⟩
  refine List.forall_mem_cons.mpr ⟨mx_ok_invV vw_G (ct_xq_add l np nd) ⟨vm_242, vm_243, vm_57, ⟨by decide +kernel, by decide +kernel, by decide +kernel⟩, ⟨by decide, by decide⟩, rfl, rfl⟩ vm_244 vm_245 rfl (show decode b_xm_doWord 163 = .ok (.invokevirtual 214, 3) by decide +kernel), ?_⟩
  refine List.forall_mem_cons.mpr ⟨mx_ok_vret (show decode b_xm_doWord 166 = .ok (.return_, 1) by decide +kernel) rfl, ?_⟩
  exact fun _ h => absurd h List.not_mem_nil
set_option maxRecDepth 100000 in
set_option maxHeartbeats 4000000 in
theorem ct_xm_doWord (l : Launch) (np nd : Nat) : mx_Ct l vw_T vw_cl (kx np nd) { frames := 3, cells := 0, slots := 0, locals := 69 } y_xm_doWord b_xm_doWord 2 none (pre_xm_doWord np nd) (fn_xm_doWord np nd) := by
  refine mx_ct_of (tb_xm_doWord np nd ) (by decide) (ok_xm_doWord l np nd ) (fun as u h => by obtain ⟨_, rfl, -⟩ := h; exact Nat.le_of_ble_eq_true rfl) ?_
  intro as u hpre At hc hw
  obtain ⟨a1, rfl, hp⟩ := hpre
  exact hc 200 [] _ _ _ _ (
    And.intro rfl (
    And.intro ⟨_, rfl, trivial⟩ (
    And.intro (fun h4_0 => 
     And.intro rfl (
     And.intro ⟨_, rfl, trivial⟩ (
     And.intro rfl (
     And.intro ⟨_, rfl, (hp.1 h4_0)⟩ (
     congrArg (fun z : mx_S => ((none, z) : Option mx_V × mx_S)) (show (xb_add (xw_target a1 ) u) = (xm_doWord np nd a1 u) from (if_pos h4_0).symm)))))) (fun h4_0 => 
    And.intro (fun h4_1 => 
     And.intro rfl (
     And.intro ⟨_, rfl, trivial⟩ (
     And.intro rfl (
     And.intro ⟨_, rfl, ((hp.2 h4_0).1 h4_1)⟩ (
     congrArg (fun z : mx_S => ((none, z) : Option mx_V × mx_S)) (show (xb_add (xm_operandB a1 u) u) = (xm_doWord np nd a1 u) from ((if_neg h4_0).trans (if_pos h4_1)).symm)))))) (fun h4_1 => 
    And.intro (fun h4_2 => 
     And.intro rfl (
     And.intro ⟨_, rfl, (((hp.2 h4_0).2 h4_1).1 h4_2)⟩ (
     And.intro rfl (
     And.intro (Or.inr rfl) (
     congrArg (fun z : mx_S => ((none, z) : Option mx_V × mx_S)) (show (mx_sf (xb_add (mx_gf u 0 9) u) 0 11 1) = (xm_doWord np nd a1 u) from ((if_neg h4_0).trans ((if_neg h4_1).trans (if_pos h4_2))).symm)))))) (fun h4_2 => 
    And.intro (fun h4_3 => 
     And.intro rfl (
     And.intro ⟨_, rfl, trivial⟩ (
     And.intro rfl (
     And.intro rfl (
     congrArg (fun z : mx_S => ((none, z) : Option mx_V × mx_S)) (show (mx_sf u 0 8 (if (mx_gf u 0 8) < ((xm_operandB a1 u) &&& (15 : Int32)) then ((xm_operandB a1 u) &&& (15 : Int32)) else (mx_gf u 0 8))) = (xm_doWord np nd a1 u) from ((if_neg h4_0).trans ((if_neg h4_1).trans ((if_neg h4_2).trans (if_pos h4_3)))).symm)))))) (fun h4_3 => 
    And.intro (fun h4_4 => 
     And.intro rfl (
     congrArg (fun z : mx_S => ((none, z) : Option mx_V × mx_S)) (show (mx_sf u 0 5 9) = (xm_doWord np nd a1 u) from ((if_neg h4_0).trans ((if_neg h4_1).trans ((if_neg h4_2).trans ((if_neg h4_3).trans (if_pos h4_4))))).symm))) (fun h4_4 => 
    And.intro (fun h4_5 => 
     congrArg (fun z : mx_S => ((none, z) : Option mx_V × mx_S)) (show u = (xm_doWord np nd a1 u) from ((if_neg h4_0).trans ((if_neg h4_1).trans ((if_neg h4_2).trans ((if_neg h4_3).trans ((if_neg h4_4).trans (if_pos h4_5)))))).symm)) (fun h4_5 => 
     And.intro rfl (
     And.intro ⟨_, rfl, trivial⟩ (
     And.intro rfl (
     And.intro ⟨_, rfl, ((((((hp.2 h4_0).2 h4_1).2 h4_2).2 h4_3).2 h4_4).2 h4_5).1⟩ (
     And.intro rfl (
     And.intro ⟨_, rfl, trivial⟩ (
     And.intro rfl (
     And.intro ⟨_, _, _, rfl, ((((((hp.2 h4_0).2 h4_1).2 h4_2).2 h4_3).2 h4_4).2 h4_5).2⟩ (
     congrArg (fun z : mx_S => ((none, z) : Option mx_V × mx_S)) (show (xq_add (xw_d a1 ) (xm_valueOf np nd a1 u) (xw_timeOfWrite a1 ) u) = (xm_doWord np nd a1 u) from ((if_neg h4_0).trans ((if_neg h4_1).trans ((if_neg h4_2).trans ((if_neg h4_3).trans ((if_neg h4_4).trans (if_neg h4_5)))))).symm))))))))))))))))))
/-! WideMachine.doStores(I)V -/
def xm_doStores_l5 (np nd : Nat) (a1 : Int32) : Nat → Int32 → mx_S → (mx_S)
  | 0, _, u => u
  | n + 1, v2, u =>
    if a1 ≤ v2 then
     u
    else
     if (xw_code (mx_ga u 1 (v2).toNatClampNeg) ) = 51 then
      if (xm_isConditionTrue (mx_ga u 1 (v2).toNatClampNeg) u) = 0 then
       xm_doStores_l5 np nd a1 n (v2 + 1) u
      else
       xm_doStores_l5 np nd a1 n (v2 + 1) (xm_poke np nd (xm_dataAddress (mx_ga u 1 (v2).toNatClampNeg) u) (mx_ga u 3 ((xw_d (mx_ga u 1 (v2).toNatClampNeg) )).toNatClampNeg) u).2
     else
      xm_doStores_l5 np nd a1 n (v2 + 1) u
def q_xm_doStores_l5 (np nd : Nat) (a1 : Int32) : Nat → Int32 → mx_S → Prop
  | 0, _, _ => False
  | n + 1, v2, u =>
    ((a1 ≤ v2) → 
     True) ∧ ((¬ (a1 ≤ v2)) → 
     (vp_in v2 np) ∧ (
      ((¬ ((xw_code (mx_ga u 1 (v2).toNatClampNeg) ) = 51)) → 
       q_xm_doStores_l5 np nd a1 n (v2 + 1) u) ∧ (((xw_code (mx_ga u 1 (v2).toNatClampNeg) ) = 51) → 
       ((q_xm_isConditionTrue np nd (mx_ga u 1 (v2).toNatClampNeg) u)) ∧ (
        (((xm_isConditionTrue (mx_ga u 1 (v2).toNatClampNeg) u) = 0) → 
         q_xm_doStores_l5 np nd a1 n (v2 + 1) u) ∧ ((¬ ((xm_isConditionTrue (mx_ga u 1 (v2).toNatClampNeg) u) = 0)) → 
         ((q_xm_poke np nd (xm_dataAddress (mx_ga u 1 (v2).toNatClampNeg) u) (mx_ga u 3 ((xw_d (mx_ga u 1 (v2).toNatClampNeg) )).toNatClampNeg) u)) ∧ (
          q_xm_doStores_l5 np nd a1 n (v2 + 1) (xm_poke np nd (xm_dataAddress (mx_ga u 1 (v2).toNatClampNeg) u) (mx_ga u 3 ((xw_d (mx_ga u 1 (v2).toNatClampNeg) )).toNatClampNeg) u).2))))))
def xm_doStores (np nd : Nat) (a1 : Int32) (u : mx_S) : mx_S :=
  xm_doStores_l5 np nd a1 20 (mx_gf u 0 6) u
def q_xm_doStores (np nd : Nat) (a1 : Int32) (u : mx_S) : Prop :=
  q_xm_doStores_l5 np nd a1 20 (mx_gf u 0 6) u
def pre_xm_doStores (np nd : Nat) : List mx_V → mx_S → Prop := fun as u => ∃ (a1 : Int32), as = [.inr (.inr 0), .inl a1] ∧ q_xm_doStores np nd a1 u
def fn_xm_doStores (np nd : Nat) : mx_F := fun as u => match as with
  | [_, .inl a1] => (none, (xm_doStores np nd a1 u))
  | _ => (none, u)
def tb_xm_doStores (np nd : Nat) : List (Nat × mx_T) := [
  (0, mx_aload_n 0 0),
  (1, mx_getf (kx np nd) 0 6 1),
  (4, mx_istore_n 2 4),
  (5, mx_iload_n 2 5),
  (6, mx_iload_n 1 6),
  (7, mx_icmp_ge 59 7),
  (10, mx_aload_n 0 10),
  (11, mx_getf (kx np nd) 0 0 11),
  (14, mx_iload_n 2 14),
  (15, mx_iald (kx np nd) 15),
  (16, mx_istore_n 3 16),
  (17, mx_iload_n 3 17),
  (18, mx_invS 1 (pre_xw_code np nd) (fn_xw_code np nd) 18),
  (21, mx_bipush 51 21),
  (23, mx_icmp_ne 53 23),
  (26, mx_aload_n 0 26),
  (27, mx_iload_n 3 27),
  (28, mx_invV (kx np nd) 0 1 (pre_xm_isConditionTrue np nd) (fn_xm_isConditionTrue np nd) 28),
  (31, mx_if_eq 53 31),
  (34, mx_aload_n 0 34),
  (35, mx_aload_n 0 35),
  (36, mx_iload_n 3 36),
  (37, mx_invV (kx np nd) 0 1 (pre_xm_dataAddress np nd) (fn_xm_dataAddress np nd) 37),
  (40, mx_aload_n 0 40),
  (41, mx_getf (kx np nd) 0 2 41),
  (44, mx_iload_n 3 44),
  (45, mx_invS 1 (pre_xw_d np nd) (fn_xw_d np nd) 45),
  (48, mx_iald (kx np nd) 48),
  (49, mx_invV (kx np nd) 0 2 (pre_xm_poke np nd) (fn_xm_poke np nd) 49),
  (52, mx_pop 52),
  (53, mx_iinc 2 1 53),
  (56, mx_goto 5 56),
  (59, mx_vret 59)]
set_option maxRecDepth 100000 in
set_option maxHeartbeats 4000000 in
theorem ok_xm_doStores (l : Launch) (np nd : Nat) : ∀ q ∈ tb_xm_doStores np nd , mx_Ok l ({ frames := 3, cells := 0, slots := 0, locals := 62 } : Room) b_xm_doStores 4 "WideMachine" none vw_T vw_cl (kx np nd) q.1 q.2 := by
  refine List.forall_mem_cons.mpr ⟨mx_ok_aload_n (show decode b_xm_doStores 0 = .ok (.aload_n 0, 1) by decide +kernel) rfl, ?_⟩
  refine List.forall_mem_cons.mpr ⟨mx_ok_getf fd_xm_48 (show decode b_xm_doStores 1 = .ok (.getfield 48, 3) by decide +kernel), ?_⟩
  refine List.forall_mem_cons.mpr ⟨mx_ok_istore_n (show decode b_xm_doStores 4 = .ok (.istore_n 2, 1) by decide +kernel) rfl (by decide), ?_⟩
  refine List.forall_mem_cons.mpr ⟨mx_ok_iload_n (show decode b_xm_doStores 5 = .ok (.iload_n 2, 1) by decide +kernel) rfl, ?_⟩
  refine List.forall_mem_cons.mpr ⟨mx_ok_iload_n (show decode b_xm_doStores 6 = .ok (.iload_n 1, 1) by decide +kernel) rfl, ?_⟩
  refine List.forall_mem_cons.mpr ⟨mx_ok_icmp_ge (show decode b_xm_doStores 7 = .ok (.if_icmp .ge 52, 3) by decide +kernel) (by decide), ?_⟩
  refine List.forall_mem_cons.mpr ⟨mx_ok_aload_n (show decode b_xm_doStores 10 = .ok (.aload_n 0, 1) by decide +kernel) rfl, ?_⟩
  refine List.forall_mem_cons.mpr ⟨mx_ok_getf fd_xm_13 (show decode b_xm_doStores 11 = .ok (.getfield 13, 3) by decide +kernel), ?_⟩
  refine List.forall_mem_cons.mpr ⟨mx_ok_iload_n (show decode b_xm_doStores 14 = .ok (.iload_n 2, 1) by decide +kernel) rfl, ?_⟩
  refine List.forall_mem_cons.mpr ⟨mx_ok_iald (show decode b_xm_doStores 15 = .ok (.iaload, 1) by decide +kernel), ?_⟩
  refine List.forall_mem_cons.mpr ⟨mx_ok_istore_n (show decode b_xm_doStores 16 = .ok (.istore_n 3, 1) by decide +kernel) rfl (by decide), ?_⟩
  refine List.forall_mem_cons.mpr ⟨mx_ok_iload_n (show decode b_xm_doStores 17 = .ok (.iload_n 3, 1) by decide +kernel) rfl, ?_⟩
  refine List.forall_mem_cons.mpr ⟨mx_ok_invS vw_G (ct_xw_code l np nd) ⟨vm_159, vm_100, vm_97, ⟨by decide +kernel, by decide +kernel, by decide +kernel⟩, ⟨by decide, by decide⟩, rfl, rfl⟩ vm_101 (show decode b_xm_doStores 18 = .ok (.invokestatic 163, 3) by decide +kernel), ?_⟩
  refine List.forall_mem_cons.mpr ⟨mx_ok_bipush (show decode b_xm_doStores 21 = .ok (.bipush 51, 2) by decide +kernel) (by decide), ?_⟩
  refine List.forall_mem_cons.mpr ⟨mx_ok_icmp_ne (show decode b_xm_doStores 23 = .ok (.if_icmp .ne 30, 3) by decide +kernel) (by decide), ?_⟩
  refine List.forall_mem_cons.mpr ⟨mx_ok_aload_n (show decode b_xm_doStores 26 = .ok (.aload_n 0, 1) by decide +kernel) rfl, ?_⟩
  refine List.forall_mem_cons.mpr ⟨mx_ok_iload_n (show decode b_xm_doStores 27 = .ok (.iload_n 3, 1) by decide +kernel) rfl, ?_⟩
  refine List.forall_mem_cons.mpr ⟨mx_ok_invV vw_G (ct_xm_isConditionTrue l np nd) ⟨vm_160, vm_161, vm_46, ⟨by decide +kernel, by decide +kernel, by decide +kernel⟩, ⟨by decide, by decide⟩, rfl, rfl⟩ vm_162 vm_163 rfl (show decode b_xm_doStores 28 = .ok (.invokevirtual 166, 3) by decide +kernel), ?_⟩
  refine List.forall_mem_cons.mpr ⟨mx_ok_if_eq (show decode b_xm_doStores 31 = .ok (.ifCond .eq 22, 3) by decide +kernel) (by decide), ?_⟩
  refine List.forall_mem_cons.mpr ⟨mx_ok_aload_n (show decode b_xm_doStores 34 = .ok (.aload_n 0, 1) by decide +kernel) rfl, ?_⟩
  refine List.forall_mem_cons.mpr ⟨mx_ok_aload_n (show decode b_xm_doStores 35 = .ok (.aload_n 0, 1) by decide +kernel) rfl, ?_⟩
  refine List.forall_mem_cons.mpr ⟨mx_ok_iload_n (show decode b_xm_doStores 36 = .ok (.iload_n 3, 1) by decide +kernel) rfl, ?_⟩
  refine List.forall_mem_cons.mpr ⟨mx_ok_invV vw_G (ct_xm_dataAddress l np nd) ⟨vm_164, vm_165, vm_46, ⟨by decide +kernel, by decide +kernel, by decide +kernel⟩, ⟨by decide, by decide⟩, rfl, rfl⟩ vm_166 vm_167 rfl (show decode b_xm_doStores 37 = .ok (.invokevirtual 169, 3) by decide +kernel), ?_⟩
  refine List.forall_mem_cons.mpr ⟨mx_ok_aload_n (show decode b_xm_doStores 40 = .ok (.aload_n 0, 1) by decide +kernel) rfl, ?_⟩
  refine List.forall_mem_cons.mpr ⟨mx_ok_getf fd_xm_20 (show decode b_xm_doStores 41 = .ok (.getfield 20, 3) by decide +kernel), ?_⟩
  refine List.forall_mem_cons.mpr ⟨mx_ok_iload_n (show decode b_xm_doStores 44 = .ok (.iload_n 3, 1) by decide +kernel) rfl, ?_⟩
  refine List.forall_mem_cons.mpr ⟨mx_ok_invS vw_G (ct_xw_d l np nd) ⟨vm_201, vm_115, vm_97, ⟨by decide +kernel, by decide +kernel, by decide +kernel⟩, ⟨by decide, by decide⟩, rfl, rfl⟩ vm_116 (show decode b_xm_doStores 45 = .ok (.invokestatic 205, 3) by decide +kernel), ?_⟩
  refine List.forall_mem_cons.mpr ⟨mx_ok_iald (show decode b_xm_doStores 48 = .ok (.iaload, 1) by decide +kernel), ?_⟩
  refine List.forall_mem_cons.mpr ⟨mx_ok_invV vw_G (ct_xm_poke l np nd) ⟨vm_246, vm_247, vm_46, ⟨by decide +kernel, by decide +kernel, by decide +kernel⟩, ⟨by decide, by decide⟩, rfl, rfl⟩ vm_248 vm_249 rfl (show decode b_xm_doStores 49 = .ok (.invokevirtual 243, 3) by decide +kernel), ?_⟩
  refine List.forall_mem_cons.mpr ⟨mx_ok_pop (show decode b_xm_doStores 52 = .ok (.pop, 1) by decide +kernel), ?_⟩
  refine List.forall_mem_cons.mpr ⟨mx_ok_iinc (show decode b_xm_doStores 53 = .ok (.iinc 2 1, 3) by decide +kernel) (by decide) (by decide), ?_⟩
  refine List.forall_mem_cons.mpr ⟨mx_ok_goto (show decode b_xm_doStores 56 = .ok (.goto (-51), 3) by decide +kernel) (by decide), ?_⟩
  refine List.forall_mem_cons.mpr ⟨mx_ok_vret (show decode b_xm_doStores 59 = .ok (.return_, 1) by decide +kernel) rfl, ?_⟩
  exact fun _ h => absurd h List.not_mem_nil
set_option maxRecDepth 100000 in
set_option maxHeartbeats 4000000 in
theorem ct_xm_doStores (l : Launch) (np nd : Nat) : mx_Ct l vw_T vw_cl (kx np nd) { frames := 3, cells := 0, slots := 0, locals := 62 } y_xm_doStores b_xm_doStores 4 none (pre_xm_doStores np nd) (fn_xm_doStores np nd) := by
  refine mx_ct_of (tb_xm_doStores np nd ) (by decide) (ok_xm_doStores l np nd ) (fun as u h => by obtain ⟨_, rfl, -⟩ := h; exact Nat.le_of_ble_eq_true rfl) ?_
  intro as u hpre At hc hw
  obtain ⟨a1, rfl, hp⟩ := hpre
  obtain ⟨RES, hRES⟩ : ∃ z, z = (xm_doStores np nd a1 u) := ⟨_, rfl⟩
  have hfn : fn_xm_doStores np nd [.inr (.inr 0), .inl a1] u = (none, RES) := by rw [hRES]; rfl
  rw [hfn] at hc
  have lp5 : ∀ (n5 : Nat) (v2 : Int32) (u : mx_S), q_xm_doStores_l5 np nd a1 n5 v2 u → xm_doStores_l5 np nd a1 n5 v2 u = RES → At 5 [(2, .inl v2), (0, .inr (.inr 0)), (1, .inl a1)] [] u := by
    intro n5
    induction n5 with
    | zero =>
      intro v2 u hi he
      exact hi.elim
    | succ n5 ih5 =>
      intro v2 u hi5 he5
      exact hc 200 [5] _ _ _ _ (
        And.intro (fun h7 => 
         congrArg (fun z : mx_S => ((none, z) : Option mx_V × mx_S)) (show u = RES from (if_pos h7).symm.trans he5)) (fun h7 => 
         And.intro ((hi5.2 h7).1) (
         And.intro rfl (
         And.intro ⟨_, rfl, trivial⟩ (
         And.intro (fun h23 => 
          hw [0, 2, 3] _ _ _ _ (ih5 (v2 + 1) u ((hi5.2 h7).2.1 h23) (((if_neg h7).trans (if_neg h23)).symm.trans he5))) (fun h23 => 
          And.intro rfl (
          And.intro ⟨_, rfl, ((hi5.2 h7).2.2 h23).1⟩ (
          And.intro (fun h31 => 
           hw [0, 2, 3] _ _ _ _ (ih5 (v2 + 1) u (((hi5.2 h7).2.2 h23).2.1 h31) (((if_neg h7).trans ((if_pos h23).trans (if_pos h31))).symm.trans he5))) (fun h31 => 
           And.intro rfl (
           And.intro ⟨_, rfl, trivial⟩ (
           And.intro rfl (
           And.intro ⟨_, rfl, trivial⟩ (
           And.intro (xw_d_in _) (
           And.intro rfl (
           And.intro ⟨_, _, rfl, (((hi5.2 h7).2.2 h23).2.2 h31).1⟩ (
           hw [0, 2, 3] _ _ _ _ (ih5 (v2 + 1) (xm_poke np nd (xm_dataAddress (mx_ga u 1 (v2).toNatClampNeg) u) (mx_ga u 3 ((xw_d (mx_ga u 1 (v2).toNatClampNeg) )).toNatClampNeg) u).2 (((hi5.2 h7).2.2 h23).2.2 h31).2 (((if_neg h7).trans ((if_pos h23).trans (if_neg h31))).symm.trans he5))))))))))))))))))
  exact hc 200 [5] _ _ _ _ (
    hw [0, 1, 2] _ _ _ _ (lp5 20 (mx_gf u 0 6) u hp ((rfl).symm.trans hRES.symm)))
/-! WideMachine.doPacket(I)V -/
def xm_doPacket_l5 (np nd : Nat) (a1 : Int32) : Nat → Int32 → mx_S → (mx_S)
  | 0, _, u => u
  | n + 1, v2, u =>
    if a1 ≤ v2 then
     (xm_doStores np nd a1 u)
    else
     if (xm_isConditionTrue (mx_ga u 1 (v2).toNatClampNeg) u) = 0 then
      xm_doPacket_l5 np nd a1 n (v2 + 1) u
     else
      xm_doPacket_l5 np nd a1 n (v2 + 1) (xm_doWord np nd (mx_ga u 1 (v2).toNatClampNeg) u)
def q_xm_doPacket_l5 (np nd : Nat) (a1 : Int32) : Nat → Int32 → mx_S → Prop
  | 0, _, _ => False
  | n + 1, v2, u =>
    ((a1 ≤ v2) → 
     ((q_xm_doStores np nd a1 u))) ∧ ((¬ (a1 ≤ v2)) → 
     (vp_in v2 np) ∧ (
      ((q_xm_isConditionTrue np nd (mx_ga u 1 (v2).toNatClampNeg) u)) ∧ (
       (((xm_isConditionTrue (mx_ga u 1 (v2).toNatClampNeg) u) = 0) → 
        q_xm_doPacket_l5 np nd a1 n (v2 + 1) u) ∧ ((¬ ((xm_isConditionTrue (mx_ga u 1 (v2).toNatClampNeg) u) = 0)) → 
        (vp_in v2 np) ∧ (
         ((q_xm_doWord np nd (mx_ga u 1 (v2).toNatClampNeg) u)) ∧ (
          q_xm_doPacket_l5 np nd a1 n (v2 + 1) (xm_doWord np nd (mx_ga u 1 (v2).toNatClampNeg) u)))))))
def xm_doPacket (np nd : Nat) (a1 : Int32) (u : mx_S) : mx_S :=
  xm_doPacket_l5 np nd a1 20 (mx_gf u 0 6) u
def q_xm_doPacket (np nd : Nat) (a1 : Int32) (u : mx_S) : Prop :=
  q_xm_doPacket_l5 np nd a1 20 (mx_gf u 0 6) u
def pre_xm_doPacket (np nd : Nat) : List mx_V → mx_S → Prop := fun as u => ∃ (a1 : Int32), as = [.inr (.inr 0), .inl a1] ∧ q_xm_doPacket np nd a1 u
def fn_xm_doPacket (np nd : Nat) : mx_F := fun as u => match as with
  | [_, .inl a1] => (none, (xm_doPacket np nd a1 u))
  | _ => (none, u)
def tb_xm_doPacket (np nd : Nat) : List (Nat × mx_T) := [
  (0, mx_aload_n 0 0),
  (1, mx_getf (kx np nd) 0 6 1),
  (4, mx_istore_n 2 4),
  (5, mx_iload_n 2 5),
  (6, mx_iload_n 1 6),
  (7, mx_icmp_ge 39 7),
  (10, mx_aload_n 0 10),
  (11, mx_aload_n 0 11),
  (12, mx_getf (kx np nd) 0 0 12),
  (15, mx_iload_n 2 15),
  (16, mx_iald (kx np nd) 16),
  (17, mx_invV (kx np nd) 0 1 (pre_xm_isConditionTrue np nd) (fn_xm_isConditionTrue np nd) 17),
  (20, mx_if_eq 33 20),
  (23, mx_aload_n 0 23),
  (24, mx_aload_n 0 24),
  (25, mx_getf (kx np nd) 0 0 25),
  (28, mx_iload_n 2 28),
  (29, mx_iald (kx np nd) 29),
  (30, mx_invV (kx np nd) 0 1 (pre_xm_doWord np nd) (fn_xm_doWord np nd) 30),
  (33, mx_iinc 2 1 33),
  (36, mx_goto 5 36),
  (39, mx_aload_n 0 39),
  (40, mx_iload_n 1 40),
  (41, mx_invV (kx np nd) 0 1 (pre_xm_doStores np nd) (fn_xm_doStores np nd) 41),
  (44, mx_vret 44)]
set_option maxRecDepth 100000 in
set_option maxHeartbeats 4000000 in
theorem ok_xm_doPacket (l : Launch) (np nd : Nat) : ∀ q ∈ tb_xm_doPacket np nd , mx_Ok l ({ frames := 4, cells := 0, slots := 0, locals := 90 } : Room) b_xm_doPacket 3 "WideMachine" none vw_T vw_cl (kx np nd) q.1 q.2 := by
  refine List.forall_mem_cons.mpr ⟨mx_ok_aload_n (show decode b_xm_doPacket 0 = .ok (.aload_n 0, 1) by decide +kernel) rfl, ?_⟩
  refine List.forall_mem_cons.mpr ⟨mx_ok_getf fd_xm_48 (show decode b_xm_doPacket 1 = .ok (.getfield 48, 3) by decide +kernel), ?_⟩
  refine List.forall_mem_cons.mpr ⟨mx_ok_istore_n (show decode b_xm_doPacket 4 = .ok (.istore_n 2, 1) by decide +kernel) rfl (by decide), ?_⟩
  refine List.forall_mem_cons.mpr ⟨mx_ok_iload_n (show decode b_xm_doPacket 5 = .ok (.iload_n 2, 1) by decide +kernel) rfl, ?_⟩
  refine List.forall_mem_cons.mpr ⟨mx_ok_iload_n (show decode b_xm_doPacket 6 = .ok (.iload_n 1, 1) by decide +kernel) rfl, ?_⟩
  refine List.forall_mem_cons.mpr ⟨mx_ok_icmp_ge (show decode b_xm_doPacket 7 = .ok (.if_icmp .ge 32, 3) by decide +kernel) (by decide), ?_⟩
  refine List.forall_mem_cons.mpr ⟨mx_ok_aload_n (show decode b_xm_doPacket 10 = .ok (.aload_n 0, 1) by decide +kernel) rfl, ?_⟩
  refine List.forall_mem_cons.mpr ⟨mx_ok_aload_n (show decode b_xm_doPacket 11 = .ok (.aload_n 0, 1) by decide +kernel) rfl, ?_⟩
  refine List.forall_mem_cons.mpr ⟨mx_ok_getf fd_xm_13 (show decode b_xm_doPacket 12 = .ok (.getfield 13, 3) by decide +kernel), ?_⟩
  refine List.forall_mem_cons.mpr ⟨mx_ok_iload_n (show decode b_xm_doPacket 15 = .ok (.iload_n 2, 1) by decide +kernel) rfl, ?_⟩
  refine List.forall_mem_cons.mpr ⟨mx_ok_iald (show decode b_xm_doPacket 16 = .ok (.iaload, 1) by decide +kernel), ?_⟩
  refine List.forall_mem_cons.mpr ⟨mx_ok_invV vw_G (ct_xm_isConditionTrue l np nd) ⟨vm_160, vm_161, vm_46, ⟨by decide +kernel, by decide +kernel, by decide +kernel⟩, ⟨by decide, by decide⟩, rfl, rfl⟩ vm_162 vm_163 rfl (show decode b_xm_doPacket 17 = .ok (.invokevirtual 166, 3) by decide +kernel), ?_⟩
  refine List.forall_mem_cons.mpr ⟨mx_ok_if_eq (show decode b_xm_doPacket 20 = .ok (.ifCond .eq 13, 3) by decide +kernel) (by decide), ?_⟩
  refine List.forall_mem_cons.mpr ⟨mx_ok_aload_n (show decode b_xm_doPacket 23 = .ok (.aload_n 0, 1) by decide +kernel) rfl, ?_⟩
  refine List.forall_mem_cons.mpr ⟨mx_ok_aload_n (show decode b_xm_doPacket 24 = .ok (.aload_n 0, 1) by decide +kernel) rfl, ?_⟩
  refine List.forall_mem_cons.mpr ⟨mx_ok_getf fd_xm_13 (show decode b_xm_doPacket 25 = .ok (.getfield 13, 3) by decide +kernel), ?_⟩
  refine List.forall_mem_cons.mpr ⟨mx_ok_iload_n (show decode b_xm_doPacket 28 = .ok (.iload_n 2, 1) by decide +kernel) rfl, ?_⟩
  refine List.forall_mem_cons.mpr ⟨mx_ok_iald (show decode b_xm_doPacket 29 = .ok (.iaload, 1) by decide +kernel), ?_⟩
  refine List.forall_mem_cons.mpr ⟨mx_ok_invV vw_G (ct_xm_doWord l np nd) ⟨vm_250, vm_251, vm_46, ⟨by decide +kernel, by decide +kernel, by decide +kernel⟩, ⟨by decide, by decide⟩, rfl, rfl⟩ vm_252 vm_253 rfl (show decode b_xm_doPacket 30 = .ok (.invokevirtual 193, 3) by decide +kernel), ?_⟩
  refine List.forall_mem_cons.mpr ⟨mx_ok_iinc (show decode b_xm_doPacket 33 = .ok (.iinc 2 1, 3) by decide +kernel) (by decide) (by decide), ?_⟩
  refine List.forall_mem_cons.mpr ⟨mx_ok_goto (show decode b_xm_doPacket 36 = .ok (.goto (-31), 3) by decide +kernel) (by decide), ?_⟩
  refine List.forall_mem_cons.mpr ⟨mx_ok_aload_n (show decode b_xm_doPacket 39 = .ok (.aload_n 0, 1) by decide +kernel) rfl, ?_⟩
  refine List.forall_mem_cons.mpr ⟨mx_ok_iload_n (show decode b_xm_doPacket 40 = .ok (.iload_n 1, 1) by decide +kernel) rfl, ?_⟩
  refine List.forall_mem_cons.mpr ⟨mx_ok_invV vw_G (ct_xm_doStores l np nd) ⟨vm_254, vm_255, vm_46, ⟨by decide +kernel, by decide +kernel, by decide +kernel⟩, ⟨by decide, by decide⟩, rfl, rfl⟩ vm_256 vm_257 rfl (show decode b_xm_doPacket 41 = .ok (.invokevirtual 196, 3) by decide +kernel), ?_⟩
  refine List.forall_mem_cons.mpr ⟨mx_ok_vret (show decode b_xm_doPacket 44 = .ok (.return_, 1) by decide +kernel) rfl, ?_⟩
  exact fun _ h => absurd h List.not_mem_nil
set_option maxRecDepth 100000 in
set_option maxHeartbeats 4000000 in
theorem ct_xm_doPacket (l : Launch) (np nd : Nat) : mx_Ct l vw_T vw_cl (kx np nd) { frames := 4, cells := 0, slots := 0, locals := 90 } y_xm_doPacket b_xm_doPacket 3 none (pre_xm_doPacket np nd) (fn_xm_doPacket np nd) := by
  refine mx_ct_of (tb_xm_doPacket np nd ) (by decide) (ok_xm_doPacket l np nd ) (fun as u h => by obtain ⟨_, rfl, -⟩ := h; exact Nat.le_of_ble_eq_true rfl) ?_
  intro as u hpre At hc hw
  obtain ⟨a1, rfl, hp⟩ := hpre
  obtain ⟨RES, hRES⟩ : ∃ z, z = (xm_doPacket np nd a1 u) := ⟨_, rfl⟩
  have hfn : fn_xm_doPacket np nd [.inr (.inr 0), .inl a1] u = (none, RES) := by rw [hRES]; rfl
  rw [hfn] at hc
  have lp5 : ∀ (n5 : Nat) (v2 : Int32) (u : mx_S), q_xm_doPacket_l5 np nd a1 n5 v2 u → xm_doPacket_l5 np nd a1 n5 v2 u = RES → At 5 [(2, .inl v2), (0, .inr (.inr 0)), (1, .inl a1)] [] u := by
    intro n5
    induction n5 with
    | zero =>
      intro v2 u hi he
      exact hi.elim
    | succ n5 ih5 =>
      intro v2 u hi5 he5
      exact hc 200 [5] _ _ _ _ (
        And.intro (fun h7 => 
         And.intro rfl (
         And.intro ⟨_, rfl, (hi5.1 h7)⟩ (
         congrArg (fun z : mx_S => ((none, z) : Option mx_V × mx_S)) (show (xm_doStores np nd a1 u) = RES from (if_pos h7).symm.trans he5)))) (fun h7 => 
         And.intro ((hi5.2 h7).1) (
         And.intro rfl (
         And.intro ⟨_, rfl, (hi5.2 h7).2.1⟩ (
         And.intro (fun h20 => 
          hw [0, 1, 2] _ _ _ _ (ih5 (v2 + 1) u ((hi5.2 h7).2.2.1 h20) (((if_neg h7).trans (if_pos h20)).symm.trans he5))) (fun h20 => 
          And.intro (((hi5.2 h7).2.2.2 h20).1) (
          And.intro rfl (
          And.intro ⟨_, rfl, ((hi5.2 h7).2.2.2 h20).2.1⟩ (
          hw [0, 1, 2] _ _ _ _ (ih5 (v2 + 1) (xm_doWord np nd (mx_ga u 1 (v2).toNatClampNeg) u) ((hi5.2 h7).2.2.2 h20).2.2 (((if_neg h7).trans (if_neg h20)).symm.trans he5)))))))))))
  exact hc 200 [5] _ _ _ _ (
    hw [0, 1, 2] _ _ _ _ (lp5 20 (mx_gf u 0 6) u hp ((rfl).symm.trans hRES.symm)))
/-! WideMachine.doCycle()V -/
def xm_doCycle (np nd : Nat) (u : mx_S) : mx_S :=
  if (mx_gf (xm_landWrites (mx_sf u 0 7 ((mx_gf u 0 7) + (1 : Int32)))) 0 5) = 0 then
   if (mx_gf (xm_takeBranch (xm_landWrites (mx_sf u 0 7 ((mx_gf u 0 7) + (1 : Int32))))) 0 5) = 0 then
    if (mx_gf (xm_takeBranch (xm_landWrites (mx_sf u 0 7 ((mx_gf u 0 7) + (1 : Int32))))) 0 8) ≤ 0 then
     if (mx_gf (mx_sf (xm_takeInterrupt (xm_takeBranch (xm_landWrites (mx_sf u 0 7 ((mx_gf u 0 7) + (1 : Int32)))))) 0 5 (xm_faultOfPacket np nd (xm_endOfPacket np nd (xm_takeInterrupt (xm_takeBranch (xm_landWrites (mx_sf u 0 7 ((mx_gf u 0 7) + (1 : Int32))))))) (xm_takeInterrupt (xm_takeBranch (xm_landWrites (mx_sf u 0 7 ((mx_gf u 0 7) + (1 : Int32)))))))) 0 5) = 0 then
      (mx_sf (xm_doPacket np nd (xm_endOfPacket np nd (xm_takeInterrupt (xm_takeBranch (xm_landWrites (mx_sf u 0 7 ((mx_gf u 0 7) + (1 : Int32))))))) (mx_sf (xm_takeInterrupt (xm_takeBranch (xm_landWrites (mx_sf u 0 7 ((mx_gf u 0 7) + (1 : Int32)))))) 0 5 (xm_faultOfPacket np nd (xm_endOfPacket np nd (xm_takeInterrupt (xm_takeBranch (xm_landWrites (mx_sf u 0 7 ((mx_gf u 0 7) + (1 : Int32))))))) (xm_takeInterrupt (xm_takeBranch (xm_landWrites (mx_sf u 0 7 ((mx_gf u 0 7) + (1 : Int32))))))))) 0 6 (xm_endOfPacket np nd (xm_takeInterrupt (xm_takeBranch (xm_landWrites (mx_sf u 0 7 ((mx_gf u 0 7) + (1 : Int32))))))))
     else
      (mx_sf (xm_takeInterrupt (xm_takeBranch (xm_landWrites (mx_sf u 0 7 ((mx_gf u 0 7) + (1 : Int32)))))) 0 5 (xm_faultOfPacket np nd (xm_endOfPacket np nd (xm_takeInterrupt (xm_takeBranch (xm_landWrites (mx_sf u 0 7 ((mx_gf u 0 7) + (1 : Int32))))))) (xm_takeInterrupt (xm_takeBranch (xm_landWrites (mx_sf u 0 7 ((mx_gf u 0 7) + (1 : Int32))))))))
    else
     (mx_sf (xm_takeBranch (xm_landWrites (mx_sf u 0 7 ((mx_gf u 0 7) + (1 : Int32))))) 0 8 ((mx_gf (xm_takeBranch (xm_landWrites (mx_sf u 0 7 ((mx_gf u 0 7) + (1 : Int32))))) 0 8) - (1 : Int32)))
   else
    (xm_takeBranch (xm_landWrites (mx_sf u 0 7 ((mx_gf u 0 7) + (1 : Int32)))))
  else
   (xm_landWrites (mx_sf u 0 7 ((mx_gf u 0 7) + (1 : Int32))))
def q_xm_doCycle (np nd : Nat) (u : mx_S) : Prop :=
  ((q_xm_landWrites np nd (mx_sf u 0 7 ((mx_gf u 0 7) + (1 : Int32))))) ∧ (
   ((¬ ((mx_gf (xm_landWrites (mx_sf u 0 7 ((mx_gf u 0 7) + (1 : Int32)))) 0 5) = 0)) → 
    True) ∧ (((mx_gf (xm_landWrites (mx_sf u 0 7 ((mx_gf u 0 7) + (1 : Int32)))) 0 5) = 0) → 
    ((q_xm_takeBranch np nd (xm_landWrites (mx_sf u 0 7 ((mx_gf u 0 7) + (1 : Int32)))))) ∧ (
     (((mx_gf (xm_takeBranch (xm_landWrites (mx_sf u 0 7 ((mx_gf u 0 7) + (1 : Int32))))) 0 5) = 0) → 
      (((mx_gf (xm_takeBranch (xm_landWrites (mx_sf u 0 7 ((mx_gf u 0 7) + (1 : Int32))))) 0 8) ≤ 0) → 
       ((q_xm_takeInterrupt np nd (xm_takeBranch (xm_landWrites (mx_sf u 0 7 ((mx_gf u 0 7) + (1 : Int32))))))) ∧ (
        ((q_xm_endOfPacket np nd (xm_takeInterrupt (xm_takeBranch (xm_landWrites (mx_sf u 0 7 ((mx_gf u 0 7) + (1 : Int32)))))))) ∧ (
         ((q_xm_faultOfPacket np nd (xm_endOfPacket np nd (xm_takeInterrupt (xm_takeBranch (xm_landWrites (mx_sf u 0 7 ((mx_gf u 0 7) + (1 : Int32))))))) (xm_takeInterrupt (xm_takeBranch (xm_landWrites (mx_sf u 0 7 ((mx_gf u 0 7) + (1 : Int32)))))))) ∧ (
          ((¬ ((mx_gf (mx_sf (xm_takeInterrupt (xm_takeBranch (xm_landWrites (mx_sf u 0 7 ((mx_gf u 0 7) + (1 : Int32)))))) 0 5 (xm_faultOfPacket np nd (xm_endOfPacket np nd (xm_takeInterrupt (xm_takeBranch (xm_landWrites (mx_sf u 0 7 ((mx_gf u 0 7) + (1 : Int32))))))) (xm_takeInterrupt (xm_takeBranch (xm_landWrites (mx_sf u 0 7 ((mx_gf u 0 7) + (1 : Int32)))))))) 0 5) = 0)) → 
           True) ∧ (((mx_gf (mx_sf (xm_takeInterrupt (xm_takeBranch (xm_landWrites (mx_sf u 0 7 ((mx_gf u 0 7) + (1 : Int32)))))) 0 5 (xm_faultOfPacket np nd (xm_endOfPacket np nd (xm_takeInterrupt (xm_takeBranch (xm_landWrites (mx_sf u 0 7 ((mx_gf u 0 7) + (1 : Int32))))))) (xm_takeInterrupt (xm_takeBranch (xm_landWrites (mx_sf u 0 7 ((mx_gf u 0 7) + (1 : Int32)))))))) 0 5) = 0) → 
           ((q_xm_doPacket np nd (xm_endOfPacket np nd (xm_takeInterrupt (xm_takeBranch (xm_landWrites (mx_sf u 0 7 ((mx_gf u 0 7) + (1 : Int32))))))) (mx_sf (xm_takeInterrupt (xm_takeBranch (xm_landWrites (mx_sf u 0 7 ((mx_gf u 0 7) + (1 : Int32)))))) 0 5 (xm_faultOfPacket np nd (xm_endOfPacket np nd (xm_takeInterrupt (xm_takeBranch (xm_landWrites (mx_sf u 0 7 ((mx_gf u 0 7) + (1 : Int32))))))) (xm_takeInterrupt (xm_takeBranch (xm_landWrites (mx_sf u 0 7 ((mx_gf u 0 7) + (1 : Int32))))))))))))))) ∧ ((¬ ((mx_gf (xm_takeBranch (xm_landWrites (mx_sf u 0 7 ((mx_gf u 0 7) + (1 : Int32))))) 0 8) ≤ 0)) → 
       True)) ∧ ((¬ ((mx_gf (xm_takeBranch (xm_landWrites (mx_sf u 0 7 ((mx_gf u 0 7) + (1 : Int32))))) 0 5) = 0)) → 
      True))))
def pre_xm_doCycle (np nd : Nat) : List mx_V → mx_S → Prop := fun as u => as = [.inr (.inr 0)] ∧ q_xm_doCycle np nd u
def fn_xm_doCycle (np nd : Nat) : mx_F := fun as u => match as with
  | [_] => (none, (xm_doCycle np nd u))
  | _ => (none, u)
def tb_xm_doCycle (np nd : Nat) : List (Nat × mx_T) := [
  (0, mx_aload_n 0 0),
  (1, mx_dup 1),
  (2, mx_getf (kx np nd) 0 7 2),
  (5, mx_iconst 1 5),
  (6, mx_iadd 6),
  (7, mx_putf (kx np nd) 0 7 7),
  (10, mx_aload_n 0 10),
  (11, mx_invV (kx np nd) 0 0 (pre_xm_landWrites np nd) (fn_xm_landWrites np nd) 11),
  (14, mx_aload_n 0 14),
  (15, mx_getf (kx np nd) 0 5 15),
  (18, mx_if_ne 25 18),
  (21, mx_aload_n 0 21),
  (22, mx_invV (kx np nd) 0 0 (pre_xm_takeBranch np nd) (fn_xm_takeBranch np nd) 22),
  (25, mx_aload_n 0 25),
  (26, mx_getf (kx np nd) 0 5 26),
  (29, mx_if_eq 33 29),
  (32, mx_vret 32),
  (33, mx_aload_n 0 33),
  (34, mx_getf (kx np nd) 0 8 34),
  (37, mx_if_le 51 37),
  (40, mx_aload_n 0 40),
  (41, mx_dup 41),
  (42, mx_getf (kx np nd) 0 8 42),
  (45, mx_iconst 1 45),
  (46, mx_isub 46),
  (47, mx_putf (kx np nd) 0 8 47),
  (50, mx_vret 50),
  (51, mx_aload_n 0 51),
  (52, mx_invV (kx np nd) 0 0 (pre_xm_takeInterrupt np nd) (fn_xm_takeInterrupt np nd) 52),
  (55, mx_aload_n 0 55),
  (56, mx_invV (kx np nd) 0 0 (pre_xm_endOfPacket np nd) (fn_xm_endOfPacket np nd) 56),
  (59, mx_istore_n 1 59),
  (60, mx_aload_n 0 60),
  (61, mx_aload_n 0 61),
  (62, mx_iload_n 1 62),
  (63, mx_invV (kx np nd) 0 1 (pre_xm_faultOfPacket np nd) (fn_xm_faultOfPacket np nd) 63),
  (66, mx_putf (kx np nd) 0 5 66),
  (69, mx_aload_n 0 69),
  (70, mx_getf (kx np nd) 0 5 70),
  (73, mx_if_ne 86 73),
  (76, mx_aload_n 0 76),
  (77, mx_iload_n 1 77),
  (78, mx_invV (kx np nd) 0 1 (pre_xm_doPacket np nd) (fn_xm_doPacket np nd) 78),
  (81, mx_aload_n 0 81),
  (82, mx_iload_n 1 82),
  (83, mx_putf (kx np nd) 0 6 83),
  (86, mx_vret 86)]
set_option maxRecDepth 100000 in
set_option maxHeartbeats 4000000 in
theorem ok_xm_doCycle (l : Launch) (np nd : Nat) : ∀ q ∈ tb_xm_doCycle np nd , mx_Ok l ({ frames := 5, cells := 0, slots := 0, locals := 112 } : Room) b_xm_doCycle 2 "WideMachine" none vw_T vw_cl (kx np nd) q.1 q.2 := by
  refine List.forall_mem_cons.mpr ⟨mx_ok_aload_n (show decode b_xm_doCycle 0 = .ok (.aload_n 0, 1) by decide +kernel) rfl, ?_⟩
  refine List.forall_mem_cons.mpr ⟨mx_ok_dup (show decode b_xm_doCycle 1 = .ok (.dup, 1) by decide +kernel), ?_⟩
  refine List.forall_mem_cons.mpr ⟨mx_ok_getf fd_xm_51 (show decode b_xm_doCycle 2 = .ok (.getfield 51, 3) by decide +kernel), ?_⟩
  refine List.forall_mem_cons.mpr ⟨mx_ok_iconst (show decode b_xm_doCycle 5 = .ok (.iconst 1, 1) by decide +kernel) (by decide), ?_⟩
  refine List.forall_mem_cons.mpr ⟨mx_ok_iadd (show decode b_xm_doCycle 6 = .ok (.iadd, 1) by decide +kernel), ?_⟩
  refine List.forall_mem_cons.mpr ⟨mx_ok_putf fd_xm_51 fw_0_7 (show decode b_xm_doCycle 7 = .ok (.putfield 51, 3) by decide +kernel), ?_⟩
  refine List.forall_mem_cons.mpr ⟨mx_ok_aload_n (show decode b_xm_doCycle 10 = .ok (.aload_n 0, 1) by decide +kernel) rfl, ?_⟩
  refine List.forall_mem_cons.mpr ⟨mx_ok_invV vw_G (ct_xm_landWrites l np nd) ⟨vm_259, vm_260, vm_46, ⟨by decide +kernel, by decide +kernel, by decide +kernel⟩, ⟨by decide, by decide⟩, rfl, rfl⟩ vm_261 vm_262 rfl (show decode b_xm_doCycle 11 = .ok (.invokevirtual 96, 3) by decide +kernel), ?_⟩
  refine List.forall_mem_cons.mpr ⟨mx_ok_aload_n (show decode b_xm_doCycle 14 = .ok (.aload_n 0, 1) by decide +kernel) rfl, ?_⟩
  refine List.forall_mem_cons.mpr ⟨mx_ok_getf fd_xm_41 (show decode b_xm_doCycle 15 = .ok (.getfield 41, 3) by decide +kernel), ?_⟩
  refine List.forall_mem_cons.mpr ⟨mx_ok_if_ne (show decode b_xm_doCycle 18 = .ok (.ifCond .ne 7, 3) by decide +kernel) (by decide), ?_⟩
  refine List.forall_mem_cons.mpr ⟨mx_ok_aload_n (show decode b_xm_doCycle 21 = .ok (.aload_n 0, 1) by decide +kernel) rfl, ?_⟩
  refine List.forall_mem_cons.mpr ⟨mx_ok_invV vw_G (ct_xm_takeBranch l np nd) ⟨vm_263, vm_264, vm_46, ⟨by decide +kernel, by decide +kernel, by decide +kernel⟩, ⟨by decide, by decide⟩, rfl, rfl⟩ vm_265 vm_266 rfl (show decode b_xm_doCycle 22 = .ok (.invokevirtual 99, 3) by decide +kernel), ?_⟩
  refine List.forall_mem_cons.mpr ⟨mx_ok_aload_n (show decode b_xm_doCycle 25 = .ok (.aload_n 0, 1) by decide +kernel) rfl, ?_⟩
  refine List.forall_mem_cons.mpr ⟨mx_ok_getf fd_xm_41 (show decode b_xm_doCycle 26 = .ok (.getfield 41, 3) by decide +kernel), ?_⟩
  refine List.forall_mem_cons.mpr ⟨mx_ok_if_eq (show decode b_xm_doCycle 29 = .ok (.ifCond .eq 4, 3) by decide +kernel) (by decide), ?_⟩
  refine List.forall_mem_cons.mpr ⟨mx_ok_vret (show decode b_xm_doCycle 32 = .ok (.return_, 1) by decide +kernel) rfl, ?_⟩
  refine List.forall_mem_cons.mpr ⟨mx_ok_aload_n (show decode b_xm_doCycle 33 = .ok (.aload_n 0, 1) by decide +kernel) rfl, ?_⟩
  refine List.forall_mem_cons.mpr ⟨mx_ok_getf fd_xm_58 (show decode b_xm_doCycle 34 = .ok (.getfield 58, 3) by decide +kernel), ?_⟩
  refine List.forall_mem_cons.mpr ⟨mx_ok_if_le (show decode b_xm_doCycle 37 = .ok (.ifCond .le 14, 3) by decide +kernel) (by decide), ?_⟩
  refine List.forall_mem_cons.mpr ⟨mx_ok_aload_n (show decode b_xm_doCycle 40 = .ok (.aload_n 0, 1) by decide +kernel) rfl, ?_⟩
  refine List.forall_mem_cons.mpr ⟨mx_ok_dup (show decode b_xm_doCycle 41 = .ok (.dup, 1) by decide +kernel), ?_⟩
  refine List.forall_mem_cons.mpr ⟨mx_ok_getf fd_xm_58 (show decode b_xm_doCycle 42 = .ok (.getfield 58, 3) by decide +kernel), ?_⟩
  refine List.forall_mem_cons.mpr ⟨mx_ok_iconst (show decode b_xm_doCycle 45 = .ok (.iconst 1, 1) by decide +kernel) (by decide), ?_⟩
  refine List.forall_mem_cons.mpr ⟨mx_ok_isub (show decode b_xm_doCycle 46 = .ok (.isub, 1) by decide +kernel), ?_⟩
  refine List.forall_mem_cons.mpr ⟨mx_ok_putf fd_xm_58 fw_0_8 (show decode b_xm_doCycle 47 = .ok (.putfield 58, 3) by decide +kernel), ?_⟩
  refine List.forall_mem_cons.mpr ⟨mx_ok_vret (show decode b_xm_doCycle 50 = .ok (.return_, 1) by decide +kernel) rfl, ?_⟩
  refine List.forall_mem_cons.mpr ⟨mx_ok_aload_n (show decode b_xm_doCycle 51 = .ok (.aload_n 0, 1) by decide +kernel) rfl, ?_⟩
  refine List.forall_mem_cons.mpr ⟨mx_ok_invV vw_G (ct_xm_takeInterrupt l np nd) ⟨vm_267, vm_268, vm_46, ⟨by decide +kernel, by decide +kernel, by decide +kernel⟩, ⟨by decide, by decide⟩, rfl, rfl⟩ vm_269 vm_270 rfl (show decode b_xm_doCycle 52 = .ok (.invokevirtual 102, 3) by decide +kernel), ?_⟩
  refine List.forall_mem_cons.mpr ⟨mx_ok_aload_n (show decode b_xm_doCycle 55 = .ok (.aload_n 0, 1) by decide +kernel) rfl, ?_⟩
  refine List.forall_mem_cons.mpr ⟨mx_ok_invV vw_G (ct_xm_endOfPacket l np nd) ⟨vm_271, vm_272, vm_46, ⟨by decide +kernel, by decide +kernel, by decide +kernel⟩, ⟨by decide, by decide⟩, rfl, rfl⟩ vm_273 vm_274 rfl (show decode b_xm_doCycle 56 = .ok (.invokevirtual 105, 3) by decide +kernel), ?_⟩
  refine List.forall_mem_cons.mpr ⟨mx_ok_istore_n (show decode b_xm_doCycle 59 = .ok (.istore_n 1, 1) by decide +kernel) rfl (by decide), ?_⟩
  refine List.forall_mem_cons.mpr ⟨mx_ok_aload_n (show decode b_xm_doCycle 60 = .ok (.aload_n 0, 1) by decide +kernel) rfl, ?_⟩
  refine List.forall_mem_cons.mpr ⟨mx_ok_aload_n (show decode b_xm_doCycle 61 = .ok (.aload_n 0, 1) by decide +kernel) rfl, ?_⟩
  refine List.forall_mem_cons.mpr ⟨mx_ok_iload_n (show decode b_xm_doCycle 62 = .ok (.iload_n 1, 1) by decide +kernel) rfl, ?_⟩
  refine List.forall_mem_cons.mpr ⟨mx_ok_invV vw_G (ct_xm_faultOfPacket l np nd) ⟨vm_275, vm_276, vm_46, ⟨by decide +kernel, by decide +kernel, by decide +kernel⟩, ⟨by decide, by decide⟩, rfl, rfl⟩ vm_277 vm_278 rfl (show decode b_xm_doCycle 63 = .ok (.invokevirtual 109, 3) by decide +kernel), ?_⟩
  refine List.forall_mem_cons.mpr ⟨mx_ok_putf fd_xm_41 fw_0_5 (show decode b_xm_doCycle 66 = .ok (.putfield 41, 3) by decide +kernel), ?_⟩
  refine List.forall_mem_cons.mpr ⟨mx_ok_aload_n (show decode b_xm_doCycle 69 = .ok (.aload_n 0, 1) by decide +kernel) rfl, ?_⟩
  refine List.forall_mem_cons.mpr ⟨mx_ok_getf fd_xm_41 (show decode b_xm_doCycle 70 = .ok (.getfield 41, 3) by decide +kernel), ?_⟩
  refine List.forall_mem_cons.mpr ⟨mx_ok_if_ne (show decode b_xm_doCycle 73 = .ok (.ifCond .ne 13, 3) by decide +kernel) (by decide), ?_⟩
  refine List.forall_mem_cons.mpr ⟨mx_ok_aload_n (show decode b_xm_doCycle 76 = .ok (.aload_n 0, 1) by decide +kernel) rfl, ?_⟩
  refine List.forall_mem_cons.mpr ⟨mx_ok_iload_n (show decode b_xm_doCycle 77 = .ok (.iload_n 1, 1) by decide +kernel) rfl, ?_⟩
  refine List.forall_mem_cons.mpr ⟨mx_ok_invV vw_G (ct_xm_doPacket l np nd) ⟨vm_279, vm_280, vm_46, ⟨by decide +kernel, by decide +kernel, by decide +kernel⟩, ⟨by decide, by decide⟩, rfl, rfl⟩ vm_281 vm_282 rfl (show decode b_xm_doCycle 78 = .ok (.invokevirtual 112, 3) by decide +kernel), ?_⟩
  refine List.forall_mem_cons.mpr ⟨mx_ok_aload_n (show decode b_xm_doCycle 81 = .ok (.aload_n 0, 1) by decide +kernel) rfl, ?_⟩
  refine List.forall_mem_cons.mpr ⟨mx_ok_iload_n (show decode b_xm_doCycle 82 = .ok (.iload_n 1, 1) by decide +kernel) rfl, ?_⟩
  refine List.forall_mem_cons.mpr ⟨mx_ok_putf fd_xm_48 fw_0_6 (show decode b_xm_doCycle 83 = .ok (.putfield 48, 3) by decide +kernel), ?_⟩
  refine List.forall_mem_cons.mpr ⟨mx_ok_vret (show decode b_xm_doCycle 86 = .ok (.return_, 1) by decide +kernel) rfl, ?_⟩
  exact fun _ h => absurd h List.not_mem_nil
set_option maxRecDepth 100000 in
set_option maxHeartbeats 4000000 in
theorem ct_xm_doCycle (l : Launch) (np nd : Nat) : mx_Ct l vw_T vw_cl (kx np nd) { frames := 5, cells := 0, slots := 0, locals := 112 } y_xm_doCycle b_xm_doCycle 2 none (pre_xm_doCycle np nd) (fn_xm_doCycle np nd) := by
  refine mx_ct_of (tb_xm_doCycle np nd ) (by decide) (ok_xm_doCycle l np nd ) (fun as u h => by obtain ⟨rfl, -⟩ := h; exact Nat.le_of_ble_eq_true rfl) ?_
  intro as u hpre At hc hw
  obtain ⟨rfl, hp⟩ := hpre
  exact hc 200 [] _ _ _ _ (
    And.intro rfl (
    And.intro rfl (
    And.intro ⟨rfl, hp.1⟩ (
    And.intro (fun h18 => 
     And.intro (fun h29 => mx_abs h18 h29) (fun h29 => 
      congrArg (fun z : mx_S => ((none, z) : Option mx_V × mx_S)) (show (xm_landWrites (mx_sf u 0 7 ((mx_gf u 0 7) + (1 : Int32)))) = (xm_doCycle np nd u) from (if_neg h18).symm))) (fun h18 => 
     And.intro rfl (
     And.intro ⟨rfl, (hp.2.2 h18).1⟩ (
     And.intro (fun h29 => 
      And.intro (fun h37 => 
       And.intro rfl (
       And.intro ⟨rfl, (((hp.2.2 h18).2.1 h29).1 h37).1⟩ (
       And.intro rfl (
       And.intro ⟨rfl, (((hp.2.2 h18).2.1 h29).1 h37).2.1⟩ (
       And.intro rfl (
       And.intro ⟨_, rfl, (((hp.2.2 h18).2.1 h29).1 h37).2.2.1⟩ (
       And.intro rfl (
       And.intro (fun h73 => 
        congrArg (fun z : mx_S => ((none, z) : Option mx_V × mx_S)) (show (mx_sf (xm_takeInterrupt (xm_takeBranch (xm_landWrites (mx_sf u 0 7 ((mx_gf u 0 7) + (1 : Int32)))))) 0 5 (xm_faultOfPacket np nd (xm_endOfPacket np nd (xm_takeInterrupt (xm_takeBranch (xm_landWrites (mx_sf u 0 7 ((mx_gf u 0 7) + (1 : Int32))))))) (xm_takeInterrupt (xm_takeBranch (xm_landWrites (mx_sf u 0 7 ((mx_gf u 0 7) + (1 : Int32)))))))) = (xm_doCycle np nd u) from ((if_pos h18).trans ((if_pos h29).trans ((if_pos h37).trans (if_neg h73)))).symm)) (fun h73 => 
        And.intro rfl (
        And.intro ⟨_, rfl, ((((hp.2.2 h18).2.1 h29).1 h37).2.2.2.2 h73)⟩ (
        And.intro rfl (
        congrArg (fun z : mx_S => ((none, z) : Option mx_V × mx_S)) (show (mx_sf (xm_doPacket np nd (xm_endOfPacket np nd (xm_takeInterrupt (xm_takeBranch (xm_landWrites (mx_sf u 0 7 ((mx_gf u 0 7) + (1 : Int32))))))) (mx_sf (xm_takeInterrupt (xm_takeBranch (xm_landWrites (mx_sf u 0 7 ((mx_gf u 0 7) + (1 : Int32)))))) 0 5 (xm_faultOfPacket np nd (xm_endOfPacket np nd (xm_takeInterrupt (xm_takeBranch (xm_landWrites (mx_sf u 0 7 ((mx_gf u 0 7) + (1 : Int32))))))) (xm_takeInterrupt (xm_takeBranch (xm_landWrites (mx_sf u 0 7 ((mx_gf u 0 7) + (1 : Int32))))))))) 0 6 (xm_endOfPacket np nd (xm_takeInterrupt (xm_takeBranch (xm_landWrites (mx_sf u 0 7 ((mx_gf u 0 7) + (1 : Int32)))))))) = (xm_doCycle np nd u) from ((if_pos h18).trans ((if_pos h29).trans ((if_pos h37).trans (if_pos h73)))).symm))))))))))))) (fun h37 => 
       And.intro rfl (
       congrArg (fun z : mx_S => ((none, z) : Option mx_V × mx_S)) (show (mx_sf (xm_takeBranch (xm_landWrites (mx_sf u 0 7 ((mx_gf u 0 7) + (1 : Int32))))) 0 8 ((mx_gf (xm_takeBranch (xm_landWrites (mx_sf u 0 7 ((mx_gf u 0 7) + (1 : Int32))))) 0 8) - (1 : Int32))) = (xm_doCycle np nd u) from ((if_pos h18).trans ((if_pos h29).trans (if_neg h37))).symm)))) (fun h29 => 
      congrArg (fun z : mx_S => ((none, z) : Option mx_V × mx_S)) (show (xm_takeBranch (xm_landWrites (mx_sf u 0 7 ((mx_gf u 0 7) + (1 : Int32))))) = (xm_doCycle np nd u) from ((if_pos h18).trans (if_neg h29)).symm)))))))))
/-! WideMachine.run(I)I -/
def xm_run_l15 (np nd : Nat) (a1 : Int32) : Nat → Int32 → mx_S → (Int32 × mx_S)
  | 0, _, u => (0, u)
  | n + 1, v2, u =>
    if a1 ≤ v2 then
     (v2, u)
    else
     if (mx_gf u 0 5) = 0 then
      xm_run_l15 np nd a1 n (v2 + 1) (xm_doCycle np nd u)
     else
      (v2, u)
def q_xm_run_l15 (np nd : Nat) (a1 : Int32) : Nat → Int32 → mx_S → Prop
  | 0, _, _ => False
  | n + 1, v2, u =>
    ((a1 ≤ v2) → 
     True) ∧ ((¬ (a1 ≤ v2)) → 
     ((¬ ((mx_gf u 0 5) = 0)) → 
      True) ∧ (((mx_gf u 0 5) = 0) → 
      ((q_xm_doCycle np nd u)) ∧ (
       q_xm_run_l15 np nd a1 n (v2 + 1) (xm_doCycle np nd u))))
def xm_run (np nd : Nat) (a1 : Int32) (u : mx_S) : Int32 × mx_S :=
  if a1 < 0 then
   ((-1), u)
  else
   if a1 ≤ 2000 then
    xm_run_l15 np nd a1 2002 0 u
   else
    ((-1), u)
def q_xm_run (np nd : Nat) (a1 : Int32) (u : mx_S) : Prop :=
  ((a1 < 0) → 
   True) ∧ ((¬ (a1 < 0)) → 
   ((a1 ≤ 2000) → 
    q_xm_run_l15 np nd a1 2002 0 u) ∧ ((¬ (a1 ≤ 2000)) → 
    True))
def pre_xm_run (np nd : Nat) : List mx_V → mx_S → Prop := fun as u => ∃ (a1 : Int32), as = [.inr (.inr 0), .inl a1] ∧ q_xm_run np nd a1 u
def fn_xm_run (np nd : Nat) : mx_F := fun as u => match as with
  | [_, .inl a1] => mx_rB (xm_run np nd a1 u)
  | _ => (none, u)
def tb_xm_run (np nd : Nat) : List (Nat × mx_T) := [
  (0, mx_iload_n 1 0),
  (1, mx_if_lt 11 1),
  (4, mx_iload_n 1 4),
  (5, mx_sipush 2000 5),
  (8, mx_icmp_le 13 8),
  (11, mx_iconst (-1) 11),
  (12, mx_iret 12),
  (13, mx_iconst 0 13),
  (14, mx_istore_n 2 14),
  (15, mx_iload_n 2 15),
  (16, mx_iload_n 1 16),
  (17, mx_icmp_ge 37 17),
  (20, mx_aload_n 0 20),
  (21, mx_getf (kx np nd) 0 5 21),
  (24, mx_if_ne 37 24),
  (27, mx_aload_n 0 27),
  (28, mx_invV (kx np nd) 0 0 (pre_xm_doCycle np nd) (fn_xm_doCycle np nd) 28),
  (31, mx_iinc 2 1 31),
  (34, mx_goto 15 34),
  (37, mx_iload_n 2 37),
  (38, mx_iret 38)]
set_option maxRecDepth 100000 in
set_option maxHeartbeats 4000000 in
theorem ok_xm_run (l : Launch) (np nd : Nat) : ∀ q ∈ tb_xm_run np nd , mx_Ok l ({ frames := 6, cells := 0, slots := 0, locals := 133 } : Room) b_xm_run 3 "WideMachine" (some .int) vw_T vw_cl (kx np nd) q.1 q.2 := by
  refine List.forall_mem_cons.mpr ⟨mx_ok_iload_n (show decode b_xm_run 0 = .ok (.iload_n 1, 1) by decide +kernel) rfl, ?_⟩
  refine List.forall_mem_cons.mpr ⟨mx_ok_if_lt (show decode b_xm_run 1 = .ok (.ifCond .lt 10, 3) by decide +kernel) (by decide), ?_⟩
  refine List.forall_mem_cons.mpr ⟨mx_ok_iload_n (show decode b_xm_run 4 = .ok (.iload_n 1, 1) by decide +kernel) rfl, ?_⟩
  refine List.forall_mem_cons.mpr ⟨mx_ok_sipush (show decode b_xm_run 5 = .ok (.sipush 2000, 3) by decide +kernel) (by decide), ?_⟩
  refine List.forall_mem_cons.mpr ⟨mx_ok_icmp_le (show decode b_xm_run 8 = .ok (.if_icmp .le 5, 3) by decide +kernel) (by decide), ?_⟩
  refine List.forall_mem_cons.mpr ⟨mx_ok_iconst (show decode b_xm_run 11 = .ok (.iconst (-1), 1) by decide +kernel) (by decide), ?_⟩
  refine List.forall_mem_cons.mpr ⟨mx_ok_iret (show decode b_xm_run 12 = .ok (.ireturn, 1) by decide +kernel) rfl, ?_⟩
  refine List.forall_mem_cons.mpr ⟨mx_ok_iconst (show decode b_xm_run 13 = .ok (.iconst 0, 1) by decide +kernel) (by decide), ?_⟩
  refine List.forall_mem_cons.mpr ⟨mx_ok_istore_n (show decode b_xm_run 14 = .ok (.istore_n 2, 1) by decide +kernel) rfl (by decide), ?_⟩
  refine List.forall_mem_cons.mpr ⟨mx_ok_iload_n (show decode b_xm_run 15 = .ok (.iload_n 2, 1) by decide +kernel) rfl, ?_⟩
  refine List.forall_mem_cons.mpr ⟨mx_ok_iload_n (show decode b_xm_run 16 = .ok (.iload_n 1, 1) by decide +kernel) rfl, ?_⟩
  refine List.forall_mem_cons.mpr ⟨mx_ok_icmp_ge (show decode b_xm_run 17 = .ok (.if_icmp .ge 20, 3) by decide +kernel) (by decide), ?_⟩
  refine List.forall_mem_cons.mpr ⟨mx_ok_aload_n (show decode b_xm_run 20 = .ok (.aload_n 0, 1) by decide +kernel) rfl, ?_⟩
  refine List.forall_mem_cons.mpr ⟨mx_ok_getf fd_xm_41 (show decode b_xm_run 21 = .ok (.getfield 41, 3) by decide +kernel), ?_⟩
  refine List.forall_mem_cons.mpr ⟨mx_ok_if_ne (show decode b_xm_run 24 = .ok (.ifCond .ne 13, 3) by decide +kernel) (by decide), ?_⟩
  refine List.forall_mem_cons.mpr ⟨mx_ok_aload_n (show decode b_xm_run 27 = .ok (.aload_n 0, 1) by decide +kernel) rfl, ?_⟩
  refine List.forall_mem_cons.mpr ⟨mx_ok_invV vw_G (ct_xm_doCycle l np nd) ⟨vm_283, vm_284, vm_46, ⟨by decide +kernel, by decide +kernel, by decide +kernel⟩, ⟨by decide, by decide⟩, rfl, rfl⟩ vm_285 vm_286 rfl (show decode b_xm_run 28 = .ok (.invokevirtual 45, 3) by decide +kernel), ?_⟩
  refine List.forall_mem_cons.mpr ⟨mx_ok_iinc (show decode b_xm_run 31 = .ok (.iinc 2 1, 3) by decide +kernel) (by decide) (by decide), ?_⟩
  refine List.forall_mem_cons.mpr ⟨mx_ok_goto (show decode b_xm_run 34 = .ok (.goto (-19), 3) by decide +kernel) (by decide), ?_⟩
  refine List.forall_mem_cons.mpr ⟨mx_ok_iload_n (show decode b_xm_run 37 = .ok (.iload_n 2, 1) by decide +kernel) rfl, ?_⟩
  refine List.forall_mem_cons.mpr ⟨mx_ok_iret (show decode b_xm_run 38 = .ok (.ireturn, 1) by decide +kernel) rfl, ?_⟩
  exact fun _ h => absurd h List.not_mem_nil
set_option maxRecDepth 100000 in
set_option maxHeartbeats 4000000 in
theorem ct_xm_run (l : Launch) (np nd : Nat) : mx_Ct l vw_T vw_cl (kx np nd) { frames := 6, cells := 0, slots := 0, locals := 133 } y_xm_run b_xm_run 3 (some .int) (pre_xm_run np nd) (fn_xm_run np nd) := by
  refine mx_ct_of (tb_xm_run np nd ) (by decide) (ok_xm_run l np nd ) (fun as u h => by obtain ⟨_, rfl, -⟩ := h; exact Nat.le_of_ble_eq_true rfl) ?_
  intro as u hpre At hc hw
  obtain ⟨a1, rfl, hp⟩ := hpre
  obtain ⟨RES, hRES⟩ : ∃ z, z = (xm_run np nd a1 u) := ⟨_, rfl⟩
  have hfn : fn_xm_run np nd [.inr (.inr 0), .inl a1] u = mx_rB RES := by rw [hRES]; rfl
  rw [hfn] at hc
  have lp15 : ∀ (n15 : Nat) (v2 : Int32) (u : mx_S), q_xm_run_l15 np nd a1 n15 v2 u → xm_run_l15 np nd a1 n15 v2 u = RES → At 15 [(2, .inl v2), (0, .inr (.inr 0)), (1, .inl a1)] [] u := by
    intro n15
    induction n15 with
    | zero =>
      intro v2 u hi he
      exact hi.elim
    | succ n15 ih15 =>
      intro v2 u hi15 he15
      exact hc 200 [15] _ _ _ _ (
        And.intro (fun h17 => 
         congrArg mx_rB (show (v2, u) = RES from (if_pos h17).symm.trans he15)) (fun h17 => 
         And.intro (fun h24 => 
          congrArg mx_rB (show (v2, u) = RES from ((if_neg h17).trans (if_neg h24)).symm.trans he15)) (fun h24 => 
          And.intro rfl (
          And.intro ⟨rfl, ((hi15.2 h17).2 h24).1⟩ (
          hw [0, 1, 2] _ _ _ _ (ih15 (v2 + 1) (xm_doCycle np nd u) ((hi15.2 h17).2 h24).2 (((if_neg h17).trans (if_pos h24)).symm.trans he15)))))))
  exact hc 200 [15] _ _ _ _ (
    And.intro (fun h1 => 
     congrArg mx_rB (show ((-1), u) = RES from (if_pos h1).symm.trans hRES.symm)) (fun h1 => 
     And.intro (fun h8 => 
      hw [0, 1, 2] _ _ _ _ (lp15 2002 0 u ((hp.2 h1).1 h8) (((if_neg h1).trans (if_pos h8)).symm.trans hRES.symm))) (fun h8 => 
      congrArg mx_rB (show ((-1), u) = RES from ((if_neg h1).trans (if_neg h8)).symm.trans hRES.symm))))
/-! WideMachine.about(I)I -/
def xm_about (a1 : Int32) (u : mx_S) : Int32 :=
  if a1 = 0 then
   (mx_gf u 0 5)
  else
  if a1 = 1 then
   (mx_gf u 0 6)
  else
  if a1 = 2 then
   (mx_gf u 0 7)
  else
  if a1 = 3 then
   (mx_gf u 4 3)
  else
  if a1 = 4 then
   (mx_gf u 8 2)
  else
  if a1 = 5 then
   (mx_gf u 0 8)
  else
  if a1 = 6 then
   (mx_gf u 0 9)
  else
  if a1 = 7 then
   if (mx_gf u 0 11) = 0 then
    0
   else
    1
  else
  if a1 = 8 then
   (mx_gf u 0 10)
  else
  (-1)
def pre_xm_about (np nd : Nat) : List mx_V → mx_S → Prop := fun as u => ∃ (a1 : Int32), as = [.inr (.inr 0), .inl a1] ∧ True
def fn_xm_about (np nd : Nat) : mx_F := fun as u => match as with
  | [_, .inl a1] => mx_rI u (xm_about a1 u)
  | _ => (none, u)
def tb_xm_about (np nd : Nat) : List (Nat × mx_T) := [
  (0, mx_iload_n 1 0),
  (1, mx_tsw 111 [(0, 52), (1, 57), (2, 62), (3, 67), (4, 75), (5, 83), (6, 88), (7, 93), (8, 106)] 1),
  (52, mx_aload_n 0 52),
  (53, mx_getf (kx np nd) 0 5 53),
  (56, mx_iret 56),
  (57, mx_aload_n 0 57),
  (58, mx_getf (kx np nd) 0 6 58),
  (61, mx_iret 61),
  (62, mx_aload_n 0 62),
  (63, mx_getf (kx np nd) 0 7 63),
  (66, mx_iret 66),
  (67, mx_aload_n 0 67),
  (68, mx_getf (kx np nd) 0 3 68),
  (71, mx_getf (kx np nd) 1 3 71),
  (74, mx_iret 74),
  (75, mx_aload_n 0 75),
  (76, mx_getf (kx np nd) 0 4 76),
  (79, mx_getf (kx np nd) 2 2 79),
  (82, mx_iret 82),
  (83, mx_aload_n 0 83),
  (84, mx_getf (kx np nd) 0 8 84),
  (87, mx_iret 87),
  (88, mx_aload_n 0 88),
  (89, mx_getf (kx np nd) 0 9 89),
  (92, mx_iret 92),
  (93, mx_aload_n 0 93),
  (94, mx_getf (kx np nd) 0 11 94),
  (97, mx_if_eq 104 97),
  (100, mx_iconst 1 100),
  (101, mx_goto 105 101),
  (104, mx_iconst 0 104),
  (105, mx_iret 105),
  (106, mx_aload_n 0 106),
  (107, mx_getf (kx np nd) 0 10 107),
  (110, mx_iret 110),
  (111, mx_iconst (-1) 111),
  (112, mx_iret 112)]
set_option maxRecDepth 100000 in
set_option maxHeartbeats 4000000 in
theorem ok_xm_about (l : Launch) (np nd : Nat) : ∀ q ∈ tb_xm_about np nd , mx_Ok l ({ frames := 0, cells := 0, slots := 0, locals := 0 } : Room) b_xm_about 2 "WideMachine" (some .int) vw_T vw_cl (kx np nd) q.1 q.2 := by
  refine List.forall_mem_cons.mpr ⟨mx_ok_iload_n (show decode b_xm_about 0 = .ok (.iload_n 1, 1) by decide +kernel) rfl, ?_⟩
  refine List.forall_mem_cons.mpr ⟨mx_ok_tsw (show decode b_xm_about 1 = .ok (.tableswitch 110 0 8 #[51, 56, 61, 66, 74, 82, 87, 92, 105], 51) by decide +kernel) (by decide) (by decide), ?_⟩
  refine List.forall_mem_cons.mpr ⟨mx_ok_aload_n (show decode b_xm_about 52 = .ok (.aload_n 0, 1) by decide +kernel) rfl, ?_⟩
  refine List.forall_mem_cons.mpr ⟨mx_ok_getf fd_xm_41 (show decode b_xm_about 53 = .ok (.getfield 41, 3) by decide +kernel), ?_⟩
  refine List.forall_mem_cons.mpr ⟨mx_ok_iret (show decode b_xm_about 56 = .ok (.ireturn, 1) by decide +kernel) rfl, ?_⟩
  refine List.forall_mem_cons.mpr ⟨mx_ok_aload_n (show decode b_xm_about 57 = .ok (.aload_n 0, 1) by decide +kernel) rfl, ?_⟩
  refine List.forall_mem_cons.mpr ⟨mx_ok_getf fd_xm_48 (show decode b_xm_about 58 = .ok (.getfield 48, 3) by decide +kernel), ?_⟩
  refine List.forall_mem_cons.mpr ⟨mx_ok_iret (show decode b_xm_about 61 = .ok (.ireturn, 1) by decide +kernel) rfl, ?_⟩
  refine List.forall_mem_cons.mpr ⟨mx_ok_aload_n (show decode b_xm_about 62 = .ok (.aload_n 0, 1) by decide +kernel) rfl, ?_⟩
  refine List.forall_mem_cons.mpr ⟨mx_ok_getf fd_xm_51 (show decode b_xm_about 63 = .ok (.getfield 51, 3) by decide +kernel), ?_⟩
  refine List.forall_mem_cons.mpr ⟨mx_ok_iret (show decode b_xm_about 66 = .ok (.ireturn, 1) by decide +kernel) rfl, ?_⟩
  refine List.forall_mem_cons.mpr ⟨mx_ok_aload_n (show decode b_xm_about 67 = .ok (.aload_n 0, 1) by decide +kernel) rfl, ?_⟩
  refine List.forall_mem_cons.mpr ⟨mx_ok_getf fd_xm_26 (show decode b_xm_about 68 = .ok (.getfield 26, 3) by decide +kernel), ?_⟩
  refine List.forall_mem_cons.mpr ⟨mx_ok_getf fd_xm_54 (show decode b_xm_about 71 = .ok (.getfield 54, 3) by decide +kernel), ?_⟩
  refine List.forall_mem_cons.mpr ⟨mx_ok_iret (show decode b_xm_about 74 = .ok (.ireturn, 1) by decide +kernel) rfl, ?_⟩
  refine List.forall_mem_cons.mpr ⟨mx_ok_aload_n (show decode b_xm_about 75 = .ok (.aload_n 0, 1) by decide +kernel) rfl, ?_⟩
  refine List.forall_mem_cons.mpr ⟨mx_ok_getf fd_xm_33 (show decode b_xm_about 76 = .ok (.getfield 33, 3) by decide +kernel), ?_⟩
  refine List.forall_mem_cons.mpr ⟨mx_ok_getf fd_xm_57 (show decode b_xm_about 79 = .ok (.getfield 57, 3) by decide +kernel), ?_⟩
  refine List.forall_mem_cons.mpr ⟨mx_ok_iret (show decode b_xm_about 82 = .ok (.ireturn, 1) by decide +kernel) rfl, ?_⟩
  refine List.forall_mem_cons.mpr ⟨mx_ok_aload_n (show decode b_xm_about 83 = .ok (.aload_n 0, 1) by decide +kernel) rfl, ?_⟩
  refine List.forall_mem_cons.mpr ⟨mx_ok_getf fd_xm_58 (show decode b_xm_about 84 = .ok (.getfield 58, 3) by decide +kernel), ?_⟩
  refine List.forall_mem_cons.mpr ⟨mx_ok_iret (show decode b_xm_about 87 = .ok (.ireturn, 1) by decide +kernel) rfl, ?_⟩
  refine List.forall_mem_cons.mpr ⟨mx_ok_aload_n (show decode b_xm_about 88 = .ok (.aload_n 0, 1) by decide +kernel) rfl, ?_⟩
  refine List.forall_mem_cons.mpr ⟨mx_ok_getf fd_xm_61 (show decode b_xm_about 89 = .ok (.getfield 61, 3) by decide +kernel), ?_⟩
  refine List.forall_mem_cons.mpr ⟨mx_ok_iret (show decode b_xm_about 92 = .ok (.ireturn, 1) by decide +kernel) rfl, ?_⟩
  refine List.forall_mem_cons.mpr ⟨mx_ok_aload_n (show decode b_xm_about 93 = .ok (.aload_n 0, 1) by decide +kernel) rfl, ?_⟩
  refine List.forall_mem_cons.mpr ⟨mx_ok_getf fd_xm_64 (show decode b_xm_about 94 = .ok (.getfield 64, 3) by decide +kernel), ?_⟩
  refine List.forall_mem_cons.mpr ⟨mx_ok_if_eq (show decode b_xm_about 97 = .ok (.ifCond .eq 7, 3) by decide +kernel) (by decide), ?_⟩
  refine List.forall_mem_cons.mpr ⟨mx_ok_iconst (show decode b_xm_about 100 = .ok (.iconst 1, 1) by decide +kernel) (by decide), ?_⟩
  refine List.forall_mem_cons.mpr ⟨mx_ok_goto (show decode b_xm_about 101 = .ok (.goto 4, 3) by decide +kernel) (by decide), ?_⟩
  refine List.forall_mem_cons.mpr ⟨mx_ok_iconst (show decode b_xm_about 104 = .ok (.iconst 0, 1) by decide +kernel) (by decide), ?_⟩
  refine List.forall_mem_cons.mpr ⟨mx_ok_iret (show decode b_xm_about 105 = .ok (.ireturn, 1) by decide +kernel) rfl, ?_⟩
  refine List.forall_mem_cons.mpr ⟨mx_ok_aload_n (show decode b_xm_about 106 = .ok (.aload_n 0, 1) by decide +kernel) rfl, ?_⟩
  refine List.forall_mem_cons.mpr ⟨mx_ok_getf fd_xm_68 (show decode b_xm_about 107 = .ok (.getfield 68, 3) by decide +kernel), ?_⟩
  refine List.forall_mem_cons.mpr ⟨mx_ok_iret (show decode b_xm_about 110 = .ok (.ireturn, 1) by decide +kernel) rfl, ?_⟩
  refine List.forall_mem_cons.mpr ⟨mx_ok_iconst (show decode b_xm_about 111 = .ok (.iconst (-1), 1) by decide +kernel) (by decide), ?_⟩
  refine List.forall_mem_cons.mpr ⟨mx_ok_iret (show decode b_xm_about 112 = .ok (.ireturn, 1) by decide +kernel) rfl, ?_⟩
  exact fun _ h => absurd h List.not_mem_nil
set_option maxRecDepth 100000 in
set_option maxHeartbeats 4000000 in
theorem ct_xm_about (l : Launch) (np nd : Nat) : mx_Ct l vw_T vw_cl (kx np nd) { frames := 0, cells := 0, slots := 0, locals := 0 } y_xm_about b_xm_about 2 (some .int) (pre_xm_about np nd) (fn_xm_about np nd) := by
  refine mx_ct_of (tb_xm_about np nd ) (by decide) (ok_xm_about l np nd ) (fun as u h => by obtain ⟨_, rfl, -⟩ := h; exact Nat.le_of_ble_eq_true rfl) ?_
  intro as u hpre At hc hw
  obtain ⟨a1, rfl, hp⟩ := hpre
  exact hc 200 [] _ _ _ _ (
    And.intro (fun h1_0 => 
     congrArg (mx_rI u) (show (mx_gf u 0 5) = (xm_about a1 u) from (if_pos h1_0).symm)) (fun h1_0 => 
    And.intro (fun h1_1 => 
     congrArg (mx_rI u) (show (mx_gf u 0 6) = (xm_about a1 u) from ((if_neg h1_0).trans (if_pos h1_1)).symm)) (fun h1_1 => 
    And.intro (fun h1_2 => 
     congrArg (mx_rI u) (show (mx_gf u 0 7) = (xm_about a1 u) from ((if_neg h1_0).trans ((if_neg h1_1).trans (if_pos h1_2))).symm)) (fun h1_2 => 
    And.intro (fun h1_3 => 
     congrArg (mx_rI u) (show (mx_gf u 4 3) = (xm_about a1 u) from ((if_neg h1_0).trans ((if_neg h1_1).trans ((if_neg h1_2).trans (if_pos h1_3)))).symm)) (fun h1_3 => 
    And.intro (fun h1_4 => 
     congrArg (mx_rI u) (show (mx_gf u 8 2) = (xm_about a1 u) from ((if_neg h1_0).trans ((if_neg h1_1).trans ((if_neg h1_2).trans ((if_neg h1_3).trans (if_pos h1_4))))).symm)) (fun h1_4 => 
    And.intro (fun h1_5 => 
     congrArg (mx_rI u) (show (mx_gf u 0 8) = (xm_about a1 u) from ((if_neg h1_0).trans ((if_neg h1_1).trans ((if_neg h1_2).trans ((if_neg h1_3).trans ((if_neg h1_4).trans (if_pos h1_5)))))).symm)) (fun h1_5 => 
    And.intro (fun h1_6 => 
     congrArg (mx_rI u) (show (mx_gf u 0 9) = (xm_about a1 u) from ((if_neg h1_0).trans ((if_neg h1_1).trans ((if_neg h1_2).trans ((if_neg h1_3).trans ((if_neg h1_4).trans ((if_neg h1_5).trans (if_pos h1_6))))))).symm)) (fun h1_6 => 
    And.intro (fun h1_7 => 
     And.intro (fun h97 => 
      congrArg (mx_rI u) (show 0 = (xm_about a1 u) from ((if_neg h1_0).trans ((if_neg h1_1).trans ((if_neg h1_2).trans ((if_neg h1_3).trans ((if_neg h1_4).trans ((if_neg h1_5).trans ((if_neg h1_6).trans ((if_pos h1_7).trans (if_pos h97))))))))).symm)) (fun h97 => 
      congrArg (mx_rI u) (show 1 = (xm_about a1 u) from ((if_neg h1_0).trans ((if_neg h1_1).trans ((if_neg h1_2).trans ((if_neg h1_3).trans ((if_neg h1_4).trans ((if_neg h1_5).trans ((if_neg h1_6).trans ((if_pos h1_7).trans (if_neg h97))))))))).symm))) (fun h1_7 => 
    And.intro (fun h1_8 => 
     congrArg (mx_rI u) (show (mx_gf u 0 10) = (xm_about a1 u) from ((if_neg h1_0).trans ((if_neg h1_1).trans ((if_neg h1_2).trans ((if_neg h1_3).trans ((if_neg h1_4).trans ((if_neg h1_5).trans ((if_neg h1_6).trans ((if_neg h1_7).trans (if_pos h1_8))))))))).symm)) (fun h1_8 => 
     congrArg (mx_rI u) (show (-1) = (xm_about a1 u) from ((if_neg h1_0).trans ((if_neg h1_1).trans ((if_neg h1_2).trans ((if_neg h1_3).trans ((if_neg h1_4).trans ((if_neg h1_5).trans ((if_neg h1_6).trans ((if_neg h1_7).trans (if_neg h1_8))))))))).symm)))))))))))
/-! WideMachine.due(II)I -/
def xm_due (a1 : Int32) (a2 : Int32) (u : mx_S) : Int32 :=
  if a1 < 0 then
   (-1)
  else
   if a1 < (mx_gf u 4 3) then
    if a2 = 0 then
     (mx_ga u 5 (a1).toNatClampNeg)
    else
    if a2 = 1 then
     (mx_ga u 6 (a1).toNatClampNeg)
    else
    if a2 = 2 then
     (mx_ga u 7 (a1).toNatClampNeg)
    else
    (-1)
   else
    (-1)
def q_xm_due (np nd : Nat) (a1 : Int32) (a2 : Int32) (u : mx_S) : Prop :=
  ((a1 < 0) → 
   True) ∧ ((¬ (a1 < 0)) → 
   ((a1 < (mx_gf u 4 3)) → 
    ((a2 = 0) → 
     (vp_in a1 18)) ∧ (¬ (a2 = 0) → 
    ((a2 = 1) → 
     (vp_in a1 18)) ∧ (¬ (a2 = 1) → 
    ((a2 = 2) → 
     (vp_in a1 18)) ∧ (¬ (a2 = 2) → 
     True)))) ∧ ((¬ (a1 < (mx_gf u 4 3))) → 
    True))
def pre_xm_due (np nd : Nat) : List mx_V → mx_S → Prop := fun as u => ∃ (a1 : Int32) (a2 : Int32), as = [.inr (.inr 0), .inl a1, .inl a2] ∧ q_xm_due np nd a1 a2 u
def fn_xm_due (np nd : Nat) : mx_F := fun as u => match as with
  | [_, .inl a1, .inl a2] => mx_rI u (xm_due a1 a2 u)
  | _ => (none, u)
def tb_xm_due (np nd : Nat) : List (Nat × mx_T) := [
  (0, mx_iload_n 1 0),
  (1, mx_if_lt 15 1),
  (4, mx_iload_n 1 4),
  (5, mx_aload_n 0 5),
  (6, mx_getf (kx np nd) 0 3 6),
  (9, mx_getf (kx np nd) 1 3 9),
  (12, mx_icmp_lt 17 12),
  (15, mx_iconst (-1) 15),
  (16, mx_iret 16),
  (17, mx_iload_n 2 17),
  (18, mx_tsw 74 [(0, 44), (1, 54), (2, 64)] 18),
  (44, mx_aload_n 0 44),
  (45, mx_getf (kx np nd) 0 3 45),
  (48, mx_getf (kx np nd) 1 0 48),
  (51, mx_iload_n 1 51),
  (52, mx_iald (kx np nd) 52),
  (53, mx_iret 53),
  (54, mx_aload_n 0 54),
  (55, mx_getf (kx np nd) 0 3 55),
  (58, mx_getf (kx np nd) 1 1 58),
  (61, mx_iload_n 1 61),
  (62, mx_iald (kx np nd) 62),
  (63, mx_iret 63),
  (64, mx_aload_n 0 64),
  (65, mx_getf (kx np nd) 0 3 65),
  (68, mx_getf (kx np nd) 1 2 68),
  (71, mx_iload_n 1 71),
  (72, mx_iald (kx np nd) 72),
  (73, mx_iret 73),
  (74, mx_iconst (-1) 74),
  (75, mx_iret 75)]
set_option maxRecDepth 100000 in
set_option maxHeartbeats 4000000 in
theorem ok_xm_due (l : Launch) (np nd : Nat) : ∀ q ∈ tb_xm_due np nd , mx_Ok l ({ frames := 0, cells := 0, slots := 0, locals := 0 } : Room) b_xm_due 3 "WideMachine" (some .int) vw_T vw_cl (kx np nd) q.1 q.2 := by
  refine List.forall_mem_cons.mpr ⟨mx_ok_iload_n (show decode b_xm_due 0 = .ok (.iload_n 1, 1) by decide +kernel) rfl, ?_⟩
  refine List.forall_mem_cons.mpr ⟨mx_ok_if_lt (show decode b_xm_due 1 = .ok (.ifCond .lt 14, 3) by decide +kernel) (by decide), ?_⟩
  refine List.forall_mem_cons.mpr ⟨mx_ok_iload_n (show decode b_xm_due 4 = .ok (.iload_n 1, 1) by decide +kernel) rfl, ?_⟩
  refine List.forall_mem_cons.mpr ⟨mx_ok_aload_n (show decode b_xm_due 5 = .ok (.aload_n 0, 1) by decide +kernel) rfl, ?_⟩
  refine List.forall_mem_cons.mpr ⟨mx_ok_getf fd_xm_26 (show decode b_xm_due 6 = .ok (.getfield 26, 3) by decide +kernel), ?_⟩
  refine List.forall_mem_cons.mpr ⟨mx_ok_getf fd_xm_54 (show decode b_xm_due 9 = .ok (.getfield 54, 3) by decide +kernel), ?_⟩
  refine List.forall_mem_cons.mpr ⟨mx_ok_icmp_lt (show decode b_xm_due 12 = .ok (.if_icmp .lt 5, 3) by decide +kernel) (by decide), ?_⟩
  refine List.forall_mem_cons.mpr ⟨mx_ok_iconst (show decode b_xm_due 15 = .ok (.iconst (-1), 1) by decide +kernel) (by decide), ?_⟩
  refine List.forall_mem_cons.mpr ⟨mx_ok_iret (show decode b_xm_due 16 = .ok (.ireturn, 1) by decide +kernel) rfl, ?_⟩
  refine List.forall_mem_cons.mpr ⟨mx_ok_iload_n (show decode b_xm_due 17 = .ok (.iload_n 2, 1) by decide +kernel) rfl, ?_⟩
  refine List.forall_mem_cons.mpr ⟨mx_ok_tsw (show decode b_xm_due 18 = .ok (.tableswitch 56 0 2 #[26, 36, 46], 26) by decide +kernel) (by decide) (by decide), ?_⟩
  refine List.forall_mem_cons.mpr ⟨mx_ok_aload_n (show decode b_xm_due 44 = .ok (.aload_n 0, 1) by decide +kernel) rfl, ?_⟩
  refine List.forall_mem_cons.mpr ⟨mx_ok_getf fd_xm_26 (show decode b_xm_due 45 = .ok (.getfield 26, 3) by decide +kernel), ?_⟩
  refine List.forall_mem_cons.mpr ⟨mx_ok_getf fd_xm_71 (show decode b_xm_due 48 = .ok (.getfield 71, 3) by decide +kernel), ?_⟩
  refine List.forall_mem_cons.mpr ⟨mx_ok_iload_n (show decode b_xm_due 51 = .ok (.iload_n 1, 1) by decide +kernel) rfl, ?_⟩
  refine List.forall_mem_cons.mpr ⟨mx_ok_iald (show decode b_xm_due 52 = .ok (.iaload, 1) by decide +kernel), ?_⟩
  refine List.forall_mem_cons.mpr ⟨mx_ok_iret (show decode b_xm_due 53 = .ok (.ireturn, 1) by decide +kernel) rfl, ?_⟩
  refine List.forall_mem_cons.mpr ⟨mx_ok_aload_n (show decode b_xm_due 54 = .ok (.aload_n 0, 1) by decide +kernel) rfl, ?_⟩
  refine List.forall_mem_cons.mpr ⟨mx_ok_getf fd_xm_26 (show decode b_xm_due 55 = .ok (.getfield 26, 3) by decide +kernel), ?_⟩
  refine List.forall_mem_cons.mpr ⟨mx_ok_getf fd_xm_74 (show decode b_xm_due 58 = .ok (.getfield 74, 3) by decide +kernel), ?_⟩
  refine List.forall_mem_cons.mpr ⟨mx_ok_iload_n (show decode b_xm_due 61 = .ok (.iload_n 1, 1) by decide +kernel) rfl, ?_⟩
  refine List.forall_mem_cons.mpr ⟨mx_ok_iald (show decode b_xm_due 62 = .ok (.iaload, 1) by decide +kernel), ?_⟩
  refine List.forall_mem_cons.mpr ⟨mx_ok_iret (show decode b_xm_due 63 = .ok (.ireturn, 1) by decide +kernel) rfl, ?_⟩
  refine List.forall_mem_cons.mpr ⟨mx_ok_aload_n (show decode b_xm_due 64 = .ok (.aload_n 0, 1) by decide +kernel) rfl, ?_⟩
  refine List.forall_mem_cons.mpr ⟨mx_ok_getf fd_xm_26 (show decode b_xm_due 65 = .ok (.getfield 26, 3) by decide +kernel), ?_⟩
  refine List.forall_mem_cons.mpr ⟨mx_ok_getf fd_xm_77 (show decode b_xm_due 68 = .ok (.getfield 77, 3) by decide +kernel), ?_⟩
  refine List.forall_mem_cons.mpr ⟨mx_ok_iload_n (show decode b_xm_due 71 = .ok (.iload_n 1, 1) by decide +kernel) rfl, ?_⟩
  refine List.forall_mem_cons.mpr ⟨mx_ok_iald (show decode b_xm_due 72 = .ok (.iaload, 1) by decide +kernel), ?_⟩
  refine List.forall_mem_cons.mpr ⟨mx_ok_iret (show decode b_xm_due 73 = .ok (.ireturn, 1) by decide +kernel) rfl, ?_⟩
  refine List.forall_mem_cons.mpr ⟨mx_ok_iconst (show decode b_xm_due 74 = .ok (.iconst (-1), 1) by decide +kernel) (by decide), ?_⟩
  refine List.forall_mem_cons.mpr ⟨mx_ok_iret (show decode b_xm_due 75 = .ok (.ireturn, 1) by decide +kernel) rfl, ?_⟩
  exact fun _ h => absurd h List.not_mem_nil
set_option maxRecDepth 100000 in
set_option maxHeartbeats 4000000 in
theorem ct_xm_due (l : Launch) (np nd : Nat) : mx_Ct l vw_T vw_cl (kx np nd) { frames := 0, cells := 0, slots := 0, locals := 0 } y_xm_due b_xm_due 3 (some .int) (pre_xm_due np nd) (fn_xm_due np nd) := by
  refine mx_ct_of (tb_xm_due np nd ) (by decide) (ok_xm_due l np nd ) (fun as u h => by obtain ⟨_, _, rfl, -⟩ := h; exact Nat.le_of_ble_eq_true rfl) ?_
  intro as u hpre At hc hw
  obtain ⟨a1, a2, rfl, hp⟩ := hpre
  exact hc 200 [] _ _ _ _ (
    And.intro (fun h1 => 
     congrArg (mx_rI u) (show (-1) = (xm_due a1 a2 u) from (if_pos h1).symm)) (fun h1 => 
     And.intro (fun h12 => 
      And.intro (fun h18_0 => 
       And.intro ((((hp.2 h1).1 h12).1 h18_0)) (
       congrArg (mx_rI u) (show (mx_ga u 5 (a1).toNatClampNeg) = (xm_due a1 a2 u) from ((if_neg h1).trans ((if_pos h12).trans (if_pos h18_0))).symm))) (fun h18_0 => 
      And.intro (fun h18_1 => 
       And.intro (((((hp.2 h1).1 h12).2 h18_0).1 h18_1)) (
       congrArg (mx_rI u) (show (mx_ga u 6 (a1).toNatClampNeg) = (xm_due a1 a2 u) from ((if_neg h1).trans ((if_pos h12).trans ((if_neg h18_0).trans (if_pos h18_1)))).symm))) (fun h18_1 => 
      And.intro (fun h18_2 => 
       And.intro ((((((hp.2 h1).1 h12).2 h18_0).2 h18_1).1 h18_2)) (
       congrArg (mx_rI u) (show (mx_ga u 7 (a1).toNatClampNeg) = (xm_due a1 a2 u) from ((if_neg h1).trans ((if_pos h12).trans ((if_neg h18_0).trans ((if_neg h18_1).trans (if_pos h18_2))))).symm))) (fun h18_2 => 
       congrArg (mx_rI u) (show (-1) = (xm_due a1 a2 u) from ((if_neg h1).trans ((if_pos h12).trans ((if_neg h18_0).trans ((if_neg h18_1).trans (if_neg h18_2))))).symm))))) (fun h12 => 
      congrArg (mx_rI u) (show (-1) = (xm_due a1 a2 u) from ((if_neg h1).trans (if_neg h12)).symm))))
/-! WideMachine.raise(I)Z -/
def xm_raise (a1 : Int32) (u : mx_S) : Int32 × mx_S :=
  if a1 < 0 then
   (0, u)
  else
   if 4 ≤ a1 then
    (0, u)
   else
    if (xm_isRaised a1 u) = 0 then
     (1, (mx_sf u 0 10 ((mx_gf u 0 10) ||| ((1 : Int32) <<< (a1 &&& 31)))))
    else
     (0, u)
def pre_xm_raise (np nd : Nat) : List mx_V → mx_S → Prop := fun as u => ∃ (a1 : Int32), as = [.inr (.inr 0), .inl a1] ∧ True
def fn_xm_raise (np nd : Nat) : mx_F := fun as u => match as with
  | [_, .inl a1] => mx_rB (xm_raise a1 u)
  | _ => (none, u)
def tb_xm_raise (np nd : Nat) : List (Nat × mx_T) := [
  (0, mx_iload_n 1 0),
  (1, mx_if_lt 17 1),
  (4, mx_iload_n 1 4),
  (5, mx_iconst 4 5),
  (6, mx_icmp_ge 17 6),
  (9, mx_aload_n 0 9),
  (10, mx_iload_n 1 10),
  (11, mx_invV (kx np nd) 0 1 (pre_xm_isRaised np nd) (fn_xm_isRaised np nd) 11),
  (14, mx_if_eq 19 14),
  (17, mx_iconst 0 17),
  (18, mx_zret 18),
  (19, mx_aload_n 0 19),
  (20, mx_dup 20),
  (21, mx_getf (kx np nd) 0 10 21),
  (24, mx_iconst 1 24),
  (25, mx_iload_n 1 25),
  (26, mx_ishl 26),
  (27, mx_ior 27),
  (28, mx_putf (kx np nd) 0 10 28),
  (31, mx_iconst 1 31),
  (32, mx_zret 32)]
set_option maxRecDepth 100000 in
set_option maxHeartbeats 4000000 in
theorem ok_xm_raise (l : Launch) (np nd : Nat) : ∀ q ∈ tb_xm_raise np nd , mx_Ok l ({ frames := 1, cells := 0, slots := 0, locals := 21 } : Room) b_xm_raise 2 "WideMachine" (some .boolean) vw_T vw_cl (kx np nd) q.1 q.2 := by
  refine List.forall_mem_cons.mpr ⟨mx_ok_iload_n (show decode b_xm_raise 0 = .ok (.iload_n 1, 1) by decide +kernel) rfl, ?_⟩
  refine List.forall_mem_cons.mpr ⟨mx_ok_if_lt (show decode b_xm_raise 1 = .ok (.ifCond .lt 16, 3) by decide +kernel) (by decide), ?_⟩
  refine List.forall_mem_cons.mpr ⟨mx_ok_iload_n (show decode b_xm_raise 4 = .ok (.iload_n 1, 1) by decide +kernel) rfl, ?_⟩
  refine List.forall_mem_cons.mpr ⟨mx_ok_iconst (show decode b_xm_raise 5 = .ok (.iconst 4, 1) by decide +kernel) (by decide), ?_⟩
  refine List.forall_mem_cons.mpr ⟨mx_ok_icmp_ge (show decode b_xm_raise 6 = .ok (.if_icmp .ge 11, 3) by decide +kernel) (by decide), ?_⟩
  refine List.forall_mem_cons.mpr ⟨mx_ok_aload_n (show decode b_xm_raise 9 = .ok (.aload_n 0, 1) by decide +kernel) rfl, ?_⟩
  refine List.forall_mem_cons.mpr ⟨mx_ok_iload_n (show decode b_xm_raise 10 = .ok (.iload_n 1, 1) by decide +kernel) rfl, ?_⟩
  refine List.forall_mem_cons.mpr ⟨mx_ok_invV vw_G (ct_xm_isRaised l np nd) ⟨vm_90, vm_91, vm_46, ⟨by decide +kernel, by decide +kernel, by decide +kernel⟩, ⟨by decide, by decide⟩, rfl, rfl⟩ vm_92 vm_93 rfl (show decode b_xm_raise 11 = .ok (.invokevirtual 80, 3) by decide +kernel), ?_⟩
  refine List.forall_mem_cons.mpr ⟨mx_ok_if_eq (show decode b_xm_raise 14 = .ok (.ifCond .eq 5, 3) by decide +kernel) (by decide), ?_⟩
  refine List.forall_mem_cons.mpr ⟨mx_ok_iconst (show decode b_xm_raise 17 = .ok (.iconst 0, 1) by decide +kernel) (by decide), ?_⟩
  refine List.forall_mem_cons.mpr ⟨mx_ok_zret (show decode b_xm_raise 18 = .ok (.ireturn, 1) by decide +kernel) rfl, ?_⟩
  refine List.forall_mem_cons.mpr ⟨mx_ok_aload_n (show decode b_xm_raise 19 = .ok (.aload_n 0, 1) by decide +kernel) rfl, ?_⟩
  refine List.forall_mem_cons.mpr ⟨mx_ok_dup (show decode b_xm_raise 20 = .ok (.dup, 1) by decide +kernel), ?_⟩
  refine List.forall_mem_cons.mpr ⟨mx_ok_getf fd_xm_68 (show decode b_xm_raise 21 = .ok (.getfield 68, 3) by decide +kernel), ?_⟩
  refine List.forall_mem_cons.mpr ⟨mx_ok_iconst (show decode b_xm_raise 24 = .ok (.iconst 1, 1) by decide +kernel) (by decide), ?_⟩
  refine List.forall_mem_cons.mpr ⟨mx_ok_iload_n (show decode b_xm_raise 25 = .ok (.iload_n 1, 1) by decide +kernel) rfl, ?_⟩
  refine List.forall_mem_cons.mpr ⟨mx_ok_ishl (show decode b_xm_raise 26 = .ok (.ishl, 1) by decide +kernel), ?_⟩
  refine List.forall_mem_cons.mpr ⟨mx_ok_ior (show decode b_xm_raise 27 = .ok (.ior, 1) by decide +kernel), ?_⟩
  refine List.forall_mem_cons.mpr ⟨mx_ok_putf fd_xm_68 fw_0_10 (show decode b_xm_raise 28 = .ok (.putfield 68, 3) by decide +kernel), ?_⟩
  refine List.forall_mem_cons.mpr ⟨mx_ok_iconst (show decode b_xm_raise 31 = .ok (.iconst 1, 1) by decide +kernel) (by decide), ?_⟩
  refine List.forall_mem_cons.mpr ⟨mx_ok_zret (show decode b_xm_raise 32 = .ok (.ireturn, 1) by decide +kernel) rfl, ?_⟩
  exact fun _ h => absurd h List.not_mem_nil
set_option maxRecDepth 100000 in
set_option maxHeartbeats 4000000 in
theorem ct_xm_raise (l : Launch) (np nd : Nat) : mx_Ct l vw_T vw_cl (kx np nd) { frames := 1, cells := 0, slots := 0, locals := 21 } y_xm_raise b_xm_raise 2 (some .boolean) (pre_xm_raise np nd) (fn_xm_raise np nd) := by
  refine mx_ct_of (tb_xm_raise np nd ) (by decide) (ok_xm_raise l np nd ) (fun as u h => by obtain ⟨_, rfl, -⟩ := h; exact Nat.le_of_ble_eq_true rfl) ?_
  intro as u hpre At hc hw
  obtain ⟨a1, rfl, hp⟩ := hpre
  exact hc 200 [] _ _ _ _ (
    And.intro (fun h1 => 
     And.intro (Or.inl rfl) (
     congrArg mx_rB (show (0, u) = (xm_raise a1 u) from (if_pos h1).symm))) (fun h1 => 
     And.intro (fun h6 => 
      And.intro (Or.inl rfl) (
      congrArg mx_rB (show (0, u) = (xm_raise a1 u) from ((if_neg h1).trans (if_pos h6)).symm))) (fun h6 => 
      And.intro rfl (
      And.intro ⟨_, rfl, trivial⟩ (
      And.intro (fun h14 => 
       And.intro rfl (
       And.intro (Or.inr rfl) (
       congrArg mx_rB (show (1, (mx_sf u 0 10 ((mx_gf u 0 10) ||| ((1 : Int32) <<< (a1 &&& 31))))) = (xm_raise a1 u) from ((if_neg h1).trans ((if_neg h6).trans (if_pos h14))).symm)))) (fun h14 => 
       And.intro (Or.inl rfl) (
       congrArg mx_rB (show (0, u) = (xm_raise a1 u) from ((if_neg h1).trans ((if_neg h6).trans (if_neg h14))).symm))))))))
/-! WideMachine.letIn(Z)V -/
def xm_letIn (a1 : Int32) (u : mx_S) : mx_S :=
  (mx_sf u 0 11 a1)
def pre_xm_letIn (np nd : Nat) : List mx_V → mx_S → Prop := fun as u => ∃ (a1 : Int32), as = [.inr (.inr 0), .inl a1] ∧ True
def fn_xm_letIn (np nd : Nat) : mx_F := fun as u => match as with
  | [_, .inl a1] => (none, (xm_letIn a1 u))
  | _ => (none, u)
def tb_xm_letIn (np nd : Nat) : List (Nat × mx_T) := [
  (0, mx_aload_n 0 0),
  (1, mx_iload_n 1 1),
  (2, mx_putz (kx np nd) 0 11 2),
  (5, mx_vret 5)]
set_option maxRecDepth 100000 in
set_option maxHeartbeats 4000000 in
theorem ok_xm_letIn (l : Launch) (np nd : Nat) : ∀ q ∈ tb_xm_letIn np nd , mx_Ok l ({ frames := 0, cells := 0, slots := 0, locals := 0 } : Room) b_xm_letIn 2 "WideMachine" none vw_T vw_cl (kx np nd) q.1 q.2 := by
  refine List.forall_mem_cons.mpr ⟨mx_ok_aload_n (show decode b_xm_letIn 0 = .ok (.aload_n 0, 1) by decide +kernel) rfl, ?_⟩
  refine List.forall_mem_cons.mpr ⟨mx_ok_iload_n (show decode b_xm_letIn 1 = .ok (.iload_n 1, 1) by decide +kernel) rfl, ?_⟩
  refine List.forall_mem_cons.mpr ⟨mx_ok_putz fd_xm_64 fw_0_11 (show decode b_xm_letIn 2 = .ok (.putfield 64, 3) by decide +kernel), ?_⟩
  refine List.forall_mem_cons.mpr ⟨mx_ok_vret (show decode b_xm_letIn 5 = .ok (.return_, 1) by decide +kernel) rfl, ?_⟩
  exact fun _ h => absurd h List.not_mem_nil
set_option maxRecDepth 100000 in
set_option maxHeartbeats 4000000 in
theorem ct_xm_letIn (l : Launch) (np nd : Nat) : mx_Ct l vw_T vw_cl (kx np nd) { frames := 0, cells := 0, slots := 0, locals := 0 } y_xm_letIn b_xm_letIn 2 none (pre_xm_letIn np nd) (fn_xm_letIn np nd) := by
  refine mx_ct_of (tb_xm_letIn np nd ) (by decide) (ok_xm_letIn l np nd ) (fun as u h => by obtain ⟨_, rfl, -⟩ := h; exact Nat.le_of_ble_eq_true rfl) ?_
  intro as u hpre At hc hw
  obtain ⟨a1, rfl, hp⟩ := hpre
  exact hc 200 [] _ _ _ _ (
    And.intro rfl (
    And.intro (BOOL 2) (
    congrArg (fun z : mx_S => ((none, z) : Option mx_V × mx_S)) (show (mx_sf u 0 11 a1) = (xm_letIn a1 u) from (rfl).symm))))
/-! WideMachine.start(I)Z -/
def xm_start (np nd : Nat) (a1 : Int32) (u : mx_S) : Int32 × mx_S :=
  if a1 < 0 then
   (0, u)
  else
   if a1 < (nI np) then
    (1, (xb_clear (xq_clear (mx_sf (mx_sf (mx_sf u 0 6 a1) 0 5 0) 0 8 0))))
   else
    (0, u)
def pre_xm_start (np nd : Nat) : List mx_V → mx_S → Prop := fun as u => ∃ (a1 : Int32), as = [.inr (.inr 0), .inl a1] ∧ True
def fn_xm_start (np nd : Nat) : mx_F := fun as u => match as with
  | [_, .inl a1] => mx_rB (xm_start np nd a1 u)
  | _ => (none, u)
def tb_xm_start (np nd : Nat) : List (Nat × mx_T) := [
  (0, mx_iload_n 1 0),
  (1, mx_if_lt 13 1),
  (4, mx_iload_n 1 4),
  (5, mx_aload_n 0 5),
  (6, mx_getf (kx np nd) 0 0 6),
  (9, mx_alen (kx np nd) 9),
  (10, mx_icmp_lt 15 10),
  (13, mx_iconst 0 13),
  (14, mx_zret 14),
  (15, mx_aload_n 0 15),
  (16, mx_iload_n 1 16),
  (17, mx_putf (kx np nd) 0 6 17),
  (20, mx_aload_n 0 20),
  (21, mx_iconst 0 21),
  (22, mx_putf (kx np nd) 0 5 22),
  (25, mx_aload_n 0 25),
  (26, mx_iconst 0 26),
  (27, mx_putf (kx np nd) 0 8 27),
  (30, mx_aload_n 0 30),
  (31, mx_getf (kx np nd) 0 3 31),
  (34, mx_invV (kx np nd) 1 0 (pre_xq_clear np nd) (fn_xq_clear np nd) 34),
  (37, mx_aload_n 0 37),
  (38, mx_getf (kx np nd) 0 4 38),
  (41, mx_invV (kx np nd) 2 0 (pre_xb_clear np nd) (fn_xb_clear np nd) 41),
  (44, mx_iconst 1 44),
  (45, mx_zret 45)]
set_option maxRecDepth 100000 in
set_option maxHeartbeats 4000000 in
theorem ok_xm_start (l : Launch) (np nd : Nat) : ∀ q ∈ tb_xm_start np nd , mx_Ok l ({ frames := 1, cells := 0, slots := 0, locals := 20 } : Room) b_xm_start 2 "WideMachine" (some .boolean) vw_T vw_cl (kx np nd) q.1 q.2 := by
  refine List.forall_mem_cons.mpr ⟨mx_ok_iload_n (show decode b_xm_start 0 = .ok (.iload_n 1, 1) by decide +kernel) rfl, ?_⟩
  refine List.forall_mem_cons.mpr ⟨mx_ok_if_lt (show decode b_xm_start 1 = .ok (.ifCond .lt 12, 3) by decide +kernel) (by decide), ?_⟩
  refine List.forall_mem_cons.mpr ⟨mx_ok_iload_n (show decode b_xm_start 4 = .ok (.iload_n 1, 1) by decide +kernel) rfl, ?_⟩
  refine List.forall_mem_cons.mpr ⟨mx_ok_aload_n (show decode b_xm_start 5 = .ok (.aload_n 0, 1) by decide +kernel) rfl, ?_⟩
  refine List.forall_mem_cons.mpr ⟨mx_ok_getf fd_xm_13 (show decode b_xm_start 6 = .ok (.getfield 13, 3) by decide +kernel), ?_⟩
  refine List.forall_mem_cons.mpr ⟨mx_ok_alen (show decode b_xm_start 9 = .ok (.arraylength, 1) by decide +kernel), ?_⟩
  refine List.forall_mem_cons.mpr ⟨mx_ok_icmp_lt (show decode b_xm_start 10 = .ok (.if_icmp .lt 5, 3) by decide +kernel) (by decide), ?_⟩
  refine List.forall_mem_cons.mpr ⟨mx_ok_iconst (show decode b_xm_start 13 = .ok (.iconst 0, 1) by decide +kernel) (by decide), ?_⟩
  refine List.forall_mem_cons.mpr ⟨mx_ok_zret (show decode b_xm_start 14 = .ok (.ireturn, 1) by decide +kernel) rfl, ?_⟩
  refine List.forall_mem_cons.mpr ⟨mx_ok_aload_n (show decode b_xm_start 15 = .ok (.aload_n 0, 1) by decide +kernel) rfl, ?_⟩
  refine List.forall_mem_cons.mpr ⟨mx_ok_iload_n (show decode b_xm_start 16 = .ok (.iload_n 1, 1) by decide +kernel) rfl, ?_⟩
  refine List.forall_mem_cons.mpr ⟨mx_ok_putf fd_xm_48 fw_0_6 (show decode b_xm_start 17 = .ok (.putfield 48, 3) by decide +kernel), ?_⟩
  refine List.forall_mem_cons.mpr ⟨mx_ok_aload_n (show decode b_xm_start 20 = .ok (.aload_n 0, 1) by decide +kernel) rfl, ?_⟩
  refine List.forall_mem_cons.mpr ⟨mx_ok_iconst (show decode b_xm_start 21 = .ok (.iconst 0, 1) by decide +kernel) (by decide), ?_⟩
  refine List.forall_mem_cons.mpr ⟨mx_ok_putf fd_xm_41 fw_0_5 (show decode b_xm_start 22 = .ok (.putfield 41, 3) by decide +kernel), ?_⟩
  refine List.forall_mem_cons.mpr ⟨mx_ok_aload_n (show decode b_xm_start 25 = .ok (.aload_n 0, 1) by decide +kernel) rfl, ?_⟩
  refine List.forall_mem_cons.mpr ⟨mx_ok_iconst (show decode b_xm_start 26 = .ok (.iconst 0, 1) by decide +kernel) (by decide), ?_⟩
  refine List.forall_mem_cons.mpr ⟨mx_ok_putf fd_xm_58 fw_0_8 (show decode b_xm_start 27 = .ok (.putfield 58, 3) by decide +kernel), ?_⟩
  refine List.forall_mem_cons.mpr ⟨mx_ok_aload_n (show decode b_xm_start 30 = .ok (.aload_n 0, 1) by decide +kernel) rfl, ?_⟩
  refine List.forall_mem_cons.mpr ⟨mx_ok_getf fd_xm_26 (show decode b_xm_start 31 = .ok (.getfield 26, 3) by decide +kernel), ?_⟩
  refine List.forall_mem_cons.mpr ⟨mx_ok_invV vw_G (ct_xq_clear l np nd) ⟨vm_291, vm_292, vm_57, ⟨by decide +kernel, by decide +kernel, by decide +kernel⟩, ⟨by decide, by decide⟩, rfl, rfl⟩ vm_293 vm_294 rfl (show decode b_xm_start 34 = .ok (.invokevirtual 83, 3) by decide +kernel), ?_⟩
  refine List.forall_mem_cons.mpr ⟨mx_ok_aload_n (show decode b_xm_start 37 = .ok (.aload_n 0, 1) by decide +kernel) rfl, ?_⟩
  refine List.forall_mem_cons.mpr ⟨mx_ok_getf fd_xm_33 (show decode b_xm_start 38 = .ok (.getfield 33, 3) by decide +kernel), ?_⟩
  refine List.forall_mem_cons.mpr ⟨mx_ok_invV vw_G (ct_xb_clear l np nd) ⟨vm_295, vm_296, vm_75, ⟨by decide +kernel, by decide +kernel, by decide +kernel⟩, ⟨by decide, by decide⟩, rfl, rfl⟩ vm_297 vm_298 rfl (show decode b_xm_start 41 = .ok (.invokevirtual 86, 3) by decide +kernel), ?_⟩
  refine List.forall_mem_cons.mpr ⟨mx_ok_iconst (show decode b_xm_start 44 = .ok (.iconst 1, 1) by decide +kernel) (by decide), ?_⟩
  refine List.forall_mem_cons.mpr ⟨mx_ok_zret (show decode b_xm_start 45 = .ok (.ireturn, 1) by decide +kernel) rfl, ?_⟩
  exact fun _ h => absurd h List.not_mem_nil
set_option maxRecDepth 100000 in
set_option maxHeartbeats 4000000 in
theorem ct_xm_start (l : Launch) (np nd : Nat) : mx_Ct l vw_T vw_cl (kx np nd) { frames := 1, cells := 0, slots := 0, locals := 20 } y_xm_start b_xm_start 2 (some .boolean) (pre_xm_start np nd) (fn_xm_start np nd) := by
  refine mx_ct_of (tb_xm_start np nd ) (by decide) (ok_xm_start l np nd ) (fun as u h => by obtain ⟨_, rfl, -⟩ := h; exact Nat.le_of_ble_eq_true rfl) ?_
  intro as u hpre At hc hw
  obtain ⟨a1, rfl, hp⟩ := hpre
  exact hc 200 [] _ _ _ _ (
    And.intro (fun h1 => 
     And.intro (Or.inl rfl) (
     congrArg mx_rB (show (0, u) = (xm_start np nd a1 u) from (if_pos h1).symm))) (fun h1 => 
     And.intro (fun h10 => 
      And.intro rfl (
      And.intro rfl (
      And.intro rfl (
      And.intro rfl (
      And.intro ⟨rfl, trivial⟩ (
      And.intro rfl (
      And.intro ⟨rfl, trivial⟩ (
      And.intro (Or.inr rfl) (
      congrArg mx_rB (show (1, (xb_clear (xq_clear (mx_sf (mx_sf (mx_sf u 0 6 a1) 0 5 0) 0 8 0)))) = (xm_start np nd a1 u) from ((if_neg h1).trans (if_pos h10)).symm)))))))))) (fun h10 => 
      And.intro (Or.inl rfl) (
      congrArg mx_rB (show (0, u) = (xm_start np nd a1 u) from ((if_neg h1).trans (if_neg h10)).symm)))))
end
