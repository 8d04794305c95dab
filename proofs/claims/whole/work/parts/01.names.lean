/-! names, fields, words: by program out of the claim's listing and Statement -/
def ff_0 : u_T := fun k => match k with
  | 0 => ("WideMachine", "program", "[I", true)
  | 1 => ("WideMachine", "data", "[I", true)
  | 2 => ("WideMachine", "registers", "[I", true)
  | 3 => ("WideMachine", "writes", "LWideMachine$Writes;", true)
  | 4 => ("WideMachine", "branches", "LWideMachine$Branches;", true)
  | 5 => ("WideMachine", "state", "I", false)
  | 6 => ("WideMachine", "address", "I", false)
  | 7 => ("WideMachine", "cycles", "I", false)
  | 8 => ("WideMachine", "waits", "I", false)
  | 9 => ("WideMachine", "returnAddress", "I", false)
  | 10 => ("WideMachine", "raisedLines", "I", false)
  | _ => ("WideMachine", "letsIn", "Z", false)
def ft_0 : Nat → FieldType := fun k => match k with
  | 0 => .array .int
  | 1 => .array .int
  | 2 => .array .int
  | 3 => .object "WideMachine$Writes"
  | 4 => .object "WideMachine$Branches"
  | 5 => .int
  | 6 => .int
  | 7 => .int
  | 8 => .int
  | 9 => .int
  | 10 => .int
  | _ => .boolean
theorem fn_0 : ∀ a, a < 12 → ∀ b, b < 12 → a ≠ b → (ff_0 a).2.1 ≠ (ff_0 b).2.1 := by decide +kernel
theorem fo_0 : ∀ k, k < 12 → parseFieldDescriptor (ff_0 k).2.2.1 = some (ft_0 k) := by decide +kernel
def ff_1 : u_T := fun k => match k with
  | 0 => ("WideMachine$Writes", "targets", "[I", true)
  | 1 => ("WideMachine$Writes", "values", "[I", true)
  | 2 => ("WideMachine$Writes", "times", "[I", true)
  | _ => ("WideMachine$Writes", "count", "I", false)
def ft_1 : Nat → FieldType := fun k => match k with
  | 0 => .array .int
  | 1 => .array .int
  | 2 => .array .int
  | _ => .int
theorem fn_1 : ∀ a, a < 4 → ∀ b, b < 4 → a ≠ b → (ff_1 a).2.1 ≠ (ff_1 b).2.1 := by decide +kernel
theorem fo_1 : ∀ k, k < 4 → parseFieldDescriptor (ff_1 k).2.2.1 = some (ft_1 k) := by decide +kernel
def ff_2 : u_T := fun k => match k with
  | 0 => ("WideMachine$Branches", "targets", "[I", true)
  | 1 => ("WideMachine$Branches", "times", "[I", true)
  | _ => ("WideMachine$Branches", "count", "I", false)
def ft_2 : Nat → FieldType := fun k => match k with
  | 0 => .array .int
  | 1 => .array .int
  | _ => .int
theorem fn_2 : ∀ a, a < 3 → ∀ b, b < 3 → a ≠ b → (ff_2 a).2.1 ≠ (ff_2 b).2.1 := by decide +kernel
theorem fo_2 : ∀ k, k < 3 → parseFieldDescriptor (ff_2 k).2.2.1 = some (ft_2 k) := by decide +kernel
def ff_3 : u_T := fun k => match k with
  | 0 => ("WideMachineModel", "thrown", "I", false)
  | 1 => ("WideMachineModel", "words", "I", true)
  | 2 => ("WideMachineModel", "size", "I", true)
  | 3 => ("WideMachineModel", "program", "[I", true)
  | 4 => ("WideMachineModel", "data", "[I", true)
  | 5 => ("WideMachineModel", "registers", "[I", true)
  | 6 => ("WideMachineModel", "state", "I", false)
  | 7 => ("WideMachineModel", "address", "I", false)
  | 8 => ("WideMachineModel", "cycles", "I", false)
  | 9 => ("WideMachineModel", "wait", "I", false)
  | 10 => ("WideMachineModel", "back", "I", false)
  | 11 => ("WideMachineModel", "letIn", "Z", false)
  | 12 => ("WideMachineModel", "raised", "I", false)
  | 13 => ("WideMachineModel", "writes", "I", false)
  | 14 => ("WideMachineModel", "register", "[I", true)
  | 15 => ("WideMachineModel", "value", "[I", true)
  | 16 => ("WideMachineModel", "when", "[I", true)
  | 17 => ("WideMachineModel", "branches", "I", false)
  | 18 => ("WideMachineModel", "target", "[I", true)
  | 19 => ("WideMachineModel", "goes", "[I", true)
  | 20 => ("WideMachineModel", "stores", "I", false)
  | 21 => ("WideMachineModel", "where", "[I", true)
  | _ => ("WideMachineModel", "what", "[I", true)
def ft_3 : Nat → FieldType := fun k => match k with
  | 0 => .int
  | 1 => .int
  | 2 => .int
  | 3 => .array .int
  | 4 => .array .int
  | 5 => .array .int
  | 6 => .int
  | 7 => .int
  | 8 => .int
  | 9 => .int
  | 10 => .int
  | 11 => .boolean
  | 12 => .int
  | 13 => .int
  | 14 => .array .int
  | 15 => .array .int
  | 16 => .array .int
  | 17 => .int
  | 18 => .array .int
  | 19 => .array .int
  | 20 => .int
  | 21 => .array .int
  | _ => .array .int
theorem fn_3 : ∀ a, a < 23 → ∀ b, b < 23 → a ≠ b → (ff_3 a).2.1 ≠ (ff_3 b).2.1 := by decide +kernel
theorem fo_3 : ∀ k, k < 23 → parseFieldDescriptor (ff_3 k).2.2.1 = some (ft_3 k) := by decide +kernel
def vw_cl : List vw_C := [("WideMachine", ff_0, 12), ("WideMachine$Writes", ff_1, 4), ("WideMachine$Branches", ff_2, 3), ("WideMachineModel", ff_3, 23)]
abbrev b_xm_init : ByteArray := prog_1_method_1_code
def y_xm_init : MethodName := ⟨"WideMachine", "<init>", "(II)V"⟩
abbrev b_xm_word : ByteArray := prog_1_method_2_code
def y_xm_word : MethodName := ⟨"WideMachine", "word", "(II)Z"⟩
abbrev b_xm_poke : ByteArray := prog_1_method_3_code
def y_xm_poke : MethodName := ⟨"WideMachine", "poke", "(II)Z"⟩
abbrev b_xm_peek : ByteArray := prog_1_method_4_code
def y_xm_peek : MethodName := ⟨"WideMachine", "peek", "(I)I"⟩
abbrev b_xm_set : ByteArray := prog_1_method_5_code
def y_xm_set : MethodName := ⟨"WideMachine", "set", "(II)Z"⟩
abbrev b_xm_get : ByteArray := prog_1_method_6_code
def y_xm_get : MethodName := ⟨"WideMachine", "get", "(I)I"⟩
abbrev b_xm_run : ByteArray := prog_1_method_7_code
def y_xm_run : MethodName := ⟨"WideMachine", "run", "(I)I"⟩
abbrev b_xm_about : ByteArray := prog_1_method_8_code
def y_xm_about : MethodName := ⟨"WideMachine", "about", "(I)I"⟩
abbrev b_xm_due : ByteArray := prog_1_method_9_code
def y_xm_due : MethodName := ⟨"WideMachine", "due", "(II)I"⟩
abbrev b_xm_raise : ByteArray := prog_1_method_10_code
def y_xm_raise : MethodName := ⟨"WideMachine", "raise", "(I)Z"⟩
abbrev b_xm_letIn : ByteArray := prog_1_method_11_code
def y_xm_letIn : MethodName := ⟨"WideMachine", "letIn", "(Z)V"⟩
abbrev b_xm_start : ByteArray := prog_1_method_12_code
def y_xm_start : MethodName := ⟨"WideMachine", "start", "(I)Z"⟩
abbrev b_xm_nearestSize : ByteArray := prog_1_method_13_code
def y_xm_nearestSize : MethodName := ⟨"WideMachine", "nearestSize", "(I)I"⟩
abbrev b_xm_isInData : ByteArray := prog_1_method_14_code
def y_xm_isInData : MethodName := ⟨"WideMachine", "isInData", "(I)Z"⟩
abbrev b_xm_isRaised : ByteArray := prog_1_method_15_code
def y_xm_isRaised : MethodName := ⟨"WideMachine", "isRaised", "(I)Z"⟩
abbrev b_xm_doCycle : ByteArray := prog_1_method_16_code
def y_xm_doCycle : MethodName := ⟨"WideMachine", "doCycle", "()V"⟩
abbrev b_xm_landWrites : ByteArray := prog_1_method_17_code
def y_xm_landWrites : MethodName := ⟨"WideMachine", "landWrites", "()V"⟩
abbrev b_xm_takeBranch : ByteArray := prog_1_method_18_code
def y_xm_takeBranch : MethodName := ⟨"WideMachine", "takeBranch", "()V"⟩
abbrev b_xm_takeInterrupt : ByteArray := prog_1_method_19_code
def y_xm_takeInterrupt : MethodName := ⟨"WideMachine", "takeInterrupt", "()V"⟩
abbrev b_xm_endOfPacket : ByteArray := prog_1_method_20_code
def y_xm_endOfPacket : MethodName := ⟨"WideMachine", "endOfPacket", "()I"⟩
abbrev b_xm_faultOfPacket : ByteArray := prog_1_method_21_code
def y_xm_faultOfPacket : MethodName := ⟨"WideMachine", "faultOfPacket", "(I)I"⟩
abbrev b_xm_hasIllFormed : ByteArray := prog_1_method_22_code
def y_xm_hasIllFormed : MethodName := ⟨"WideMachine", "hasIllFormed", "(I)Z"⟩
abbrev b_xm_hasUnitTwice : ByteArray := prog_1_method_23_code
def y_xm_hasUnitTwice : MethodName := ⟨"WideMachine", "hasUnitTwice", "(I)Z"⟩
abbrev b_xm_hasCrossedTwice : ByteArray := prog_1_method_24_code
def y_xm_hasCrossedTwice : MethodName := ⟨"WideMachine", "hasCrossedTwice", "(I)Z"⟩
abbrev b_xm_goesBeyondData : ByteArray := prog_1_method_25_code
def y_xm_goesBeyondData : MethodName := ⟨"WideMachine", "goesBeyondData", "(I)Z"⟩
abbrev b_xm_isConditionTrue : ByteArray := prog_1_method_26_code
def y_xm_isConditionTrue : MethodName := ⟨"WideMachine", "isConditionTrue", "(I)Z"⟩
abbrev b_xm_dataAddress : ByteArray := prog_1_method_27_code
def y_xm_dataAddress : MethodName := ⟨"WideMachine", "dataAddress", "(I)I"⟩
abbrev b_xm_operandB : ByteArray := prog_1_method_28_code
def y_xm_operandB : MethodName := ⟨"WideMachine", "operandB", "(I)I"⟩
abbrev b_xm_doPacket : ByteArray := prog_1_method_29_code
def y_xm_doPacket : MethodName := ⟨"WideMachine", "doPacket", "(I)V"⟩
abbrev b_xm_doWord : ByteArray := prog_1_method_30_code
def y_xm_doWord : MethodName := ⟨"WideMachine", "doWord", "(I)V"⟩
abbrev b_xm_valueOf : ByteArray := prog_1_method_31_code
def y_xm_valueOf : MethodName := ⟨"WideMachine", "valueOf", "(I)I"⟩
abbrev b_xm_doStores : ByteArray := prog_1_method_32_code
def y_xm_doStores : MethodName := ⟨"WideMachine", "doStores", "(I)V"⟩
abbrev b_mm_init : ByteArray := prog_7_method_1_code
def y_mm_init : MethodName := ⟨"WideMachineModel", "<init>", "(II)V"⟩
abbrev b_mm_word : ByteArray := prog_7_method_3_code
def y_mm_word : MethodName := ⟨"WideMachineModel", "word", "(II)Z"⟩
abbrev b_mm_poke : ByteArray := prog_7_method_4_code
def y_mm_poke : MethodName := ⟨"WideMachineModel", "poke", "(II)Z"⟩
abbrev b_mm_peek : ByteArray := prog_7_method_5_code
def y_mm_peek : MethodName := ⟨"WideMachineModel", "peek", "(I)I"⟩
abbrev b_mm_set : ByteArray := prog_7_method_6_code
def y_mm_set : MethodName := ⟨"WideMachineModel", "set", "(II)Z"⟩
abbrev b_mm_get : ByteArray := prog_7_method_7_code
def y_mm_get : MethodName := ⟨"WideMachineModel", "get", "(I)I"⟩
abbrev b_mm_about : ByteArray := prog_7_method_8_code
def y_mm_about : MethodName := ⟨"WideMachineModel", "about", "(I)I"⟩
abbrev b_mm_due : ByteArray := prog_7_method_9_code
def y_mm_due : MethodName := ⟨"WideMachineModel", "due", "(II)I"⟩
abbrev b_mm_raise : ByteArray := prog_7_method_10_code
def y_mm_raise : MethodName := ⟨"WideMachineModel", "raise", "(I)Z"⟩
abbrev b_mm_letIn : ByteArray := prog_7_method_11_code
def y_mm_letIn : MethodName := ⟨"WideMachineModel", "letIn", "(Z)V"⟩
abbrev b_mm_start : ByteArray := prog_7_method_12_code
def y_mm_start : MethodName := ⟨"WideMachineModel", "start", "(I)Z"⟩
abbrev b_mm_run : ByteArray := prog_7_method_13_code
def y_mm_run : MethodName := ⟨"WideMachineModel", "run", "(I)I"⟩
abbrev b_mm_condition : ByteArray := prog_7_method_14_code
def y_mm_condition : MethodName := ⟨"WideMachineModel", "condition", "(I)I"⟩
abbrev b_mm_unit : ByteArray := prog_7_method_15_code
def y_mm_unit : MethodName := ⟨"WideMachineModel", "unit", "(I)I"⟩
abbrev b_mm_kind : ByteArray := prog_7_method_16_code
def y_mm_kind : MethodName := ⟨"WideMachineModel", "kind", "(I)I"⟩
abbrev b_mm_operation : ByteArray := prog_7_method_17_code
def y_mm_operation : MethodName := ⟨"WideMachineModel", "operation", "(I)I"⟩
abbrev b_mm_d : ByteArray := prog_7_method_18_code
def y_mm_d : MethodName := ⟨"WideMachineModel", "d", "(I)I"⟩
abbrev b_mm_a : ByteArray := prog_7_method_19_code
def y_mm_a : MethodName := ⟨"WideMachineModel", "a", "(I)I"⟩
abbrev b_mm_b : ByteArray := prog_7_method_20_code
def y_mm_b : MethodName := ⟨"WideMachineModel", "b", "(I)I"⟩
abbrev b_mm_isNumber : ByteArray := prog_7_method_21_code
def y_mm_isNumber : MethodName := ⟨"WideMachineModel", "isNumber", "(I)Z"⟩
abbrev b_mm_isS : ByteArray := prog_7_method_22_code
def y_mm_isS : MethodName := ⟨"WideMachineModel", "isS", "(III)Z"⟩
abbrev b_mm_hasD : ByteArray := prog_7_method_23_code
def y_mm_hasD : MethodName := ⟨"WideMachineModel", "hasD", "(I)Z"⟩
abbrev b_mm_hasA : ByteArray := prog_7_method_24_code
def y_mm_hasA : MethodName := ⟨"WideMachineModel", "hasA", "(I)Z"⟩
abbrev b_mm_hasB : ByteArray := prog_7_method_25_code
def y_mm_hasB : MethodName := ⟨"WideMachineModel", "hasB", "(I)Z"⟩
abbrev b_mm_isOther : ByteArray := prog_7_method_26_code
def y_mm_isOther : MethodName := ⟨"WideMachineModel", "isOther", "(II)Z"⟩
abbrev b_mm_isIll : ByteArray := prog_7_method_27_code
def y_mm_isIll : MethodName := ⟨"WideMachineModel", "isIll", "(I)Z"⟩
abbrev b_mm_isDone : ByteArray := prog_7_method_28_code
def y_mm_isDone : MethodName := ⟨"WideMachineModel", "isDone", "(I)Z"⟩
abbrev b_mm_cycle : ByteArray := prog_7_method_29_code
def y_mm_cycle : MethodName := ⟨"WideMachineModel", "cycle", "()V"⟩
abbrev b_mm_lands : ByteArray := prog_7_method_30_code
def y_mm_lands : MethodName := ⟨"WideMachineModel", "lands", "()I"⟩
abbrev b_mm_arrives : ByteArray := prog_7_method_31_code
def y_mm_arrives : MethodName := ⟨"WideMachineModel", "arrives", "()I"⟩
abbrev b_mm_interrupts : ByteArray := prog_7_method_32_code
def y_mm_interrupts : MethodName := ⟨"WideMachineModel", "interrupts", "()V"⟩
abbrev b_mm_wrong : ByteArray := prog_7_method_33_code
def y_mm_wrong : MethodName := ⟨"WideMachineModel", "wrong", "(I)I"⟩
abbrev b_mm_packet : ByteArray := prog_7_method_34_code
def y_mm_packet : MethodName := ⟨"WideMachineModel", "packet", "(I)V"⟩
abbrev b_mm_write : ByteArray := prog_7_method_35_code
def y_mm_write : MethodName := ⟨"WideMachineModel", "write", "(III)V"⟩
abbrev b_mm_second : ByteArray := prog_7_method_36_code
def y_mm_second : MethodName := ⟨"WideMachineModel", "second", "(I)I"⟩
abbrev b_mm_controls : ByteArray := prog_7_method_37_code
def y_mm_controls : MethodName := ⟨"WideMachineModel", "controls", "(I)V"⟩
abbrev b_mm_reaches : ByteArray := prog_7_method_38_code
def y_mm_reaches : MethodName := ⟨"WideMachineModel", "reaches", "(I)Z"⟩
abbrev b_mm_meets : ByteArray := prog_7_method_39_code
def y_mm_meets : MethodName := ⟨"WideMachineModel", "meets", "(I)V"⟩
abbrev b_mm_works : ByteArray := prog_7_method_40_code
def y_mm_works : MethodName := ⟨"WideMachineModel", "works", "(I)I"⟩
abbrev b_mm_logic : ByteArray := prog_7_method_41_code
def y_mm_logic : MethodName := ⟨"WideMachineModel", "logic", "(III)I"⟩
abbrev b_mm_shift : ByteArray := prog_7_method_42_code
def y_mm_shift : MethodName := ⟨"WideMachineModel", "shift", "(III)I"⟩
abbrev b_mm_product : ByteArray := prog_7_method_43_code
def y_mm_product : MethodName := ⟨"WideMachineModel", "product", "(III)I"⟩
abbrev b_xb_init : ByteArray := prog_2_method_1_code
def y_xb_init : MethodName := ⟨"WideMachine$Branches", "<init>", "()V"⟩
abbrev b_xb_add : ByteArray := prog_2_method_2_code
def y_xb_add : MethodName := ⟨"WideMachine$Branches", "add", "(I)V"⟩
abbrev b_xb_clear : ByteArray := prog_2_method_3_code
def y_xb_clear : MethodName := ⟨"WideMachine$Branches", "clear", "()V"⟩
abbrev b_xb_comeNearer : ByteArray := prog_2_method_4_code
def y_xb_comeNearer : MethodName := ⟨"WideMachine$Branches", "comeNearer", "()V"⟩
abbrev b_xb_arrived : ByteArray := prog_2_method_5_code
def y_xb_arrived : MethodName := ⟨"WideMachine$Branches", "arrived", "()I"⟩
abbrev b_xb_takeFirst : ByteArray := prog_2_method_6_code
def y_xb_takeFirst : MethodName := ⟨"WideMachine$Branches", "takeFirst", "()I"⟩
abbrev b_xv_ofL : ByteArray := prog_3_method_2_code
def y_xv_ofL : MethodName := ⟨"WideMachine$Values", "ofL", "(III)I"⟩
abbrev b_xv_ofS : ByteArray := prog_3_method_3_code
def y_xv_ofS : MethodName := ⟨"WideMachine$Values", "ofS", "(III)I"⟩
abbrev b_xv_ofM : ByteArray := prog_3_method_4_code
def y_xv_ofM : MethodName := ⟨"WideMachine$Values", "ofM", "(III)I"⟩
abbrev b_xv_ofD : ByteArray := prog_3_method_5_code
def y_xv_ofD : MethodName := ⟨"WideMachine$Values", "ofD", "(III)I"⟩
abbrev b_xv_nearestInt : ByteArray := prog_3_method_6_code
def y_xv_nearestInt : MethodName := ⟨"WideMachine$Values", "nearestInt", "(J)I"⟩
abbrev b_xv_bitsLikeHighest : ByteArray := prog_3_method_7_code
def y_xv_bitsLikeHighest : MethodName := ⟨"WideMachine$Values", "bitsLikeHighest", "(I)I"⟩
abbrev b_xw_goesOn : ByteArray := prog_4_method_2_code
def y_xw_goesOn : MethodName := ⟨"WideMachine$Word", "goesOn", "(I)Z"⟩
abbrev b_xw_isOnZero : ByteArray := prog_4_method_3_code
def y_xw_isOnZero : MethodName := ⟨"WideMachine$Word", "isOnZero", "(I)Z"⟩
abbrev b_xw_unit : ByteArray := prog_4_method_4_code
def y_xw_unit : MethodName := ⟨"WideMachine$Word", "unit", "(I)I"⟩
abbrev b_xw_kind : ByteArray := prog_4_method_5_code
def y_xw_kind : MethodName := ⟨"WideMachine$Word", "kind", "(I)I"⟩
abbrev b_xw_side : ByteArray := prog_4_method_6_code
def y_xw_side : MethodName := ⟨"WideMachine$Word", "side", "(I)I"⟩
abbrev b_xw_code : ByteArray := prog_4_method_7_code
def y_xw_code : MethodName := ⟨"WideMachine$Word", "code", "(I)I"⟩
abbrev b_xw_d : ByteArray := prog_4_method_8_code
def y_xw_d : MethodName := ⟨"WideMachine$Word", "d", "(I)I"⟩
abbrev b_xw_a : ByteArray := prog_4_method_9_code
def y_xw_a : MethodName := ⟨"WideMachine$Word", "a", "(I)I"⟩
abbrev b_xw_b : ByteArray := prog_4_method_10_code
def y_xw_b : MethodName := ⟨"WideMachine$Word", "b", "(I)I"⟩
abbrev b_xw_isNumberB : ByteArray := prog_4_method_11_code
def y_xw_isNumberB : MethodName := ⟨"WideMachine$Word", "isNumberB", "(I)Z"⟩
abbrev b_xw_numberB : ByteArray := prog_4_method_12_code
def y_xw_numberB : MethodName := ⟨"WideMachine$Word", "numberB", "(I)I"⟩
abbrev b_xw_number : ByteArray := prog_4_method_13_code
def y_xw_number : MethodName := ⟨"WideMachine$Word", "number", "(I)I"⟩
abbrev b_xw_target : ByteArray := prog_4_method_14_code
def y_xw_target : MethodName := ⟨"WideMachine$Word", "target", "(I)I"⟩
abbrev b_xw_timeOfWrite : ByteArray := prog_4_method_15_code
def y_xw_timeOfWrite : MethodName := ⟨"WideMachine$Word", "timeOfWrite", "(I)I"⟩
abbrev b_xw_conditionRegister : ByteArray := prog_4_method_16_code
def y_xw_conditionRegister : MethodName := ⟨"WideMachine$Word", "conditionRegister", "(I)I"⟩
abbrev b_xw_isIllFormed : ByteArray := prog_4_method_17_code
def y_xw_isIllFormed : MethodName := ⟨"WideMachine$Word", "isIllFormed", "(I)Z"⟩
abbrev b_xw_crosses : ByteArray := prog_4_method_18_code
def y_xw_crosses : MethodName := ⟨"WideMachine$Word", "crosses", "(I)Z"⟩
abbrev b_xw_isOperation : ByteArray := prog_4_method_19_code
def y_xw_isOperation : MethodName := ⟨"WideMachine$Word", "isOperation", "(I)Z"⟩
abbrev b_xw_hasLongNumber : ByteArray := prog_4_method_20_code
def y_xw_hasLongNumber : MethodName := ⟨"WideMachine$Word", "hasLongNumber", "(I)Z"⟩
abbrev b_xw_hasD : ByteArray := prog_4_method_21_code
def y_xw_hasD : MethodName := ⟨"WideMachine$Word", "hasD", "(I)Z"⟩
abbrev b_xw_hasA : ByteArray := prog_4_method_22_code
def y_xw_hasA : MethodName := ⟨"WideMachine$Word", "hasA", "(I)Z"⟩
abbrev b_xw_hasB : ByteArray := prog_4_method_23_code
def y_xw_hasB : MethodName := ⟨"WideMachine$Word", "hasB", "(I)Z"⟩
abbrev b_xq_init : ByteArray := prog_5_method_1_code
def y_xq_init : MethodName := ⟨"WideMachine$Writes", "<init>", "()V"⟩
abbrev b_xq_add : ByteArray := prog_5_method_2_code
def y_xq_add : MethodName := ⟨"WideMachine$Writes", "add", "(III)V"⟩
abbrev b_xq_clear : ByteArray := prog_5_method_3_code
def y_xq_clear : MethodName := ⟨"WideMachine$Writes", "clear", "()V"⟩
abbrev b_xq_comeNearer : ByteArray := prog_5_method_4_code
def y_xq_comeNearer : MethodName := ⟨"WideMachine$Writes", "comeNearer", "()V"⟩
abbrev b_xq_clash : ByteArray := prog_5_method_5_code
def y_xq_clash : MethodName := ⟨"WideMachine$Writes", "clash", "()Z"⟩
abbrev b_xq_land : ByteArray := prog_5_method_6_code
def y_xq_land : MethodName := ⟨"WideMachine$Writes", "land", "([I)V"⟩
def vw_T : List Cond := [
  .laysFinal "WideMachine" "WideMachine" "program" "[I",
  .laysFinal "WideMachine" "WideMachine" "data" "[I",
  .laysFinal "WideMachine" "WideMachine" "registers" "[I",
  .laysFinal "WideMachine" "WideMachine" "writes" "LWideMachine$Writes;",
  .laysFinal "WideMachine" "WideMachine" "branches" "LWideMachine$Branches;",
  .lays "WideMachine" "WideMachine" "state" "I",
  .lays "WideMachine" "WideMachine" "address" "I",
  .lays "WideMachine" "WideMachine" "cycles" "I",
  .lays "WideMachine" "WideMachine" "waits" "I",
  .lays "WideMachine" "WideMachine" "returnAddress" "I",
  .lays "WideMachine" "WideMachine" "raisedLines" "I",
  .lays "WideMachine" "WideMachine" "letsIn" "Z",
  .laysFinal "WideMachine$Writes" "WideMachine$Writes" "targets" "[I",
  .laysFinal "WideMachine$Writes" "WideMachine$Writes" "values" "[I",
  .laysFinal "WideMachine$Writes" "WideMachine$Writes" "times" "[I",
  .lays "WideMachine$Writes" "WideMachine$Writes" "count" "I",
  .laysFinal "WideMachine$Branches" "WideMachine$Branches" "targets" "[I",
  .laysFinal "WideMachine$Branches" "WideMachine$Branches" "times" "[I",
  .lays "WideMachine$Branches" "WideMachine$Branches" "count" "I",
  .lays "WideMachineModel" "WideMachineModel" "thrown" "I",
  .laysFinal "WideMachineModel" "WideMachineModel" "words" "I",
  .laysFinal "WideMachineModel" "WideMachineModel" "size" "I",
  .laysFinal "WideMachineModel" "WideMachineModel" "program" "[I",
  .laysFinal "WideMachineModel" "WideMachineModel" "data" "[I",
  .laysFinal "WideMachineModel" "WideMachineModel" "registers" "[I",
  .lays "WideMachineModel" "WideMachineModel" "state" "I",
  .lays "WideMachineModel" "WideMachineModel" "address" "I",
  .lays "WideMachineModel" "WideMachineModel" "cycles" "I",
  .lays "WideMachineModel" "WideMachineModel" "wait" "I",
  .lays "WideMachineModel" "WideMachineModel" "back" "I",
  .lays "WideMachineModel" "WideMachineModel" "letIn" "Z",
  .lays "WideMachineModel" "WideMachineModel" "raised" "I",
  .lays "WideMachineModel" "WideMachineModel" "writes" "I",
  .laysFinal "WideMachineModel" "WideMachineModel" "register" "[I",
  .laysFinal "WideMachineModel" "WideMachineModel" "value" "[I",
  .laysFinal "WideMachineModel" "WideMachineModel" "when" "[I",
  .lays "WideMachineModel" "WideMachineModel" "branches" "I",
  .laysFinal "WideMachineModel" "WideMachineModel" "target" "[I",
  .laysFinal "WideMachineModel" "WideMachineModel" "goes" "[I",
  .lays "WideMachineModel" "WideMachineModel" "stores" "I",
  .laysFinal "WideMachineModel" "WideMachineModel" "where" "[I",
  .laysFinal "WideMachineModel" "WideMachineModel" "what" "[I",
  .fieldLink "WideMachine" 13 "WideMachine" "program" "[I",
  .fieldLink "WideMachine" 17 "WideMachine" "data" "[I",
  .methodLink "WideMachine" 37 y_xm_isInData,
  .code y_xm_isInData b_xm_isInData 2 (some .boolean),
  .initialized "WideMachine",
  .instanceMethod y_xm_isInData,
  .selects "WideMachine" y_xm_isInData y_xm_isInData,
  .fieldLink "WideMachine" 20 "WideMachine" "registers" "[I",
  .fieldLink "WideMachine$Writes" 19 "WideMachine$Writes" "count" "I",
  .fieldLink "WideMachine$Writes" 16 "WideMachine$Writes" "times" "[I",
  .fieldLink "WideMachine$Writes" 9 "WideMachine$Writes" "targets" "[I",
  .fieldLink "WideMachine$Writes" 13 "WideMachine$Writes" "values" "[I",
  .fieldLink "WideMachine" 26 "WideMachine" "writes" "LWideMachine$Writes;",
  .methodLink "WideMachine" 116 y_xq_comeNearer,
  .code y_xq_comeNearer b_xq_comeNearer 2 none,
  .initialized "WideMachine$Writes",
  .instanceMethod y_xq_comeNearer,
  .selects "WideMachine$Writes" y_xq_comeNearer y_xq_comeNearer,
  .methodLink "WideMachine" 119 y_xq_clash,
  .code y_xq_clash b_xq_clash 4 (some .boolean),
  .instanceMethod y_xq_clash,
  .selects "WideMachine$Writes" y_xq_clash y_xq_clash,
  .fieldLink "WideMachine" 41 "WideMachine" "state" "I",
  .methodLink "WideMachine" 123 y_xq_land,
  .code y_xq_land b_xq_land 4 none,
  .instanceMethod y_xq_land,
  .selects "WideMachine$Writes" y_xq_land y_xq_land,
  .fieldLink "WideMachine$Branches" 16 "WideMachine$Branches" "count" "I",
  .fieldLink "WideMachine$Branches" 13 "WideMachine$Branches" "times" "[I",
  .fieldLink "WideMachine$Branches" 9 "WideMachine$Branches" "targets" "[I",
  .fieldLink "WideMachine" 33 "WideMachine" "branches" "LWideMachine$Branches;",
  .methodLink "WideMachine" 127 y_xb_comeNearer,
  .code y_xb_comeNearer b_xb_comeNearer 2 none,
  .initialized "WideMachine$Branches",
  .instanceMethod y_xb_comeNearer,
  .selects "WideMachine$Branches" y_xb_comeNearer y_xb_comeNearer,
  .methodLink "WideMachine" 128 y_xb_arrived,
  .code y_xb_arrived b_xb_arrived 2 (some .int),
  .instanceMethod y_xb_arrived,
  .selects "WideMachine$Branches" y_xb_arrived y_xb_arrived,
  .methodLink "WideMachine" 131 y_xb_takeFirst,
  .code y_xb_takeFirst b_xb_takeFirst 3 (some .int),
  .instanceMethod y_xb_takeFirst,
  .selects "WideMachine$Branches" y_xb_takeFirst y_xb_takeFirst,
  .fieldLink "WideMachine" 48 "WideMachine" "address" "I",
  .fieldLink "WideMachine" 68 "WideMachine" "raisedLines" "I",
  .fieldLink "WideMachine" 64 "WideMachine" "letsIn" "Z",
  .fieldLink "WideMachine" 57 "WideMachine$Branches" "count" "I",
  .methodLink "WideMachine" 80 y_xm_isRaised,
  .code y_xm_isRaised b_xm_isRaised 2 (some .boolean),
  .instanceMethod y_xm_isRaised,
  .selects "WideMachine" y_xm_isRaised y_xm_isRaised,
  .fieldLink "WideMachine" 61 "WideMachine" "returnAddress" "I",
  .methodLink "WideMachine" 134 y_xw_goesOn,
  .code y_xw_goesOn b_xw_goesOn 1 (some .boolean),
  .initialized "WideMachine$Word",
  .static y_xw_goesOn,
  .methodLink "WideMachine$Word" 9 y_xw_code,
  .code y_xw_code b_xw_code 1 (some .int),
  .static y_xw_code,
  .methodLink "WideMachine$Word" 18 y_xw_isOnZero,
  .code y_xw_isOnZero b_xw_isOnZero 1 (some .boolean),
  .static y_xw_isOnZero,
  .methodLink "WideMachine$Word" 22 y_xw_isOperation,
  .code y_xw_isOperation b_xw_isOperation 1 (some .boolean),
  .static y_xw_isOperation,
  .methodLink "WideMachine$Word" 25 y_xw_hasLongNumber,
  .code y_xw_hasLongNumber b_xw_hasLongNumber 1 (some .boolean),
  .static y_xw_hasLongNumber,
  .methodLink "WideMachine$Word" 28 y_xw_hasD,
  .code y_xw_hasD b_xw_hasD 1 (some .boolean),
  .static y_xw_hasD,
  .methodLink "WideMachine$Word" 31 y_xw_d,
  .code y_xw_d b_xw_d 1 (some .int),
  .static y_xw_d,
  .methodLink "WideMachine$Word" 34 y_xw_side,
  .code y_xw_side b_xw_side 1 (some .int),
  .static y_xw_side,
  .methodLink "WideMachine$Word" 37 y_xw_hasA,
  .code y_xw_hasA b_xw_hasA 1 (some .boolean),
  .static y_xw_hasA,
  .methodLink "WideMachine$Word" 40 y_xw_a,
  .code y_xw_a b_xw_a 1 (some .int),
  .static y_xw_a,
  .methodLink "WideMachine" 151 y_xw_isIllFormed,
  .code y_xw_isIllFormed b_xw_isIllFormed 3 (some .boolean),
  .static y_xw_isIllFormed,
  .methodLink "WideMachine" 154 y_xw_unit,
  .code y_xw_unit b_xw_unit 1 (some .int),
  .static y_xw_unit,
  .methodLink "WideMachine$Word" 43 y_xw_hasB,
  .code y_xw_hasB b_xw_hasB 1 (some .boolean),
  .static y_xw_hasB,
  .methodLink "WideMachine$Word" 46 y_xw_isNumberB,
  .code y_xw_isNumberB b_xw_isNumberB 1 (some .boolean),
  .static y_xw_isNumberB,
  .methodLink "WideMachine$Word" 49 y_xw_b,
  .code y_xw_b b_xw_b 1 (some .int),
  .static y_xw_b,
  .methodLink "WideMachine" 157 y_xw_crosses,
  .code y_xw_crosses b_xw_crosses 1 (some .boolean),
  .static y_xw_crosses,
  .methodLink "WideMachine" 160 y_xw_side,
  .methodLink "WideMachine" 172 y_xw_conditionRegister,
  .code y_xw_conditionRegister b_xw_conditionRegister 1 (some .int),
  .static y_xw_conditionRegister,
  .methodLink "WideMachine" 175 y_xw_isOnZero,
  .methodLink "WideMachine" 184 y_xw_isNumberB,
  .methodLink "WideMachine" 187 y_xw_numberB,
  .code y_xw_numberB b_xw_numberB 1 (some .int),
  .static y_xw_numberB,
  .methodLink "WideMachine" 190 y_xw_b,
  .methodLink "WideMachine" 178 y_xw_a,
  .methodLink "WideMachine" 181 y_xm_operandB,
  .code y_xm_operandB b_xm_operandB 2 (some .int),
  .instanceMethod y_xm_operandB,
  .selects "WideMachine" y_xm_operandB y_xm_operandB,
  .methodLink "WideMachine" 163 y_xw_code,
  .methodLink "WideMachine" 166 y_xm_isConditionTrue,
  .code y_xm_isConditionTrue b_xm_isConditionTrue 3 (some .boolean),
  .instanceMethod y_xm_isConditionTrue,
  .selects "WideMachine" y_xm_isConditionTrue y_xm_isConditionTrue,
  .methodLink "WideMachine" 169 y_xm_dataAddress,
  .code y_xm_dataAddress b_xm_dataAddress 2 (some .int),
  .instanceMethod y_xm_dataAddress,
  .selects "WideMachine" y_xm_dataAddress y_xm_dataAddress,
  .methodLink "WideMachine" 139 y_xm_hasIllFormed,
  .code y_xm_hasIllFormed b_xm_hasIllFormed 3 (some .boolean),
  .instanceMethod y_xm_hasIllFormed,
  .selects "WideMachine" y_xm_hasIllFormed y_xm_hasIllFormed,
  .methodLink "WideMachine" 142 y_xm_hasUnitTwice,
  .code y_xm_hasUnitTwice b_xm_hasUnitTwice 5 (some .boolean),
  .instanceMethod y_xm_hasUnitTwice,
  .selects "WideMachine" y_xm_hasUnitTwice y_xm_hasUnitTwice,
  .methodLink "WideMachine" 145 y_xm_hasCrossedTwice,
  .code y_xm_hasCrossedTwice b_xm_hasCrossedTwice 5 (some .boolean),
  .instanceMethod y_xm_hasCrossedTwice,
  .selects "WideMachine" y_xm_hasCrossedTwice y_xm_hasCrossedTwice,
  .methodLink "WideMachine" 148 y_xm_goesBeyondData,
  .code y_xm_goesBeyondData b_xm_goesBeyondData 6 (some .boolean),
  .instanceMethod y_xm_goesBeyondData,
  .selects "WideMachine" y_xm_goesBeyondData y_xm_goesBeyondData,
  .constantLong "WideMachine$Values" 20 2147483647,
  .constant "WideMachine$Values" 22 2147483647,
  .constantLong "WideMachine$Values" 23 (-2147483648),
  .constant "WideMachine$Values" 25 (-2147483648),
  .methodLink "WideMachine$Values" 7 y_xv_nearestInt,
  .code y_xv_nearestInt b_xv_nearestInt 2 (some .int),
  .initialized "WideMachine$Values",
  .static y_xv_nearestInt,
  .methodLink "WideMachine$Values" 13 y_xv_bitsLikeHighest,
  .code y_xv_bitsLikeHighest b_xv_bitsLikeHighest 4 (some .int),
  .static y_xv_bitsLikeHighest,
  .constant "WideMachine$Values" 17 65535,
  .constantLong "WideMachine$Values" 18 2,
  .methodLink "WideMachine" 217 y_xw_number,
  .code y_xw_number b_xw_number 1 (some .int),
  .static y_xw_number,
  .constant "WideMachine" 220 65536,
  .methodLink "WideMachine" 205 y_xw_d,
  .constant "WideMachine" 221 65535,
  .methodLink "WideMachine" 222 y_xm_peek,
  .code y_xm_peek b_xm_peek 2 (some .int),
  .instanceMethod y_xm_peek,
  .selects "WideMachine" y_xm_peek y_xm_peek,
  .methodLink "WideMachine" 225 y_xw_kind,
  .code y_xw_kind b_xw_kind 1 (some .int),
  .static y_xw_kind,
  .methodLink "WideMachine" 228 y_xv_ofL,
  .code y_xv_ofL b_xv_ofL 3 (some .int),
  .static y_xv_ofL,
  .methodLink "WideMachine" 234 y_xv_ofS,
  .code y_xv_ofS b_xv_ofS 3 (some .int),
  .static y_xv_ofS,
  .methodLink "WideMachine" 237 y_xv_ofM,
  .code y_xv_ofM b_xv_ofM 3 (some .int),
  .static y_xv_ofM,
  .methodLink "WideMachine" 240 y_xv_ofD,
  .code y_xv_ofD b_xv_ofD 3 (some .int),
  .static y_xv_ofD,
  .methodLink "WideMachine$Word" 15 y_xw_kind,
  .methodLink "WideMachine" 199 y_xw_target,
  .code y_xw_target b_xw_target 1 (some .int),
  .static y_xw_target,
  .methodLink "WideMachine" 202 y_xb_add,
  .code y_xb_add b_xb_add 2 none,
  .instanceMethod y_xb_add,
  .selects "WideMachine$Branches" y_xb_add y_xb_add,
  .fieldLink "WideMachine" 58 "WideMachine" "waits" "I",
  .methodLink "WideMachine" 93 Lib.Math.max.name,
  .static Lib.Math.max.name,
  .initialized "java/lang/Math",
  .code Lib.Math.max.name Lib.Math.max.code 2 (some .int),
  .methodLink "WideMachine" 208 y_xm_valueOf,
  .code y_xm_valueOf b_xm_valueOf 5 (some .int),
  .instanceMethod y_xm_valueOf,
  .selects "WideMachine" y_xm_valueOf y_xm_valueOf,
  .methodLink "WideMachine" 211 y_xw_timeOfWrite,
  .code y_xw_timeOfWrite b_xw_timeOfWrite 1 (some .int),
  .static y_xw_timeOfWrite,
  .methodLink "WideMachine" 214 y_xq_add,
  .code y_xq_add b_xq_add 4 none,
  .instanceMethod y_xq_add,
  .selects "WideMachine$Writes" y_xq_add y_xq_add,
  .methodLink "WideMachine" 243 y_xm_poke,
  .code y_xm_poke b_xm_poke 3 (some .boolean),
  .instanceMethod y_xm_poke,
  .selects "WideMachine" y_xm_poke y_xm_poke,
  .methodLink "WideMachine" 193 y_xm_doWord,
  .code y_xm_doWord b_xm_doWord 2 none,
  .instanceMethod y_xm_doWord,
  .selects "WideMachine" y_xm_doWord y_xm_doWord,
  .methodLink "WideMachine" 196 y_xm_doStores,
  .code y_xm_doStores b_xm_doStores 4 none,
  .instanceMethod y_xm_doStores,
  .selects "WideMachine" y_xm_doStores y_xm_doStores,
  .fieldLink "WideMachine" 51 "WideMachine" "cycles" "I",
  .methodLink "WideMachine" 96 y_xm_landWrites,
  .code y_xm_landWrites b_xm_landWrites 1 none,
  .instanceMethod y_xm_landWrites,
  .selects "WideMachine" y_xm_landWrites y_xm_landWrites,
  .methodLink "WideMachine" 99 y_xm_takeBranch,
  .code y_xm_takeBranch b_xm_takeBranch 2 none,
  .instanceMethod y_xm_takeBranch,
  .selects "WideMachine" y_xm_takeBranch y_xm_takeBranch,
  .methodLink "WideMachine" 102 y_xm_takeInterrupt,
  .code y_xm_takeInterrupt b_xm_takeInterrupt 2 none,
  .instanceMethod y_xm_takeInterrupt,
  .selects "WideMachine" y_xm_takeInterrupt y_xm_takeInterrupt,
  .methodLink "WideMachine" 105 y_xm_endOfPacket,
  .code y_xm_endOfPacket b_xm_endOfPacket 3 (some .int),
  .instanceMethod y_xm_endOfPacket,
  .selects "WideMachine" y_xm_endOfPacket y_xm_endOfPacket,
  .methodLink "WideMachine" 109 y_xm_faultOfPacket,
  .code y_xm_faultOfPacket b_xm_faultOfPacket 3 (some .int),
  .instanceMethod y_xm_faultOfPacket,
  .selects "WideMachine" y_xm_faultOfPacket y_xm_faultOfPacket,
  .methodLink "WideMachine" 112 y_xm_doPacket,
  .code y_xm_doPacket b_xm_doPacket 3 none,
  .instanceMethod y_xm_doPacket,
  .selects "WideMachine" y_xm_doPacket y_xm_doPacket,
  .methodLink "WideMachine" 45 y_xm_doCycle,
  .code y_xm_doCycle b_xm_doCycle 2 none,
  .instanceMethod y_xm_doCycle,
  .selects "WideMachine" y_xm_doCycle y_xm_doCycle,
  .fieldLink "WideMachine" 54 "WideMachine$Writes" "count" "I",
  .fieldLink "WideMachine" 71 "WideMachine$Writes" "targets" "[I",
  .fieldLink "WideMachine" 74 "WideMachine$Writes" "values" "[I",
  .fieldLink "WideMachine" 77 "WideMachine$Writes" "times" "[I",
  .methodLink "WideMachine" 83 y_xq_clear,
  .code y_xq_clear b_xq_clear 1 none,
  .instanceMethod y_xq_clear,
  .selects "WideMachine$Writes" y_xq_clear y_xq_clear,
  .methodLink "WideMachine" 86 y_xb_clear,
  .code y_xb_clear b_xb_clear 1 none,
  .instanceMethod y_xb_clear,
  .selects "WideMachine$Branches" y_xb_clear y_xb_clear,
  .methodLink "WideMachine" 87 Lib.Math.min.name,
  .static Lib.Math.min.name,
  .code Lib.Math.min.name Lib.Math.min.code 2 (some .int),
  .fieldLink "WideMachineModel" 47 "WideMachineModel" "thrown" "I",
  .fieldLink "WideMachineModel" 40 "WideMachineModel" "words" "I",
  .fieldLink "WideMachineModel" 7 "WideMachineModel" "program" "[I",
  .fieldLink "WideMachineModel" 44 "WideMachineModel" "size" "I",
  .fieldLink "WideMachineModel" 13 "WideMachineModel" "data" "[I",
  .fieldLink "WideMachineModel" 16 "WideMachineModel" "registers" "[I",
  .fieldLink "WideMachineModel" 50 "WideMachineModel" "state" "I",
  .fieldLink "WideMachineModel" 53 "WideMachineModel" "address" "I",
  .fieldLink "WideMachineModel" 56 "WideMachineModel" "cycles" "I",
  .fieldLink "WideMachineModel" 59 "WideMachineModel" "writes" "I",
  .fieldLink "WideMachineModel" 62 "WideMachineModel" "branches" "I",
  .fieldLink "WideMachineModel" 65 "WideMachineModel" "wait" "I",
  .fieldLink "WideMachineModel" 68 "WideMachineModel" "back" "I",
  .fieldLink "WideMachineModel" 71 "WideMachineModel" "letIn" "Z",
  .fieldLink "WideMachineModel" 75 "WideMachineModel" "raised" "I",
  .fieldLink "WideMachineModel" 19 "WideMachineModel" "register" "[I",
  .fieldLink "WideMachineModel" 22 "WideMachineModel" "value" "[I",
  .fieldLink "WideMachineModel" 25 "WideMachineModel" "when" "[I",
  .fieldLink "WideMachineModel" 31 "WideMachineModel" "goes" "[I",
  .fieldLink "WideMachineModel" 28 "WideMachineModel" "target" "[I",
  .methodLink "WideMachineModel" 81 y_mm_kind,
  .code y_mm_kind b_mm_kind 1 (some .int),
  .initialized "WideMachineModel",
  .static y_mm_kind,
  .methodLink "WideMachineModel" 85 y_mm_operation,
  .code y_mm_operation b_mm_operation 1 (some .int),
  .static y_mm_operation,
  .methodLink "WideMachineModel" 88 y_mm_isS,
  .code y_mm_isS b_mm_isS 3 (some .boolean),
  .static y_mm_isS,
  .methodLink "WideMachineModel" 92 y_mm_unit,
  .code y_mm_unit b_mm_unit 1 (some .int),
  .static y_mm_unit,
  .methodLink "WideMachineModel" 95 y_mm_condition,
  .code y_mm_condition b_mm_condition 1 (some .int),
  .static y_mm_condition,
  .methodLink "WideMachineModel" 98 y_mm_hasD,
  .code y_mm_hasD b_mm_hasD 1 (some .boolean),
  .static y_mm_hasD,
  .methodLink "WideMachineModel" 102 y_mm_d,
  .code y_mm_d b_mm_d 1 (some .int),
  .static y_mm_d,
  .methodLink "WideMachineModel" 105 y_mm_isOther,
  .code y_mm_isOther b_mm_isOther 2 (some .boolean),
  .static y_mm_isOther,
  .methodLink "WideMachineModel" 109 y_mm_hasA,
  .code y_mm_hasA b_mm_hasA 1 (some .boolean),
  .static y_mm_hasA,
  .methodLink "WideMachineModel" 112 y_mm_a,
  .code y_mm_a b_mm_a 1 (some .int),
  .static y_mm_a,
  .methodLink "WideMachineModel" 138 y_mm_isNumber,
  .code y_mm_isNumber b_mm_isNumber 1 (some .boolean),
  .static y_mm_isNumber,
  .methodLink "WideMachineModel" 141 y_mm_b,
  .code y_mm_b b_mm_b 1 (some .int),
  .static y_mm_b,
  .methodLink "WideMachineModel" 166 y_mm_second,
  .code y_mm_second b_mm_second 2 (some .int),
  .instanceMethod y_mm_second,
  .selects "WideMachineModel" y_mm_second y_mm_second,
  .methodLink "WideMachineModel" 132 y_mm_isIll,
  .code y_mm_isIll b_mm_isIll 4 (some .boolean),
  .static y_mm_isIll,
  .methodLink "WideMachineModel" 135 y_mm_hasB,
  .code y_mm_hasB b_mm_hasB 1 (some .boolean),
  .static y_mm_hasB,
  .methodLink "WideMachineModel" 144 y_mm_isDone,
  .code y_mm_isDone b_mm_isDone 4 (some .boolean),
  .instanceMethod y_mm_isDone,
  .selects "WideMachineModel" y_mm_isDone y_mm_isDone,
  .methodLink "WideMachineModel" 147 y_mm_reaches,
  .code y_mm_reaches b_mm_reaches 3 (some .boolean),
  .instanceMethod y_mm_reaches,
  .selects "WideMachineModel" y_mm_reaches y_mm_reaches,
  .methodLink "WideMachineModel" 162 y_mm_write,
  .code y_mm_write b_mm_write 4 none,
  .instanceMethod y_mm_write,
  .selects "WideMachineModel" y_mm_write y_mm_write,
  .fieldLink "WideMachineModel" 34 "WideMachineModel" "where" "[I",
  .fieldLink "WideMachineModel" 150 "WideMachineModel" "stores" "I",
  .fieldLink "WideMachineModel" 37 "WideMachineModel" "what" "[I",
  .constantLong "WideMachineModel" 179 2147483647,
  .constant "WideMachineModel" 181 2147483647,
  .constantLong "WideMachineModel" 182 (-2147483648),
  .constant "WideMachineModel" 184 (-2147483648),
  .constant "WideMachineModel" 185 65535,
  .constant "WideMachineModel" 186 1073741824,
  .methodLink "WideMachineModel" 169 y_mm_logic,
  .code y_mm_logic b_mm_logic 5 (some .int),
  .static y_mm_logic,
  .methodLink "WideMachineModel" 173 y_mm_shift,
  .code y_mm_shift b_mm_shift 5 (some .int),
  .instanceMethod y_mm_shift,
  .selects "WideMachineModel" y_mm_shift y_mm_shift,
  .methodLink "WideMachineModel" 176 y_mm_product,
  .code y_mm_product b_mm_product 4 (some .int),
  .static y_mm_product,
  .methodLink "WideMachineModel" 153 y_mm_controls,
  .code y_mm_controls b_mm_controls 4 none,
  .instanceMethod y_mm_controls,
  .selects "WideMachineModel" y_mm_controls y_mm_controls,
  .methodLink "WideMachineModel" 156 y_mm_meets,
  .code y_mm_meets b_mm_meets 3 none,
  .instanceMethod y_mm_meets,
  .selects "WideMachineModel" y_mm_meets y_mm_meets,
  .methodLink "WideMachineModel" 159 y_mm_works,
  .code y_mm_works b_mm_works 5 (some .int),
  .instanceMethod y_mm_works,
  .selects "WideMachineModel" y_mm_works y_mm_works,
  .methodLink "WideMachineModel" 115 y_mm_lands,
  .code y_mm_lands b_mm_lands 3 (some .int),
  .instanceMethod y_mm_lands,
  .selects "WideMachineModel" y_mm_lands y_mm_lands,
  .methodLink "WideMachineModel" 119 y_mm_arrives,
  .code y_mm_arrives b_mm_arrives 3 (some .int),
  .instanceMethod y_mm_arrives,
  .selects "WideMachineModel" y_mm_arrives y_mm_arrives,
  .methodLink "WideMachineModel" 122 y_mm_interrupts,
  .code y_mm_interrupts b_mm_interrupts 2 none,
  .instanceMethod y_mm_interrupts,
  .selects "WideMachineModel" y_mm_interrupts y_mm_interrupts,
  .methodLink "WideMachineModel" 125 y_mm_wrong,
  .code y_mm_wrong b_mm_wrong 6 (some .int),
  .instanceMethod y_mm_wrong,
  .selects "WideMachineModel" y_mm_wrong y_mm_wrong,
  .methodLink "WideMachineModel" 128 y_mm_packet,
  .code y_mm_packet b_mm_packet 5 none,
  .instanceMethod y_mm_packet,
  .selects "WideMachineModel" y_mm_packet y_mm_packet,
  .methodLink "WideMachineModel" 78 y_mm_cycle,
  .code y_mm_cycle b_mm_cycle 3 none,
  .instanceMethod y_mm_cycle,
  .selects "WideMachineModel" y_mm_cycle y_mm_cycle]
theorem vm_0 : Cond.laysFinal "WideMachine" "WideMachine" "program" "[I" ∈ vw_T := List.mem_of_getElem? (i := 0) rfl
theorem vm_1 : Cond.laysFinal "WideMachine" "WideMachine" "data" "[I" ∈ vw_T := List.mem_of_getElem? (i := 1) rfl
theorem vm_2 : Cond.laysFinal "WideMachine" "WideMachine" "registers" "[I" ∈ vw_T := List.mem_of_getElem? (i := 2) rfl
theorem vm_3 : Cond.laysFinal "WideMachine" "WideMachine" "writes" "LWideMachine$Writes;" ∈ vw_T := List.mem_of_getElem? (i := 3) rfl
theorem vm_4 : Cond.laysFinal "WideMachine" "WideMachine" "branches" "LWideMachine$Branches;" ∈ vw_T := List.mem_of_getElem? (i := 4) rfl
theorem vm_5 : Cond.lays "WideMachine" "WideMachine" "state" "I" ∈ vw_T := List.mem_of_getElem? (i := 5) rfl
theorem vm_6 : Cond.lays "WideMachine" "WideMachine" "address" "I" ∈ vw_T := List.mem_of_getElem? (i := 6) rfl
theorem vm_7 : Cond.lays "WideMachine" "WideMachine" "cycles" "I" ∈ vw_T := List.mem_of_getElem? (i := 7) rfl
theorem vm_8 : Cond.lays "WideMachine" "WideMachine" "waits" "I" ∈ vw_T := List.mem_of_getElem? (i := 8) rfl
theorem vm_9 : Cond.lays "WideMachine" "WideMachine" "returnAddress" "I" ∈ vw_T := List.mem_of_getElem? (i := 9) rfl
theorem vm_10 : Cond.lays "WideMachine" "WideMachine" "raisedLines" "I" ∈ vw_T := List.mem_of_getElem? (i := 10) rfl
theorem vm_11 : Cond.lays "WideMachine" "WideMachine" "letsIn" "Z" ∈ vw_T := List.mem_of_getElem? (i := 11) rfl
theorem vm_12 : Cond.laysFinal "WideMachine$Writes" "WideMachine$Writes" "targets" "[I" ∈ vw_T := List.mem_of_getElem? (i := 12) rfl
theorem vm_13 : Cond.laysFinal "WideMachine$Writes" "WideMachine$Writes" "values" "[I" ∈ vw_T := List.mem_of_getElem? (i := 13) rfl
theorem vm_14 : Cond.laysFinal "WideMachine$Writes" "WideMachine$Writes" "times" "[I" ∈ vw_T := List.mem_of_getElem? (i := 14) rfl
theorem vm_15 : Cond.lays "WideMachine$Writes" "WideMachine$Writes" "count" "I" ∈ vw_T := List.mem_of_getElem? (i := 15) rfl
theorem vm_16 : Cond.laysFinal "WideMachine$Branches" "WideMachine$Branches" "targets" "[I" ∈ vw_T := List.mem_of_getElem? (i := 16) rfl
theorem vm_17 : Cond.laysFinal "WideMachine$Branches" "WideMachine$Branches" "times" "[I" ∈ vw_T := List.mem_of_getElem? (i := 17) rfl
theorem vm_18 : Cond.lays "WideMachine$Branches" "WideMachine$Branches" "count" "I" ∈ vw_T := List.mem_of_getElem? (i := 18) rfl
theorem vm_19 : Cond.lays "WideMachineModel" "WideMachineModel" "thrown" "I" ∈ vw_T := List.mem_of_getElem? (i := 19) rfl
theorem vm_20 : Cond.laysFinal "WideMachineModel" "WideMachineModel" "words" "I" ∈ vw_T := List.mem_of_getElem? (i := 20) rfl
theorem vm_21 : Cond.laysFinal "WideMachineModel" "WideMachineModel" "size" "I" ∈ vw_T := List.mem_of_getElem? (i := 21) rfl
theorem vm_22 : Cond.laysFinal "WideMachineModel" "WideMachineModel" "program" "[I" ∈ vw_T := List.mem_of_getElem? (i := 22) rfl
theorem vm_23 : Cond.laysFinal "WideMachineModel" "WideMachineModel" "data" "[I" ∈ vw_T := List.mem_of_getElem? (i := 23) rfl
theorem vm_24 : Cond.laysFinal "WideMachineModel" "WideMachineModel" "registers" "[I" ∈ vw_T := List.mem_of_getElem? (i := 24) rfl
theorem vm_25 : Cond.lays "WideMachineModel" "WideMachineModel" "state" "I" ∈ vw_T := List.mem_of_getElem? (i := 25) rfl
theorem vm_26 : Cond.lays "WideMachineModel" "WideMachineModel" "address" "I" ∈ vw_T := List.mem_of_getElem? (i := 26) rfl
theorem vm_27 : Cond.lays "WideMachineModel" "WideMachineModel" "cycles" "I" ∈ vw_T := List.mem_of_getElem? (i := 27) rfl
theorem vm_28 : Cond.lays "WideMachineModel" "WideMachineModel" "wait" "I" ∈ vw_T := List.mem_of_getElem? (i := 28) rfl
theorem vm_29 : Cond.lays "WideMachineModel" "WideMachineModel" "back" "I" ∈ vw_T := List.mem_of_getElem? (i := 29) rfl
theorem vm_30 : Cond.lays "WideMachineModel" "WideMachineModel" "letIn" "Z" ∈ vw_T := List.mem_of_getElem? (i := 30) rfl
theorem vm_31 : Cond.lays "WideMachineModel" "WideMachineModel" "raised" "I" ∈ vw_T := List.mem_of_getElem? (i := 31) rfl
theorem vm_32 : Cond.lays "WideMachineModel" "WideMachineModel" "writes" "I" ∈ vw_T := List.mem_of_getElem? (i := 32) rfl
theorem vm_33 : Cond.laysFinal "WideMachineModel" "WideMachineModel" "register" "[I" ∈ vw_T := List.mem_of_getElem? (i := 33) rfl
theorem vm_34 : Cond.laysFinal "WideMachineModel" "WideMachineModel" "value" "[I" ∈ vw_T := List.mem_of_getElem? (i := 34) rfl
theorem vm_35 : Cond.laysFinal "WideMachineModel" "WideMachineModel" "when" "[I" ∈ vw_T := List.mem_of_getElem? (i := 35) rfl
theorem vm_36 : Cond.lays "WideMachineModel" "WideMachineModel" "branches" "I" ∈ vw_T := List.mem_of_getElem? (i := 36) rfl
theorem vm_37 : Cond.laysFinal "WideMachineModel" "WideMachineModel" "target" "[I" ∈ vw_T := List.mem_of_getElem? (i := 37) rfl
theorem vm_38 : Cond.laysFinal "WideMachineModel" "WideMachineModel" "goes" "[I" ∈ vw_T := List.mem_of_getElem? (i := 38) rfl
theorem vm_39 : Cond.lays "WideMachineModel" "WideMachineModel" "stores" "I" ∈ vw_T := List.mem_of_getElem? (i := 39) rfl
theorem vm_40 : Cond.laysFinal "WideMachineModel" "WideMachineModel" "where" "[I" ∈ vw_T := List.mem_of_getElem? (i := 40) rfl
theorem vm_41 : Cond.laysFinal "WideMachineModel" "WideMachineModel" "what" "[I" ∈ vw_T := List.mem_of_getElem? (i := 41) rfl
theorem vm_42 : Cond.fieldLink "WideMachine" 13 "WideMachine" "program" "[I" ∈ vw_T := List.mem_of_getElem? (i := 42) rfl
theorem vm_43 : Cond.fieldLink "WideMachine" 17 "WideMachine" "data" "[I" ∈ vw_T := List.mem_of_getElem? (i := 43) rfl
theorem vm_44 : Cond.methodLink "WideMachine" 37 y_xm_isInData ∈ vw_T := List.mem_of_getElem? (i := 44) rfl
theorem vm_45 : Cond.code y_xm_isInData b_xm_isInData 2 (some .boolean) ∈ vw_T := List.mem_of_getElem? (i := 45) rfl
theorem vm_46 : Cond.initialized "WideMachine" ∈ vw_T := List.mem_of_getElem? (i := 46) rfl
theorem vm_47 : Cond.instanceMethod y_xm_isInData ∈ vw_T := List.mem_of_getElem? (i := 47) rfl
theorem vm_48 : Cond.selects "WideMachine" y_xm_isInData y_xm_isInData ∈ vw_T := List.mem_of_getElem? (i := 48) rfl
theorem vm_49 : Cond.fieldLink "WideMachine" 20 "WideMachine" "registers" "[I" ∈ vw_T := List.mem_of_getElem? (i := 49) rfl
theorem vm_50 : Cond.fieldLink "WideMachine$Writes" 19 "WideMachine$Writes" "count" "I" ∈ vw_T := List.mem_of_getElem? (i := 50) rfl
theorem vm_51 : Cond.fieldLink "WideMachine$Writes" 16 "WideMachine$Writes" "times" "[I" ∈ vw_T := List.mem_of_getElem? (i := 51) rfl
theorem vm_52 : Cond.fieldLink "WideMachine$Writes" 9 "WideMachine$Writes" "targets" "[I" ∈ vw_T := List.mem_of_getElem? (i := 52) rfl
theorem vm_53 : Cond.fieldLink "WideMachine$Writes" 13 "WideMachine$Writes" "values" "[I" ∈ vw_T := List.mem_of_getElem? (i := 53) rfl
theorem vm_54 : Cond.fieldLink "WideMachine" 26 "WideMachine" "writes" "LWideMachine$Writes;" ∈ vw_T := List.mem_of_getElem? (i := 54) rfl
theorem vm_55 : Cond.methodLink "WideMachine" 116 y_xq_comeNearer ∈ vw_T := List.mem_of_getElem? (i := 55) rfl
theorem vm_56 : Cond.code y_xq_comeNearer b_xq_comeNearer 2 none ∈ vw_T := List.mem_of_getElem? (i := 56) rfl
theorem vm_57 : Cond.initialized "WideMachine$Writes" ∈ vw_T := List.mem_of_getElem? (i := 57) rfl
theorem vm_58 : Cond.instanceMethod y_xq_comeNearer ∈ vw_T := List.mem_of_getElem? (i := 58) rfl
theorem vm_59 : Cond.selects "WideMachine$Writes" y_xq_comeNearer y_xq_comeNearer ∈ vw_T := List.mem_of_getElem? (i := 59) rfl
theorem vm_60 : Cond.methodLink "WideMachine" 119 y_xq_clash ∈ vw_T := List.mem_of_getElem? (i := 60) rfl
theorem vm_61 : Cond.code y_xq_clash b_xq_clash 4 (some .boolean) ∈ vw_T := List.mem_of_getElem? (i := 61) rfl
theorem vm_62 : Cond.instanceMethod y_xq_clash ∈ vw_T := List.mem_of_getElem? (i := 62) rfl
theorem vm_63 : Cond.selects "WideMachine$Writes" y_xq_clash y_xq_clash ∈ vw_T := List.mem_of_getElem? (i := 63) rfl
theorem vm_64 : Cond.fieldLink "WideMachine" 41 "WideMachine" "state" "I" ∈ vw_T := List.mem_of_getElem? (i := 64) rfl
theorem vm_65 : Cond.methodLink "WideMachine" 123 y_xq_land ∈ vw_T := List.mem_of_getElem? (i := 65) rfl
theorem vm_66 : Cond.code y_xq_land b_xq_land 4 none ∈ vw_T := List.mem_of_getElem? (i := 66) rfl
theorem vm_67 : Cond.instanceMethod y_xq_land ∈ vw_T := List.mem_of_getElem? (i := 67) rfl
theorem vm_68 : Cond.selects "WideMachine$Writes" y_xq_land y_xq_land ∈ vw_T := List.mem_of_getElem? (i := 68) rfl
theorem vm_69 : Cond.fieldLink "WideMachine$Branches" 16 "WideMachine$Branches" "count" "I" ∈ vw_T := List.mem_of_getElem? (i := 69) rfl
theorem vm_70 : Cond.fieldLink "WideMachine$Branches" 13 "WideMachine$Branches" "times" "[I" ∈ vw_T := List.mem_of_getElem? (i := 70) rfl
theorem vm_71 : Cond.fieldLink "WideMachine$Branches" 9 "WideMachine$Branches" "targets" "[I" ∈ vw_T := List.mem_of_getElem? (i := 71) rfl
theorem vm_72 : Cond.fieldLink "WideMachine" 33 "WideMachine" "branches" "LWideMachine$Branches;" ∈ vw_T := List.mem_of_getElem? (i := 72) rfl
theorem vm_73 : Cond.methodLink "WideMachine" 127 y_xb_comeNearer ∈ vw_T := List.mem_of_getElem? (i := 73) rfl
theorem vm_74 : Cond.code y_xb_comeNearer b_xb_comeNearer 2 none ∈ vw_T := List.mem_of_getElem? (i := 74) rfl
theorem vm_75 : Cond.initialized "WideMachine$Branches" ∈ vw_T := List.mem_of_getElem? (i := 75) rfl
theorem vm_76 : Cond.instanceMethod y_xb_comeNearer ∈ vw_T := List.mem_of_getElem? (i := 76) rfl
theorem vm_77 : Cond.selects "WideMachine$Branches" y_xb_comeNearer y_xb_comeNearer ∈ vw_T := List.mem_of_getElem? (i := 77) rfl
theorem vm_78 : Cond.methodLink "WideMachine" 128 y_xb_arrived ∈ vw_T := List.mem_of_getElem? (i := 78) rfl
theorem vm_79 : Cond.code y_xb_arrived b_xb_arrived 2 (some .int) ∈ vw_T := List.mem_of_getElem? (i := 79) rfl
theorem vm_80 : Cond.instanceMethod y_xb_arrived ∈ vw_T := List.mem_of_getElem? (i := 80) rfl
theorem vm_81 : Cond.selects "WideMachine$Branches" y_xb_arrived y_xb_arrived ∈ vw_T := List.mem_of_getElem? (i := 81) rfl
theorem vm_82 : Cond.methodLink "WideMachine" 131 y_xb_takeFirst ∈ vw_T := List.mem_of_getElem? (i := 82) rfl
theorem vm_83 : Cond.code y_xb_takeFirst b_xb_takeFirst 3 (some .int) ∈ vw_T := List.mem_of_getElem? (i := 83) rfl
theorem vm_84 : Cond.instanceMethod y_xb_takeFirst ∈ vw_T := List.mem_of_getElem? (i := 84) rfl
theorem vm_85 : Cond.selects "WideMachine$Branches" y_xb_takeFirst y_xb_takeFirst ∈ vw_T := List.mem_of_getElem? (i := 85) rfl
theorem vm_86 : Cond.fieldLink "WideMachine" 48 "WideMachine" "address" "I" ∈ vw_T := List.mem_of_getElem? (i := 86) rfl
theorem vm_87 : Cond.fieldLink "WideMachine" 68 "WideMachine" "raisedLines" "I" ∈ vw_T := List.mem_of_getElem? (i := 87) rfl
theorem vm_88 : Cond.fieldLink "WideMachine" 64 "WideMachine" "letsIn" "Z" ∈ vw_T := List.mem_of_getElem? (i := 88) rfl
theorem vm_89 : Cond.fieldLink "WideMachine" 57 "WideMachine$Branches" "count" "I" ∈ vw_T := List.mem_of_getElem? (i := 89) rfl
theorem vm_90 : Cond.methodLink "WideMachine" 80 y_xm_isRaised ∈ vw_T := List.mem_of_getElem? (i := 90) rfl
theorem vm_91 : Cond.code y_xm_isRaised b_xm_isRaised 2 (some .boolean) ∈ vw_T := List.mem_of_getElem? (i := 91) rfl
theorem vm_92 : Cond.instanceMethod y_xm_isRaised ∈ vw_T := List.mem_of_getElem? (i := 92) rfl
theorem vm_93 : Cond.selects "WideMachine" y_xm_isRaised y_xm_isRaised ∈ vw_T := List.mem_of_getElem? (i := 93) rfl
theorem vm_94 : Cond.fieldLink "WideMachine" 61 "WideMachine" "returnAddress" "I" ∈ vw_T := List.mem_of_getElem? (i := 94) rfl
theorem vm_95 : Cond.methodLink "WideMachine" 134 y_xw_goesOn ∈ vw_T := List.mem_of_getElem? (i := 95) rfl
theorem vm_96 : Cond.code y_xw_goesOn b_xw_goesOn 1 (some .boolean) ∈ vw_T := List.mem_of_getElem? (i := 96) rfl
theorem vm_97 : Cond.initialized "WideMachine$Word" ∈ vw_T := List.mem_of_getElem? (i := 97) rfl
theorem vm_98 : Cond.static y_xw_goesOn ∈ vw_T := List.mem_of_getElem? (i := 98) rfl
theorem vm_99 : Cond.methodLink "WideMachine$Word" 9 y_xw_code ∈ vw_T := List.mem_of_getElem? (i := 99) rfl
theorem vm_100 : Cond.code y_xw_code b_xw_code 1 (some .int) ∈ vw_T := List.mem_of_getElem? (i := 100) rfl
theorem vm_101 : Cond.static y_xw_code ∈ vw_T := List.mem_of_getElem? (i := 101) rfl
theorem vm_102 : Cond.methodLink "WideMachine$Word" 18 y_xw_isOnZero ∈ vw_T := List.mem_of_getElem? (i := 102) rfl
theorem vm_103 : Cond.code y_xw_isOnZero b_xw_isOnZero 1 (some .boolean) ∈ vw_T := List.mem_of_getElem? (i := 103) rfl
theorem vm_104 : Cond.static y_xw_isOnZero ∈ vw_T := List.mem_of_getElem? (i := 104) rfl
theorem vm_105 : Cond.methodLink "WideMachine$Word" 22 y_xw_isOperation ∈ vw_T := List.mem_of_getElem? (i := 105) rfl
theorem vm_106 : Cond.code y_xw_isOperation b_xw_isOperation 1 (some .boolean) ∈ vw_T := List.mem_of_getElem? (i := 106) rfl
theorem vm_107 : Cond.static y_xw_isOperation ∈ vw_T := List.mem_of_getElem? (i := 107) rfl
theorem vm_108 : Cond.methodLink "WideMachine$Word" 25 y_xw_hasLongNumber ∈ vw_T := List.mem_of_getElem? (i := 108) rfl
theorem vm_109 : Cond.code y_xw_hasLongNumber b_xw_hasLongNumber 1 (some .boolean) ∈ vw_T := List.mem_of_getElem? (i := 109) rfl
theorem vm_110 : Cond.static y_xw_hasLongNumber ∈ vw_T := List.mem_of_getElem? (i := 110) rfl
theorem vm_111 : Cond.methodLink "WideMachine$Word" 28 y_xw_hasD ∈ vw_T := List.mem_of_getElem? (i := 111) rfl
theorem vm_112 : Cond.code y_xw_hasD b_xw_hasD 1 (some .boolean) ∈ vw_T := List.mem_of_getElem? (i := 112) rfl
theorem vm_113 : Cond.static y_xw_hasD ∈ vw_T := List.mem_of_getElem? (i := 113) rfl
theorem vm_114 : Cond.methodLink "WideMachine$Word" 31 y_xw_d ∈ vw_T := List.mem_of_getElem? (i := 114) rfl
theorem vm_115 : Cond.code y_xw_d b_xw_d 1 (some .int) ∈ vw_T := List.mem_of_getElem? (i := 115) rfl
theorem vm_116 : Cond.static y_xw_d ∈ vw_T := List.mem_of_getElem? (i := 116) rfl
theorem vm_117 : Cond.methodLink "WideMachine$Word" 34 y_xw_side ∈ vw_T := List.mem_of_getElem? (i := 117) rfl
theorem vm_118 : Cond.code y_xw_side b_xw_side 1 (some .int) ∈ vw_T := List.mem_of_getElem? (i := 118) rfl
theorem vm_119 : Cond.static y_xw_side ∈ vw_T := List.mem_of_getElem? (i := 119) rfl
theorem vm_120 : Cond.methodLink "WideMachine$Word" 37 y_xw_hasA ∈ vw_T := List.mem_of_getElem? (i := 120) rfl
theorem vm_121 : Cond.code y_xw_hasA b_xw_hasA 1 (some .boolean) ∈ vw_T := List.mem_of_getElem? (i := 121) rfl
theorem vm_122 : Cond.static y_xw_hasA ∈ vw_T := List.mem_of_getElem? (i := 122) rfl
theorem vm_123 : Cond.methodLink "WideMachine$Word" 40 y_xw_a ∈ vw_T := List.mem_of_getElem? (i := 123) rfl
theorem vm_124 : Cond.code y_xw_a b_xw_a 1 (some .int) ∈ vw_T := List.mem_of_getElem? (i := 124) rfl
theorem vm_125 : Cond.static y_xw_a ∈ vw_T := List.mem_of_getElem? (i := 125) rfl
theorem vm_126 : Cond.methodLink "WideMachine" 151 y_xw_isIllFormed ∈ vw_T := List.mem_of_getElem? (i := 126) rfl
theorem vm_127 : Cond.code y_xw_isIllFormed b_xw_isIllFormed 3 (some .boolean) ∈ vw_T := List.mem_of_getElem? (i := 127) rfl
theorem vm_128 : Cond.static y_xw_isIllFormed ∈ vw_T := List.mem_of_getElem? (i := 128) rfl
theorem vm_129 : Cond.methodLink "WideMachine" 154 y_xw_unit ∈ vw_T := List.mem_of_getElem? (i := 129) rfl
theorem vm_130 : Cond.code y_xw_unit b_xw_unit 1 (some .int) ∈ vw_T := List.mem_of_getElem? (i := 130) rfl
theorem vm_131 : Cond.static y_xw_unit ∈ vw_T := List.mem_of_getElem? (i := 131) rfl
theorem vm_132 : Cond.methodLink "WideMachine$Word" 43 y_xw_hasB ∈ vw_T := List.mem_of_getElem? (i := 132) rfl
theorem vm_133 : Cond.code y_xw_hasB b_xw_hasB 1 (some .boolean) ∈ vw_T := List.mem_of_getElem? (i := 133) rfl
theorem vm_134 : Cond.static y_xw_hasB ∈ vw_T := List.mem_of_getElem? (i := 134) rfl
theorem vm_135 : Cond.methodLink "WideMachine$Word" 46 y_xw_isNumberB ∈ vw_T := List.mem_of_getElem? (i := 135) rfl
theorem vm_136 : Cond.code y_xw_isNumberB b_xw_isNumberB 1 (some .boolean) ∈ vw_T := List.mem_of_getElem? (i := 136) rfl
theorem vm_137 : Cond.static y_xw_isNumberB ∈ vw_T := List.mem_of_getElem? (i := 137) rfl
theorem vm_138 : Cond.methodLink "WideMachine$Word" 49 y_xw_b ∈ vw_T := List.mem_of_getElem? (i := 138) rfl
theorem vm_139 : Cond.code y_xw_b b_xw_b 1 (some .int) ∈ vw_T := List.mem_of_getElem? (i := 139) rfl
theorem vm_140 : Cond.static y_xw_b ∈ vw_T := List.mem_of_getElem? (i := 140) rfl
theorem vm_141 : Cond.methodLink "WideMachine" 157 y_xw_crosses ∈ vw_T := List.mem_of_getElem? (i := 141) rfl
theorem vm_142 : Cond.code y_xw_crosses b_xw_crosses 1 (some .boolean) ∈ vw_T := List.mem_of_getElem? (i := 142) rfl
theorem vm_143 : Cond.static y_xw_crosses ∈ vw_T := List.mem_of_getElem? (i := 143) rfl
theorem vm_144 : Cond.methodLink "WideMachine" 160 y_xw_side ∈ vw_T := List.mem_of_getElem? (i := 144) rfl
theorem vm_145 : Cond.methodLink "WideMachine" 172 y_xw_conditionRegister ∈ vw_T := List.mem_of_getElem? (i := 145) rfl
theorem vm_146 : Cond.code y_xw_conditionRegister b_xw_conditionRegister 1 (some .int) ∈ vw_T := List.mem_of_getElem? (i := 146) rfl
theorem vm_147 : Cond.static y_xw_conditionRegister ∈ vw_T := List.mem_of_getElem? (i := 147) rfl
theorem vm_148 : Cond.methodLink "WideMachine" 175 y_xw_isOnZero ∈ vw_T := List.mem_of_getElem? (i := 148) rfl
theorem vm_149 : Cond.methodLink "WideMachine" 184 y_xw_isNumberB ∈ vw_T := List.mem_of_getElem? (i := 149) rfl
theorem vm_150 : Cond.methodLink "WideMachine" 187 y_xw_numberB ∈ vw_T := List.mem_of_getElem? (i := 150) rfl
theorem vm_151 : Cond.code y_xw_numberB b_xw_numberB 1 (some .int) ∈ vw_T := List.mem_of_getElem? (i := 151) rfl
theorem vm_152 : Cond.static y_xw_numberB ∈ vw_T := List.mem_of_getElem? (i := 152) rfl
theorem vm_153 : Cond.methodLink "WideMachine" 190 y_xw_b ∈ vw_T := List.mem_of_getElem? (i := 153) rfl
theorem vm_154 : Cond.methodLink "WideMachine" 178 y_xw_a ∈ vw_T := List.mem_of_getElem? (i := 154) rfl
theorem vm_155 : Cond.methodLink "WideMachine" 181 y_xm_operandB ∈ vw_T := List.mem_of_getElem? (i := 155) rfl
theorem vm_156 : Cond.code y_xm_operandB b_xm_operandB 2 (some .int) ∈ vw_T := List.mem_of_getElem? (i := 156) rfl
theorem vm_157 : Cond.instanceMethod y_xm_operandB ∈ vw_T := List.mem_of_getElem? (i := 157) rfl
theorem vm_158 : Cond.selects "WideMachine" y_xm_operandB y_xm_operandB ∈ vw_T := List.mem_of_getElem? (i := 158) rfl
theorem vm_159 : Cond.methodLink "WideMachine" 163 y_xw_code ∈ vw_T := List.mem_of_getElem? (i := 159) rfl
theorem vm_160 : Cond.methodLink "WideMachine" 166 y_xm_isConditionTrue ∈ vw_T := List.mem_of_getElem? (i := 160) rfl
theorem vm_161 : Cond.code y_xm_isConditionTrue b_xm_isConditionTrue 3 (some .boolean) ∈ vw_T := List.mem_of_getElem? (i := 161) rfl
theorem vm_162 : Cond.instanceMethod y_xm_isConditionTrue ∈ vw_T := List.mem_of_getElem? (i := 162) rfl
theorem vm_163 : Cond.selects "WideMachine" y_xm_isConditionTrue y_xm_isConditionTrue ∈ vw_T := List.mem_of_getElem? (i := 163) rfl
theorem vm_164 : Cond.methodLink "WideMachine" 169 y_xm_dataAddress ∈ vw_T := List.mem_of_getElem? (i := 164) rfl
theorem vm_165 : Cond.code y_xm_dataAddress b_xm_dataAddress 2 (some .int) ∈ vw_T := List.mem_of_getElem? (i := 165) rfl
theorem vm_166 : Cond.instanceMethod y_xm_dataAddress ∈ vw_T := List.mem_of_getElem? (i := 166) rfl
theorem vm_167 : Cond.selects "WideMachine" y_xm_dataAddress y_xm_dataAddress ∈ vw_T := List.mem_of_getElem? (i := 167) rfl
theorem vm_168 : Cond.methodLink "WideMachine" 139 y_xm_hasIllFormed ∈ vw_T := List.mem_of_getElem? (i := 168) rfl
theorem vm_169 : Cond.code y_xm_hasIllFormed b_xm_hasIllFormed 3 (some .boolean) ∈ vw_T := List.mem_of_getElem? (i := 169) rfl
theorem vm_170 : Cond.instanceMethod y_xm_hasIllFormed ∈ vw_T := List.mem_of_getElem? (i := 170) rfl
theorem vm_171 : Cond.selects "WideMachine" y_xm_hasIllFormed y_xm_hasIllFormed ∈ vw_T := List.mem_of_getElem? (i := 171) rfl
theorem vm_172 : Cond.methodLink "WideMachine" 142 y_xm_hasUnitTwice ∈ vw_T := List.mem_of_getElem? (i := 172) rfl
theorem vm_173 : Cond.code y_xm_hasUnitTwice b_xm_hasUnitTwice 5 (some .boolean) ∈ vw_T := List.mem_of_getElem? (i := 173) rfl
theorem vm_174 : Cond.instanceMethod y_xm_hasUnitTwice ∈ vw_T := List.mem_of_getElem? (i := 174) rfl
theorem vm_175 : Cond.selects "WideMachine" y_xm_hasUnitTwice y_xm_hasUnitTwice ∈ vw_T := List.mem_of_getElem? (i := 175) rfl
theorem vm_176 : Cond.methodLink "WideMachine" 145 y_xm_hasCrossedTwice ∈ vw_T := List.mem_of_getElem? (i := 176) rfl
theorem vm_177 : Cond.code y_xm_hasCrossedTwice b_xm_hasCrossedTwice 5 (some .boolean) ∈ vw_T := List.mem_of_getElem? (i := 177) rfl
theorem vm_178 : Cond.instanceMethod y_xm_hasCrossedTwice ∈ vw_T := List.mem_of_getElem? (i := 178) rfl
theorem vm_179 : Cond.selects "WideMachine" y_xm_hasCrossedTwice y_xm_hasCrossedTwice ∈ vw_T := List.mem_of_getElem? (i := 179) rfl
theorem vm_180 : Cond.methodLink "WideMachine" 148 y_xm_goesBeyondData ∈ vw_T := List.mem_of_getElem? (i := 180) rfl
theorem vm_181 : Cond.code y_xm_goesBeyondData b_xm_goesBeyondData 6 (some .boolean) ∈ vw_T := List.mem_of_getElem? (i := 181) rfl
theorem vm_182 : Cond.instanceMethod y_xm_goesBeyondData ∈ vw_T := List.mem_of_getElem? (i := 182) rfl
theorem vm_183 : Cond.selects "WideMachine" y_xm_goesBeyondData y_xm_goesBeyondData ∈ vw_T := List.mem_of_getElem? (i := 183) rfl
theorem vm_184 : Cond.constantLong "WideMachine$Values" 20 2147483647 ∈ vw_T := List.mem_of_getElem? (i := 184) rfl
theorem vm_185 : Cond.constant "WideMachine$Values" 22 2147483647 ∈ vw_T := List.mem_of_getElem? (i := 185) rfl
theorem vm_186 : Cond.constantLong "WideMachine$Values" 23 (-2147483648) ∈ vw_T := List.mem_of_getElem? (i := 186) rfl
theorem vm_187 : Cond.constant "WideMachine$Values" 25 (-2147483648) ∈ vw_T := List.mem_of_getElem? (i := 187) rfl
theorem vm_188 : Cond.methodLink "WideMachine$Values" 7 y_xv_nearestInt ∈ vw_T := List.mem_of_getElem? (i := 188) rfl
theorem vm_189 : Cond.code y_xv_nearestInt b_xv_nearestInt 2 (some .int) ∈ vw_T := List.mem_of_getElem? (i := 189) rfl
theorem vm_190 : Cond.initialized "WideMachine$Values" ∈ vw_T := List.mem_of_getElem? (i := 190) rfl
theorem vm_191 : Cond.static y_xv_nearestInt ∈ vw_T := List.mem_of_getElem? (i := 191) rfl
theorem vm_192 : Cond.methodLink "WideMachine$Values" 13 y_xv_bitsLikeHighest ∈ vw_T := List.mem_of_getElem? (i := 192) rfl
theorem vm_193 : Cond.code y_xv_bitsLikeHighest b_xv_bitsLikeHighest 4 (some .int) ∈ vw_T := List.mem_of_getElem? (i := 193) rfl
theorem vm_194 : Cond.static y_xv_bitsLikeHighest ∈ vw_T := List.mem_of_getElem? (i := 194) rfl
theorem vm_195 : Cond.constant "WideMachine$Values" 17 65535 ∈ vw_T := List.mem_of_getElem? (i := 195) rfl
theorem vm_196 : Cond.constantLong "WideMachine$Values" 18 2 ∈ vw_T := List.mem_of_getElem? (i := 196) rfl
theorem vm_197 : Cond.methodLink "WideMachine" 217 y_xw_number ∈ vw_T := List.mem_of_getElem? (i := 197) rfl
theorem vm_198 : Cond.code y_xw_number b_xw_number 1 (some .int) ∈ vw_T := List.mem_of_getElem? (i := 198) rfl
theorem vm_199 : Cond.static y_xw_number ∈ vw_T := List.mem_of_getElem? (i := 199) rfl
theorem vm_200 : Cond.constant "WideMachine" 220 65536 ∈ vw_T := List.mem_of_getElem? (i := 200) rfl
theorem vm_201 : Cond.methodLink "WideMachine" 205 y_xw_d ∈ vw_T := List.mem_of_getElem? (i := 201) rfl
theorem vm_202 : Cond.constant "WideMachine" 221 65535 ∈ vw_T := List.mem_of_getElem? (i := 202) rfl
theorem vm_203 : Cond.methodLink "WideMachine" 222 y_xm_peek ∈ vw_T := List.mem_of_getElem? (i := 203) rfl
theorem vm_204 : Cond.code y_xm_peek b_xm_peek 2 (some .int) ∈ vw_T := List.mem_of_getElem? (i := 204) rfl
theorem vm_205 : Cond.instanceMethod y_xm_peek ∈ vw_T := List.mem_of_getElem? (i := 205) rfl
theorem vm_206 : Cond.selects "WideMachine" y_xm_peek y_xm_peek ∈ vw_T := List.mem_of_getElem? (i := 206) rfl
theorem vm_207 : Cond.methodLink "WideMachine" 225 y_xw_kind ∈ vw_T := List.mem_of_getElem? (i := 207) rfl
theorem vm_208 : Cond.code y_xw_kind b_xw_kind 1 (some .int) ∈ vw_T := List.mem_of_getElem? (i := 208) rfl
theorem vm_209 : Cond.static y_xw_kind ∈ vw_T := List.mem_of_getElem? (i := 209) rfl
theorem vm_210 : Cond.methodLink "WideMachine" 228 y_xv_ofL ∈ vw_T := List.mem_of_getElem? (i := 210) rfl
theorem vm_211 : Cond.code y_xv_ofL b_xv_ofL 3 (some .int) ∈ vw_T := List.mem_of_getElem? (i := 211) rfl
theorem vm_212 : Cond.static y_xv_ofL ∈ vw_T := List.mem_of_getElem? (i := 212) rfl
theorem vm_213 : Cond.methodLink "WideMachine" 234 y_xv_ofS ∈ vw_T := List.mem_of_getElem? (i := 213) rfl
theorem vm_214 : Cond.code y_xv_ofS b_xv_ofS 3 (some .int) ∈ vw_T := List.mem_of_getElem? (i := 214) rfl
theorem vm_215 : Cond.static y_xv_ofS ∈ vw_T := List.mem_of_getElem? (i := 215) rfl
theorem vm_216 : Cond.methodLink "WideMachine" 237 y_xv_ofM ∈ vw_T := List.mem_of_getElem? (i := 216) rfl
theorem vm_217 : Cond.code y_xv_ofM b_xv_ofM 3 (some .int) ∈ vw_T := List.mem_of_getElem? (i := 217) rfl
theorem vm_218 : Cond.static y_xv_ofM ∈ vw_T := List.mem_of_getElem? (i := 218) rfl
theorem vm_219 : Cond.methodLink "WideMachine" 240 y_xv_ofD ∈ vw_T := List.mem_of_getElem? (i := 219) rfl
theorem vm_220 : Cond.code y_xv_ofD b_xv_ofD 3 (some .int) ∈ vw_T := List.mem_of_getElem? (i := 220) rfl
theorem vm_221 : Cond.static y_xv_ofD ∈ vw_T := List.mem_of_getElem? (i := 221) rfl
theorem vm_222 : Cond.methodLink "WideMachine$Word" 15 y_xw_kind ∈ vw_T := List.mem_of_getElem? (i := 222) rfl
theorem vm_223 : Cond.methodLink "WideMachine" 199 y_xw_target ∈ vw_T := List.mem_of_getElem? (i := 223) rfl
theorem vm_224 : Cond.code y_xw_target b_xw_target 1 (some .int) ∈ vw_T := List.mem_of_getElem? (i := 224) rfl
theorem vm_225 : Cond.static y_xw_target ∈ vw_T := List.mem_of_getElem? (i := 225) rfl
theorem vm_226 : Cond.methodLink "WideMachine" 202 y_xb_add ∈ vw_T := List.mem_of_getElem? (i := 226) rfl
theorem vm_227 : Cond.code y_xb_add b_xb_add 2 none ∈ vw_T := List.mem_of_getElem? (i := 227) rfl
theorem vm_228 : Cond.instanceMethod y_xb_add ∈ vw_T := List.mem_of_getElem? (i := 228) rfl
theorem vm_229 : Cond.selects "WideMachine$Branches" y_xb_add y_xb_add ∈ vw_T := List.mem_of_getElem? (i := 229) rfl
theorem vm_230 : Cond.fieldLink "WideMachine" 58 "WideMachine" "waits" "I" ∈ vw_T := List.mem_of_getElem? (i := 230) rfl
theorem vm_231 : Cond.methodLink "WideMachine" 93 Lib.Math.max.name ∈ vw_T := List.mem_of_getElem? (i := 231) rfl
theorem vm_232 : Cond.static Lib.Math.max.name ∈ vw_T := List.mem_of_getElem? (i := 232) rfl
theorem vm_233 : Cond.initialized "java/lang/Math" ∈ vw_T := List.mem_of_getElem? (i := 233) rfl
theorem vm_234 : Cond.code Lib.Math.max.name Lib.Math.max.code 2 (some .int) ∈ vw_T := List.mem_of_getElem? (i := 234) rfl
theorem vm_235 : Cond.methodLink "WideMachine" 208 y_xm_valueOf ∈ vw_T := List.mem_of_getElem? (i := 235) rfl
theorem vm_236 : Cond.code y_xm_valueOf b_xm_valueOf 5 (some .int) ∈ vw_T := List.mem_of_getElem? (i := 236) rfl
theorem vm_237 : Cond.instanceMethod y_xm_valueOf ∈ vw_T := List.mem_of_getElem? (i := 237) rfl
theorem vm_238 : Cond.selects "WideMachine" y_xm_valueOf y_xm_valueOf ∈ vw_T := List.mem_of_getElem? (i := 238) rfl
theorem vm_239 : Cond.methodLink "WideMachine" 211 y_xw_timeOfWrite ∈ vw_T := List.mem_of_getElem? (i := 239) rfl
theorem vm_240 : Cond.code y_xw_timeOfWrite b_xw_timeOfWrite 1 (some .int) ∈ vw_T := List.mem_of_getElem? (i := 240) rfl
theorem vm_241 : Cond.static y_xw_timeOfWrite ∈ vw_T := List.mem_of_getElem? (i := 241) rfl
theorem vm_242 : Cond.methodLink "WideMachine" 214 y_xq_add ∈ vw_T := List.mem_of_getElem? (i := 242) rfl
theorem vm_243 : Cond.code y_xq_add b_xq_add 4 none ∈ vw_T := List.mem_of_getElem? (i := 243) rfl
theorem vm_244 : Cond.instanceMethod y_xq_add ∈ vw_T := List.mem_of_getElem? (i := 244) rfl
theorem vm_245 : Cond.selects "WideMachine$Writes" y_xq_add y_xq_add ∈ vw_T := List.mem_of_getElem? (i := 245) rfl
theorem vm_246 : Cond.methodLink "WideMachine" 243 y_xm_poke ∈ vw_T := List.mem_of_getElem? (i := 246) rfl
theorem vm_247 : Cond.code y_xm_poke b_xm_poke 3 (some .boolean) ∈ vw_T := List.mem_of_getElem? (i := 247) rfl
theorem vm_248 : Cond.instanceMethod y_xm_poke ∈ vw_T := List.mem_of_getElem? (i := 248) rfl
theorem vm_249 : Cond.selects "WideMachine" y_xm_poke y_xm_poke ∈ vw_T := List.mem_of_getElem? (i := 249) rfl
theorem vm_250 : Cond.methodLink "WideMachine" 193 y_xm_doWord ∈ vw_T := List.mem_of_getElem? (i := 250) rfl
theorem vm_251 : Cond.code y_xm_doWord b_xm_doWord 2 none ∈ vw_T := List.mem_of_getElem? (i := 251) rfl
theorem vm_252 : Cond.instanceMethod y_xm_doWord ∈ vw_T := List.mem_of_getElem? (i := 252) rfl
theorem vm_253 : Cond.selects "WideMachine" y_xm_doWord y_xm_doWord ∈ vw_T := List.mem_of_getElem? (i := 253) rfl
theorem vm_254 : Cond.methodLink "WideMachine" 196 y_xm_doStores ∈ vw_T := List.mem_of_getElem? (i := 254) rfl
theorem vm_255 : Cond.code y_xm_doStores b_xm_doStores 4 none ∈ vw_T := List.mem_of_getElem? (i := 255) rfl
theorem vm_256 : Cond.instanceMethod y_xm_doStores ∈ vw_T := List.mem_of_getElem? (i := 256) rfl
theorem vm_257 : Cond.selects "WideMachine" y_xm_doStores y_xm_doStores ∈ vw_T := List.mem_of_getElem? (i := 257) rfl
theorem vm_258 : Cond.fieldLink "WideMachine" 51 "WideMachine" "cycles" "I" ∈ vw_T := List.mem_of_getElem? (i := 258) rfl
theorem vm_259 : Cond.methodLink "WideMachine" 96 y_xm_landWrites ∈ vw_T := List.mem_of_getElem? (i := 259) rfl
theorem vm_260 : Cond.code y_xm_landWrites b_xm_landWrites 1 none ∈ vw_T := List.mem_of_getElem? (i := 260) rfl
theorem vm_261 : Cond.instanceMethod y_xm_landWrites ∈ vw_T := List.mem_of_getElem? (i := 261) rfl
theorem vm_262 : Cond.selects "WideMachine" y_xm_landWrites y_xm_landWrites ∈ vw_T := List.mem_of_getElem? (i := 262) rfl
theorem vm_263 : Cond.methodLink "WideMachine" 99 y_xm_takeBranch ∈ vw_T := List.mem_of_getElem? (i := 263) rfl
theorem vm_264 : Cond.code y_xm_takeBranch b_xm_takeBranch 2 none ∈ vw_T := List.mem_of_getElem? (i := 264) rfl
theorem vm_265 : Cond.instanceMethod y_xm_takeBranch ∈ vw_T := List.mem_of_getElem? (i := 265) rfl
theorem vm_266 : Cond.selects "WideMachine" y_xm_takeBranch y_xm_takeBranch ∈ vw_T := List.mem_of_getElem? (i := 266) rfl
theorem vm_267 : Cond.methodLink "WideMachine" 102 y_xm_takeInterrupt ∈ vw_T := List.mem_of_getElem? (i := 267) rfl
theorem vm_268 : Cond.code y_xm_takeInterrupt b_xm_takeInterrupt 2 none ∈ vw_T := List.mem_of_getElem? (i := 268) rfl
theorem vm_269 : Cond.instanceMethod y_xm_takeInterrupt ∈ vw_T := List.mem_of_getElem? (i := 269) rfl
theorem vm_270 : Cond.selects "WideMachine" y_xm_takeInterrupt y_xm_takeInterrupt ∈ vw_T := List.mem_of_getElem? (i := 270) rfl
theorem vm_271 : Cond.methodLink "WideMachine" 105 y_xm_endOfPacket ∈ vw_T := List.mem_of_getElem? (i := 271) rfl
theorem vm_272 : Cond.code y_xm_endOfPacket b_xm_endOfPacket 3 (some .int) ∈ vw_T := List.mem_of_getElem? (i := 272) rfl
theorem vm_273 : Cond.instanceMethod y_xm_endOfPacket ∈ vw_T := List.mem_of_getElem? (i := 273) rfl
theorem vm_274 : Cond.selects "WideMachine" y_xm_endOfPacket y_xm_endOfPacket ∈ vw_T := List.mem_of_getElem? (i := 274) rfl
theorem vm_275 : Cond.methodLink "WideMachine" 109 y_xm_faultOfPacket ∈ vw_T := List.mem_of_getElem? (i := 275) rfl
theorem vm_276 : Cond.code y_xm_faultOfPacket b_xm_faultOfPacket 3 (some .int) ∈ vw_T := List.mem_of_getElem? (i := 276) rfl
theorem vm_277 : Cond.instanceMethod y_xm_faultOfPacket ∈ vw_T := List.mem_of_getElem? (i := 277) rfl
theorem vm_278 : Cond.selects "WideMachine" y_xm_faultOfPacket y_xm_faultOfPacket ∈ vw_T := List.mem_of_getElem? (i := 278) rfl
theorem vm_279 : Cond.methodLink "WideMachine" 112 y_xm_doPacket ∈ vw_T := List.mem_of_getElem? (i := 279) rfl
theorem vm_280 : Cond.code y_xm_doPacket b_xm_doPacket 3 none ∈ vw_T := List.mem_of_getElem? (i := 280) rfl
theorem vm_281 : Cond.instanceMethod y_xm_doPacket ∈ vw_T := List.mem_of_getElem? (i := 281) rfl
theorem vm_282 : Cond.selects "WideMachine" y_xm_doPacket y_xm_doPacket ∈ vw_T := List.mem_of_getElem? (i := 282) rfl
theorem vm_283 : Cond.methodLink "WideMachine" 45 y_xm_doCycle ∈ vw_T := List.mem_of_getElem? (i := 283) rfl
theorem vm_284 : Cond.code y_xm_doCycle b_xm_doCycle 2 none ∈ vw_T := List.mem_of_getElem? (i := 284) rfl
theorem vm_285 : Cond.instanceMethod y_xm_doCycle ∈ vw_T := List.mem_of_getElem? (i := 285) rfl
theorem vm_286 : Cond.selects "WideMachine" y_xm_doCycle y_xm_doCycle ∈ vw_T := List.mem_of_getElem? (i := 286) rfl
theorem vm_287 : Cond.fieldLink "WideMachine" 54 "WideMachine$Writes" "count" "I" ∈ vw_T := List.mem_of_getElem? (i := 287) rfl
theorem vm_288 : Cond.fieldLink "WideMachine" 71 "WideMachine$Writes" "targets" "[I" ∈ vw_T := List.mem_of_getElem? (i := 288) rfl
theorem vm_289 : Cond.fieldLink "WideMachine" 74 "WideMachine$Writes" "values" "[I" ∈ vw_T := List.mem_of_getElem? (i := 289) rfl
theorem vm_290 : Cond.fieldLink "WideMachine" 77 "WideMachine$Writes" "times" "[I" ∈ vw_T := List.mem_of_getElem? (i := 290) rfl
theorem vm_291 : Cond.methodLink "WideMachine" 83 y_xq_clear ∈ vw_T := List.mem_of_getElem? (i := 291) rfl
theorem vm_292 : Cond.code y_xq_clear b_xq_clear 1 none ∈ vw_T := List.mem_of_getElem? (i := 292) rfl
theorem vm_293 : Cond.instanceMethod y_xq_clear ∈ vw_T := List.mem_of_getElem? (i := 293) rfl
theorem vm_294 : Cond.selects "WideMachine$Writes" y_xq_clear y_xq_clear ∈ vw_T := List.mem_of_getElem? (i := 294) rfl
theorem vm_295 : Cond.methodLink "WideMachine" 86 y_xb_clear ∈ vw_T := List.mem_of_getElem? (i := 295) rfl
theorem vm_296 : Cond.code y_xb_clear b_xb_clear 1 none ∈ vw_T := List.mem_of_getElem? (i := 296) rfl
theorem vm_297 : Cond.instanceMethod y_xb_clear ∈ vw_T := List.mem_of_getElem? (i := 297) rfl
theorem vm_298 : Cond.selects "WideMachine$Branches" y_xb_clear y_xb_clear ∈ vw_T := List.mem_of_getElem? (i := 298) rfl
theorem vm_299 : Cond.methodLink "WideMachine" 87 Lib.Math.min.name ∈ vw_T := List.mem_of_getElem? (i := 299) rfl
theorem vm_300 : Cond.static Lib.Math.min.name ∈ vw_T := List.mem_of_getElem? (i := 300) rfl
theorem vm_301 : Cond.code Lib.Math.min.name Lib.Math.min.code 2 (some .int) ∈ vw_T := List.mem_of_getElem? (i := 301) rfl
theorem vm_302 : Cond.fieldLink "WideMachineModel" 47 "WideMachineModel" "thrown" "I" ∈ vw_T := List.mem_of_getElem? (i := 302) rfl
theorem vm_303 : Cond.fieldLink "WideMachineModel" 40 "WideMachineModel" "words" "I" ∈ vw_T := List.mem_of_getElem? (i := 303) rfl
theorem vm_304 : Cond.fieldLink "WideMachineModel" 7 "WideMachineModel" "program" "[I" ∈ vw_T := List.mem_of_getElem? (i := 304) rfl
theorem vm_305 : Cond.fieldLink "WideMachineModel" 44 "WideMachineModel" "size" "I" ∈ vw_T := List.mem_of_getElem? (i := 305) rfl
theorem vm_306 : Cond.fieldLink "WideMachineModel" 13 "WideMachineModel" "data" "[I" ∈ vw_T := List.mem_of_getElem? (i := 306) rfl
theorem vm_307 : Cond.fieldLink "WideMachineModel" 16 "WideMachineModel" "registers" "[I" ∈ vw_T := List.mem_of_getElem? (i := 307) rfl
theorem vm_308 : Cond.fieldLink "WideMachineModel" 50 "WideMachineModel" "state" "I" ∈ vw_T := List.mem_of_getElem? (i := 308) rfl
theorem vm_309 : Cond.fieldLink "WideMachineModel" 53 "WideMachineModel" "address" "I" ∈ vw_T := List.mem_of_getElem? (i := 309) rfl
theorem vm_310 : Cond.fieldLink "WideMachineModel" 56 "WideMachineModel" "cycles" "I" ∈ vw_T := List.mem_of_getElem? (i := 310) rfl
theorem vm_311 : Cond.fieldLink "WideMachineModel" 59 "WideMachineModel" "writes" "I" ∈ vw_T := List.mem_of_getElem? (i := 311) rfl
theorem vm_312 : Cond.fieldLink "WideMachineModel" 62 "WideMachineModel" "branches" "I" ∈ vw_T := List.mem_of_getElem? (i := 312) rfl
theorem vm_313 : Cond.fieldLink "WideMachineModel" 65 "WideMachineModel" "wait" "I" ∈ vw_T := List.mem_of_getElem? (i := 313) rfl
theorem vm_314 : Cond.fieldLink "WideMachineModel" 68 "WideMachineModel" "back" "I" ∈ vw_T := List.mem_of_getElem? (i := 314) rfl
theorem vm_315 : Cond.fieldLink "WideMachineModel" 71 "WideMachineModel" "letIn" "Z" ∈ vw_T := List.mem_of_getElem? (i := 315) rfl
theorem vm_316 : Cond.fieldLink "WideMachineModel" 75 "WideMachineModel" "raised" "I" ∈ vw_T := List.mem_of_getElem? (i := 316) rfl
theorem vm_317 : Cond.fieldLink "WideMachineModel" 19 "WideMachineModel" "register" "[I" ∈ vw_T := List.mem_of_getElem? (i := 317) rfl
theorem vm_318 : Cond.fieldLink "WideMachineModel" 22 "WideMachineModel" "value" "[I" ∈ vw_T := List.mem_of_getElem? (i := 318) rfl
theorem vm_319 : Cond.fieldLink "WideMachineModel" 25 "WideMachineModel" "when" "[I" ∈ vw_T := List.mem_of_getElem? (i := 319) rfl
theorem vm_320 : Cond.fieldLink "WideMachineModel" 31 "WideMachineModel" "goes" "[I" ∈ vw_T := List.mem_of_getElem? (i := 320) rfl
theorem vm_321 : Cond.fieldLink "WideMachineModel" 28 "WideMachineModel" "target" "[I" ∈ vw_T := List.mem_of_getElem? (i := 321) rfl
theorem vm_322 : Cond.methodLink "WideMachineModel" 81 y_mm_kind ∈ vw_T := List.mem_of_getElem? (i := 322) rfl
theorem vm_323 : Cond.code y_mm_kind b_mm_kind 1 (some .int) ∈ vw_T := List.mem_of_getElem? (i := 323) rfl
theorem vm_324 : Cond.initialized "WideMachineModel" ∈ vw_T := List.mem_of_getElem? (i := 324) rfl
theorem vm_325 : Cond.static y_mm_kind ∈ vw_T := List.mem_of_getElem? (i := 325) rfl
theorem vm_326 : Cond.methodLink "WideMachineModel" 85 y_mm_operation ∈ vw_T := List.mem_of_getElem? (i := 326) rfl
theorem vm_327 : Cond.code y_mm_operation b_mm_operation 1 (some .int) ∈ vw_T := List.mem_of_getElem? (i := 327) rfl
theorem vm_328 : Cond.static y_mm_operation ∈ vw_T := List.mem_of_getElem? (i := 328) rfl
theorem vm_329 : Cond.methodLink "WideMachineModel" 88 y_mm_isS ∈ vw_T := List.mem_of_getElem? (i := 329) rfl
theorem vm_330 : Cond.code y_mm_isS b_mm_isS 3 (some .boolean) ∈ vw_T := List.mem_of_getElem? (i := 330) rfl
theorem vm_331 : Cond.static y_mm_isS ∈ vw_T := List.mem_of_getElem? (i := 331) rfl
theorem vm_332 : Cond.methodLink "WideMachineModel" 92 y_mm_unit ∈ vw_T := List.mem_of_getElem? (i := 332) rfl
theorem vm_333 : Cond.code y_mm_unit b_mm_unit 1 (some .int) ∈ vw_T := List.mem_of_getElem? (i := 333) rfl
theorem vm_334 : Cond.static y_mm_unit ∈ vw_T := List.mem_of_getElem? (i := 334) rfl
theorem vm_335 : Cond.methodLink "WideMachineModel" 95 y_mm_condition ∈ vw_T := List.mem_of_getElem? (i := 335) rfl
theorem vm_336 : Cond.code y_mm_condition b_mm_condition 1 (some .int) ∈ vw_T := List.mem_of_getElem? (i := 336) rfl
theorem vm_337 : Cond.static y_mm_condition ∈ vw_T := List.mem_of_getElem? (i := 337) rfl
theorem vm_338 : Cond.methodLink "WideMachineModel" 98 y_mm_hasD ∈ vw_T := List.mem_of_getElem? (i := 338) rfl
theorem vm_339 : Cond.code y_mm_hasD b_mm_hasD 1 (some .boolean) ∈ vw_T := List.mem_of_getElem? (i := 339) rfl
theorem vm_340 : Cond.static y_mm_hasD ∈ vw_T := List.mem_of_getElem? (i := 340) rfl
theorem vm_341 : Cond.methodLink "WideMachineModel" 102 y_mm_d ∈ vw_T := List.mem_of_getElem? (i := 341) rfl
theorem vm_342 : Cond.code y_mm_d b_mm_d 1 (some .int) ∈ vw_T := List.mem_of_getElem? (i := 342) rfl
theorem vm_343 : Cond.static y_mm_d ∈ vw_T := List.mem_of_getElem? (i := 343) rfl
theorem vm_344 : Cond.methodLink "WideMachineModel" 105 y_mm_isOther ∈ vw_T := List.mem_of_getElem? (i := 344) rfl
theorem vm_345 : Cond.code y_mm_isOther b_mm_isOther 2 (some .boolean) ∈ vw_T := List.mem_of_getElem? (i := 345) rfl
theorem vm_346 : Cond.static y_mm_isOther ∈ vw_T := List.mem_of_getElem? (i := 346) rfl
theorem vm_347 : Cond.methodLink "WideMachineModel" 109 y_mm_hasA ∈ vw_T := List.mem_of_getElem? (i := 347) rfl
theorem vm_348 : Cond.code y_mm_hasA b_mm_hasA 1 (some .boolean) ∈ vw_T := List.mem_of_getElem? (i := 348) rfl
theorem vm_349 : Cond.static y_mm_hasA ∈ vw_T := List.mem_of_getElem? (i := 349) rfl
theorem vm_350 : Cond.methodLink "WideMachineModel" 112 y_mm_a ∈ vw_T := List.mem_of_getElem? (i := 350) rfl
theorem vm_351 : Cond.code y_mm_a b_mm_a 1 (some .int) ∈ vw_T := List.mem_of_getElem? (i := 351) rfl
theorem vm_352 : Cond.static y_mm_a ∈ vw_T := List.mem_of_getElem? (i := 352) rfl
theorem vm_353 : Cond.methodLink "WideMachineModel" 138 y_mm_isNumber ∈ vw_T := List.mem_of_getElem? (i := 353) rfl
theorem vm_354 : Cond.code y_mm_isNumber b_mm_isNumber 1 (some .boolean) ∈ vw_T := List.mem_of_getElem? (i := 354) rfl
theorem vm_355 : Cond.static y_mm_isNumber ∈ vw_T := List.mem_of_getElem? (i := 355) rfl
theorem vm_356 : Cond.methodLink "WideMachineModel" 141 y_mm_b ∈ vw_T := List.mem_of_getElem? (i := 356) rfl
theorem vm_357 : Cond.code y_mm_b b_mm_b 1 (some .int) ∈ vw_T := List.mem_of_getElem? (i := 357) rfl
theorem vm_358 : Cond.static y_mm_b ∈ vw_T := List.mem_of_getElem? (i := 358) rfl
theorem vm_359 : Cond.methodLink "WideMachineModel" 166 y_mm_second ∈ vw_T := List.mem_of_getElem? (i := 359) rfl
theorem vm_360 : Cond.code y_mm_second b_mm_second 2 (some .int) ∈ vw_T := List.mem_of_getElem? (i := 360) rfl
theorem vm_361 : Cond.instanceMethod y_mm_second ∈ vw_T := List.mem_of_getElem? (i := 361) rfl
theorem vm_362 : Cond.selects "WideMachineModel" y_mm_second y_mm_second ∈ vw_T := List.mem_of_getElem? (i := 362) rfl
theorem vm_363 : Cond.methodLink "WideMachineModel" 132 y_mm_isIll ∈ vw_T := List.mem_of_getElem? (i := 363) rfl
theorem vm_364 : Cond.code y_mm_isIll b_mm_isIll 4 (some .boolean) ∈ vw_T := List.mem_of_getElem? (i := 364) rfl
theorem vm_365 : Cond.static y_mm_isIll ∈ vw_T := List.mem_of_getElem? (i := 365) rfl
theorem vm_366 : Cond.methodLink "WideMachineModel" 135 y_mm_hasB ∈ vw_T := List.mem_of_getElem? (i := 366) rfl
theorem vm_367 : Cond.code y_mm_hasB b_mm_hasB 1 (some .boolean) ∈ vw_T := List.mem_of_getElem? (i := 367) rfl
theorem vm_368 : Cond.static y_mm_hasB ∈ vw_T := List.mem_of_getElem? (i := 368) rfl
theorem vm_369 : Cond.methodLink "WideMachineModel" 144 y_mm_isDone ∈ vw_T := List.mem_of_getElem? (i := 369) rfl
theorem vm_370 : Cond.code y_mm_isDone b_mm_isDone 4 (some .boolean) ∈ vw_T := List.mem_of_getElem? (i := 370) rfl
theorem vm_371 : Cond.instanceMethod y_mm_isDone ∈ vw_T := List.mem_of_getElem? (i := 371) rfl
theorem vm_372 : Cond.selects "WideMachineModel" y_mm_isDone y_mm_isDone ∈ vw_T := List.mem_of_getElem? (i := 372) rfl
theorem vm_373 : Cond.methodLink "WideMachineModel" 147 y_mm_reaches ∈ vw_T := List.mem_of_getElem? (i := 373) rfl
theorem vm_374 : Cond.code y_mm_reaches b_mm_reaches 3 (some .boolean) ∈ vw_T := List.mem_of_getElem? (i := 374) rfl
theorem vm_375 : Cond.instanceMethod y_mm_reaches ∈ vw_T := List.mem_of_getElem? (i := 375) rfl
theorem vm_376 : Cond.selects "WideMachineModel" y_mm_reaches y_mm_reaches ∈ vw_T := List.mem_of_getElem? (i := 376) rfl
theorem vm_377 : Cond.methodLink "WideMachineModel" 162 y_mm_write ∈ vw_T := List.mem_of_getElem? (i := 377) rfl
theorem vm_378 : Cond.code y_mm_write b_mm_write 4 none ∈ vw_T := List.mem_of_getElem? (i := 378) rfl
theorem vm_379 : Cond.instanceMethod y_mm_write ∈ vw_T := List.mem_of_getElem? (i := 379) rfl
theorem vm_380 : Cond.selects "WideMachineModel" y_mm_write y_mm_write ∈ vw_T := List.mem_of_getElem? (i := 380) rfl
theorem vm_381 : Cond.fieldLink "WideMachineModel" 34 "WideMachineModel" "where" "[I" ∈ vw_T := List.mem_of_getElem? (i := 381) rfl
theorem vm_382 : Cond.fieldLink "WideMachineModel" 150 "WideMachineModel" "stores" "I" ∈ vw_T := List.mem_of_getElem? (i := 382) rfl
theorem vm_383 : Cond.fieldLink "WideMachineModel" 37 "WideMachineModel" "what" "[I" ∈ vw_T := List.mem_of_getElem? (i := 383) rfl
theorem vm_384 : Cond.constantLong "WideMachineModel" 179 2147483647 ∈ vw_T := List.mem_of_getElem? (i := 384) rfl
theorem vm_385 : Cond.constant "WideMachineModel" 181 2147483647 ∈ vw_T := List.mem_of_getElem? (i := 385) rfl
theorem vm_386 : Cond.constantLong "WideMachineModel" 182 (-2147483648) ∈ vw_T := List.mem_of_getElem? (i := 386) rfl
theorem vm_387 : Cond.constant "WideMachineModel" 184 (-2147483648) ∈ vw_T := List.mem_of_getElem? (i := 387) rfl
theorem vm_388 : Cond.constant "WideMachineModel" 185 65535 ∈ vw_T := List.mem_of_getElem? (i := 388) rfl
theorem vm_389 : Cond.constant "WideMachineModel" 186 1073741824 ∈ vw_T := List.mem_of_getElem? (i := 389) rfl
theorem vm_390 : Cond.methodLink "WideMachineModel" 169 y_mm_logic ∈ vw_T := List.mem_of_getElem? (i := 390) rfl
theorem vm_391 : Cond.code y_mm_logic b_mm_logic 5 (some .int) ∈ vw_T := List.mem_of_getElem? (i := 391) rfl
theorem vm_392 : Cond.static y_mm_logic ∈ vw_T := List.mem_of_getElem? (i := 392) rfl
theorem vm_393 : Cond.methodLink "WideMachineModel" 173 y_mm_shift ∈ vw_T := List.mem_of_getElem? (i := 393) rfl
theorem vm_394 : Cond.code y_mm_shift b_mm_shift 5 (some .int) ∈ vw_T := List.mem_of_getElem? (i := 394) rfl
theorem vm_395 : Cond.instanceMethod y_mm_shift ∈ vw_T := List.mem_of_getElem? (i := 395) rfl
theorem vm_396 : Cond.selects "WideMachineModel" y_mm_shift y_mm_shift ∈ vw_T := List.mem_of_getElem? (i := 396) rfl
theorem vm_397 : Cond.methodLink "WideMachineModel" 176 y_mm_product ∈ vw_T := List.mem_of_getElem? (i := 397) rfl
theorem vm_398 : Cond.code y_mm_product b_mm_product 4 (some .int) ∈ vw_T := List.mem_of_getElem? (i := 398) rfl
theorem vm_399 : Cond.static y_mm_product ∈ vw_T := List.mem_of_getElem? (i := 399) rfl
theorem vm_400 : Cond.methodLink "WideMachineModel" 153 y_mm_controls ∈ vw_T := List.mem_of_getElem? (i := 400) rfl
theorem vm_401 : Cond.code y_mm_controls b_mm_controls 4 none ∈ vw_T := List.mem_of_getElem? (i := 401) rfl
theorem vm_402 : Cond.instanceMethod y_mm_controls ∈ vw_T := List.mem_of_getElem? (i := 402) rfl
theorem vm_403 : Cond.selects "WideMachineModel" y_mm_controls y_mm_controls ∈ vw_T := List.mem_of_getElem? (i := 403) rfl
theorem vm_404 : Cond.methodLink "WideMachineModel" 156 y_mm_meets ∈ vw_T := List.mem_of_getElem? (i := 404) rfl
theorem vm_405 : Cond.code y_mm_meets b_mm_meets 3 none ∈ vw_T := List.mem_of_getElem? (i := 405) rfl
theorem vm_406 : Cond.instanceMethod y_mm_meets ∈ vw_T := List.mem_of_getElem? (i := 406) rfl
theorem vm_407 : Cond.selects "WideMachineModel" y_mm_meets y_mm_meets ∈ vw_T := List.mem_of_getElem? (i := 407) rfl
theorem vm_408 : Cond.methodLink "WideMachineModel" 159 y_mm_works ∈ vw_T := List.mem_of_getElem? (i := 408) rfl
theorem vm_409 : Cond.code y_mm_works b_mm_works 5 (some .int) ∈ vw_T := List.mem_of_getElem? (i := 409) rfl
theorem vm_410 : Cond.instanceMethod y_mm_works ∈ vw_T := List.mem_of_getElem? (i := 410) rfl
theorem vm_411 : Cond.selects "WideMachineModel" y_mm_works y_mm_works ∈ vw_T := List.mem_of_getElem? (i := 411) rfl
theorem vm_412 : Cond.methodLink "WideMachineModel" 115 y_mm_lands ∈ vw_T := List.mem_of_getElem? (i := 412) rfl
theorem vm_413 : Cond.code y_mm_lands b_mm_lands 3 (some .int) ∈ vw_T := List.mem_of_getElem? (i := 413) rfl
theorem vm_414 : Cond.instanceMethod y_mm_lands ∈ vw_T := List.mem_of_getElem? (i := 414) rfl
theorem vm_415 : Cond.selects "WideMachineModel" y_mm_lands y_mm_lands ∈ vw_T := List.mem_of_getElem? (i := 415) rfl
theorem vm_416 : Cond.methodLink "WideMachineModel" 119 y_mm_arrives ∈ vw_T := List.mem_of_getElem? (i := 416) rfl
theorem vm_417 : Cond.code y_mm_arrives b_mm_arrives 3 (some .int) ∈ vw_T := List.mem_of_getElem? (i := 417) rfl
theorem vm_418 : Cond.instanceMethod y_mm_arrives ∈ vw_T := List.mem_of_getElem? (i := 418) rfl
theorem vm_419 : Cond.selects "WideMachineModel" y_mm_arrives y_mm_arrives ∈ vw_T := List.mem_of_getElem? (i := 419) rfl
theorem vm_420 : Cond.methodLink "WideMachineModel" 122 y_mm_interrupts ∈ vw_T := List.mem_of_getElem? (i := 420) rfl
theorem vm_421 : Cond.code y_mm_interrupts b_mm_interrupts 2 none ∈ vw_T := List.mem_of_getElem? (i := 421) rfl
theorem vm_422 : Cond.instanceMethod y_mm_interrupts ∈ vw_T := List.mem_of_getElem? (i := 422) rfl
theorem vm_423 : Cond.selects "WideMachineModel" y_mm_interrupts y_mm_interrupts ∈ vw_T := List.mem_of_getElem? (i := 423) rfl
theorem vm_424 : Cond.methodLink "WideMachineModel" 125 y_mm_wrong ∈ vw_T := List.mem_of_getElem? (i := 424) rfl
theorem vm_425 : Cond.code y_mm_wrong b_mm_wrong 6 (some .int) ∈ vw_T := List.mem_of_getElem? (i := 425) rfl
theorem vm_426 : Cond.instanceMethod y_mm_wrong ∈ vw_T := List.mem_of_getElem? (i := 426) rfl
theorem vm_427 : Cond.selects "WideMachineModel" y_mm_wrong y_mm_wrong ∈ vw_T := List.mem_of_getElem? (i := 427) rfl
theorem vm_428 : Cond.methodLink "WideMachineModel" 128 y_mm_packet ∈ vw_T := List.mem_of_getElem? (i := 428) rfl
theorem vm_429 : Cond.code y_mm_packet b_mm_packet 5 none ∈ vw_T := List.mem_of_getElem? (i := 429) rfl
theorem vm_430 : Cond.instanceMethod y_mm_packet ∈ vw_T := List.mem_of_getElem? (i := 430) rfl
theorem vm_431 : Cond.selects "WideMachineModel" y_mm_packet y_mm_packet ∈ vw_T := List.mem_of_getElem? (i := 431) rfl
theorem vm_432 : Cond.methodLink "WideMachineModel" 78 y_mm_cycle ∈ vw_T := List.mem_of_getElem? (i := 432) rfl
theorem vm_433 : Cond.code y_mm_cycle b_mm_cycle 3 none ∈ vw_T := List.mem_of_getElem? (i := 433) rfl
theorem vm_434 : Cond.instanceMethod y_mm_cycle ∈ vw_T := List.mem_of_getElem? (i := 434) rfl
theorem vm_435 : Cond.selects "WideMachineModel" y_mm_cycle y_mm_cycle ∈ vw_T := List.mem_of_getElem? (i := 435) rfl
theorem vw_G : GoodIn vw_T vw_T := fun w hw => ⟨hw, Or.inl (List.all_eq_true.mp (by decide +kernel : vw_T.all (fun w => w.onTables && w.keeps) = true) w hw)⟩
theorem ui_0 : ∀ w ∈ u_ws "WideMachine" ff_0 12, w ∈ vw_T := by decide +kernel
theorem ui_1 : ∀ w ∈ u_ws "WideMachine$Writes" ff_1 4, w ∈ vw_T := by decide +kernel
theorem ui_2 : ∀ w ∈ u_ws "WideMachine$Branches" ff_2 3, w ∈ vw_T := by decide +kernel
theorem ui_3 : ∀ w ∈ u_ws "WideMachineModel" ff_3 23, w ∈ vw_T := by decide +kernel
