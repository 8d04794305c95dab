section
/-! names, fields, words: by program out of the claim's listing and Statement -/
def ff_0 : u_T := fun k => match k with
  | 0 => ("WideMachine", "program", "[I", true)
  | 1 => ("WideMachine", "data", "[I", true)
  | 2 => ("WideMachine", "registers", "[I", true)
  | 3 => ("WideMachine", "writes", "LWideMachine$Writes;", true)
  | 4 => ("WideMachine", "branches", "LWideMachine$Branches;", true)
  | 5 => ("WideMachine", "state", "I", false)
  | 6 => ("WideMachine", "address", "I", false)
  | 7 => ("WideMachine", "cycles", "I", false)
  | 8 => ("WideMachine", "waits", "I", false)
  | 9 => ("WideMachine", "returnAddress", "I", false)
  | 10 => ("WideMachine", "raisedLines", "I", false)
  | _ => ("WideMachine", "letsIn", "Z", false)
def ft_0 : Nat → FieldType := fun k => match k with
  | 0 => .array .int
  | 1 => .array .int
  | 2 => .array .int
  | 3 => .object "WideMachine$Writes"
  | 4 => .object "WideMachine$Branches"
  | 5 => .int
  | 6 => .int
  | 7 => .int
  | 8 => .int
  | 9 => .int
  | 10 => .int
  | _ => .boolean
theorem fn_0 : ∀ a, a < 12 → ∀ b, b < 12 → a ≠ b → (ff_0 a).2.1 ≠ (ff_0 b).2.1 := by decide +kernel
theorem fo_0 : ∀ k, k < 12 → parseFieldDescriptor (ff_0 k).2.2.1 = some (ft_0 k) := by decide +kernel
def ff_1 : u_T := fun k => match k with
  | 0 => ("WideMachine$Writes", "targets", "[I", true)
  | 1 => ("WideMachine$Writes", "values", "[I", true)
  | 2 => ("WideMachine$Writes", "times", "[I", true)
  | _ => ("WideMachine$Writes", "count", "I", false)
def ft_1 : Nat → FieldType := fun k => match k with
  | 0 => .array .int
  | 1 => .array .int
  | 2 => .array .int
  | _ => .int
theorem fn_1 : ∀ a, a < 4 → ∀ b, b < 4 → a ≠ b → (ff_1 a).2.1 ≠ (ff_1 b).2.1 := by decide +kernel
theorem fo_1 : ∀ k, k < 4 → parseFieldDescriptor (ff_1 k).2.2.1 = some (ft_1 k) := by decide +kernel
def ff_2 : u_T := fun k => match k with
  | 0 => ("WideMachine$Branches", "targets", "[I", true)
  | 1 => ("WideMachine$Branches", "times", "[I", true)
  | _ => ("WideMachine$Branches", "count", "I", false)
def ft_2 : Nat → FieldType := fun k => match k with
  | 0 => .array .int
  | 1 => .array .int
  | _ => .int
theorem fn_2 : ∀ a, a < 3 → ∀ b, b < 3 → a ≠ b → (ff_2 a).2.1 ≠ (ff_2 b).2.1 := by decide +kernel
theorem fo_2 : ∀ k, k < 3 → parseFieldDescriptor (ff_2 k).2.2.1 = some (ft_2 k) := by decide +kernel
def ff_3 : u_T := fun k => match k with
  | 0 => ("WideMachineModel", "thrown", "I", false)
  | 1 => ("WideMachineModel", "words", "I", true)
  | 2 => ("WideMachineModel", "size", "I", true)
  | 3 => ("WideMachineModel", "program", "[I", true)
  | 4 => ("WideMachineModel", "data", "[I", true)
  | 5 => ("WideMachineModel", "registers", "[I", true)
  | 6 => ("WideMachineModel", "state", "I", false)
  | 7 => ("WideMachineModel", "address", "I", false)
  | 8 => ("WideMachineModel", "cycles", "I", false)
  | 9 => ("WideMachineModel", "wait", "I", false)
  | 10 => ("WideMachineModel", "back", "I", false)
  | 11 => ("WideMachineModel", "letIn", "Z", false)
  | 12 => ("WideMachineModel", "raised", "I", false)
  | 13 => ("WideMachineModel", "writes", "I", false)
  | 14 => ("WideMachineModel", "register", "[I", true)
  | 15 => ("WideMachineModel", "value", "[I", true)
  | 16 => ("WideMachineModel", "when", "[I", true)
  | 17 => ("WideMachineModel", "branches", "I", false)
  | 18 => ("WideMachineModel", "target", "[I", true)
  | 19 => ("WideMachineModel", "goes", "[I", true)
  | 20 => ("WideMachineModel", "stores", "I", false)
  | 21 => ("WideMachineModel", "where", "[I", true)
  | _ => ("WideMachineModel", "what", "[I", true)
def ft_3 : Nat → FieldType := fun k => match k with
  | 0 => .int
  | 1 => .int
  | 2 => .int
  | 3 => .array .int
  | 4 => .array .int
  | 5 => .array .int
  | 6 => .int
  | 7 => .int
  | 8 => .int
  | 9 => .int
  | 10 => .int
  | 11 => .boolean
  | 12 => .int
  | 13 => .int
  | 14 => .array .int
  | 15 => .array .int
  | 16 => .array .int
  | 17 => .int
  | 18 => .array .int
  | 19 => .array .int
  | 20 => .int
  | 21 => .array .int
  | _ => .array .int
theorem fn_3 : ∀ a, a < 23 → ∀ b, b < 23 → a ≠ b → (ff_3 a).2.1 ≠ (ff_3 b).2.1 := by decide +kernel
theorem fo_3 : ∀ k, k < 23 → parseFieldDescriptor (ff_3 k).2.2.1 = some (ft_3 k) := by decide +kernel
def vw_cl : List vw_C := [("WideMachine", ff_0, 12), ("WideMachine$Writes", ff_1, 4), ("WideMachine$Branches", ff_2, 3), ("WideMachineModel", ff_3, 23)]
abbrev b_xm_init : ByteArray := prog_1_method_1_code
def y_xm_init : MethodName := ⟨"WideMachine", "<init>", "(II)V"⟩
abbrev b_xm_word : ByteArray := prog_1_method_2_code
def y_xm_word : MethodName := ⟨"WideMachine", "word", "(II)Z"⟩
abbrev b_xm_poke : ByteArray := prog_1_method_3_code
def y_xm_poke : MethodName := ⟨"WideMachine", "poke", "(II)Z"⟩
abbrev b_xm_peek : ByteArray := prog_1_method_4_code
def y_xm_peek : MethodName := ⟨"WideMachine", "peek", "(I)I"⟩
abbrev b_xm_set : ByteArray := prog_1_method_5_code
def y_xm_set : MethodName := ⟨"WideMachine", "set", "(II)Z"⟩
abbrev b_xm_get : ByteArray := prog_1_method_6_code
def y_xm_get : MethodName := ⟨"WideMachine", "get", "(I)I"⟩
abbrev b_xm_run : ByteArray := prog_1_method_7_code
def y_xm_run : MethodName := ⟨"WideMachine", "run", "(I)I"⟩
abbrev b_xm_about : ByteArray := prog_1_method_8_code
def y_xm_about : MethodName := ⟨"WideMachine", "about", "(I)I"⟩
abbrev b_xm_due : ByteArray := prog_1_method_9_code
def y_xm_due : MethodName := ⟨"WideMachine", "due", "(II)I"⟩
abbrev b_xm_raise : ByteArray := prog_1_method_10_code
def y_xm_raise : MethodName := ⟨"WideMachine", "raise", "(I)Z"⟩
abbrev b_xm_letIn : ByteArray := prog_1_method_11_code
def y_xm_letIn : MethodName := ⟨"WideMachine", "letIn", "(Z)V"⟩
abbrev b_xm_start : ByteArray := prog_1_method_12_code
def y_xm_start : MethodName := ⟨"WideMachine", "start", "(I)Z"⟩
abbrev b_xm_nearestSize : ByteArray := prog_1_method_13_code
def y_xm_nearestSize : MethodName := ⟨"WideMachine", "nearestSize", "(I)I"⟩
abbrev b_xm_isInData : ByteArray := prog_1_method_14_code
def y_xm_isInData : MethodName := ⟨"WideMachine", "isInData", "(I)Z"⟩
abbrev b_xm_isRaised : ByteArray := prog_1_method_15_code
def y_xm_isRaised : MethodName := ⟨"WideMachine", "isRaised", "(I)Z"⟩
abbrev b_xm_doCycle : ByteArray := prog_1_method_16_code
def y_xm_doCycle : MethodName := ⟨"WideMachine", "doCycle", "()V"⟩
abbrev b_xm_landWrites : ByteArray := prog_1_method_17_code
def y_xm_landWrites : MethodName := ⟨"WideMachine", "landWrites", "()V"⟩
abbrev b_xm_takeBranch : ByteArray := prog_1_method_18_code
def y_xm_takeBranch : MethodName := ⟨"WideMachine", "takeBranch", "()V"⟩
abbrev b_xm_takeInterrupt : ByteArray := prog_1_method_19_code
def y_xm_takeInterrupt : MethodName := ⟨"WideMachine", "takeInterrupt", "()V"⟩
abbrev b_xm_endOfPacket : ByteArray := prog_1_method_20_code
def y_xm_endOfPacket : MethodName := ⟨"WideMachine", "endOfPacket", "()I"⟩
abbrev b_xm_faultOfPacket : ByteArray := prog_1_method_21_code
def y_xm_faultOfPacket : MethodName := ⟨"WideMachine", "faultOfPacket", "(I)I"⟩
abbrev b_xm_hasIllFormed : ByteArray := prog_1_method_22_code
def y_xm_hasIllFormed : MethodName := ⟨"WideMachine", "hasIllFormed", "(I)Z"⟩
abbrev b_xm_hasUnitTwice : ByteArray := prog_1_method_23_code
def y_xm_hasUnitTwice : MethodName := ⟨"WideMachine", "hasUnitTwice", "(I)Z"⟩
abbrev b_xm_hasCrossedTwice : ByteArray := prog_1_method_24_code
def y_xm_hasCrossedTwice : MethodName := ⟨"WideMachine", "hasCrossedTwice", "(I)Z"⟩
abbrev b_xm_goesBeyondData : ByteArray := prog_1_method_25_code
def y_xm_goesBeyondData : MethodName := ⟨"WideMachine", "goesBeyondData", "(I)Z"⟩
abbrev b_xm_isConditionTrue : ByteArray := prog_1_method_26_code
def y_xm_isConditionTrue : MethodName := ⟨"WideMachine", "isConditionTrue", "(I)Z"⟩
abbrev b_xm_dataAddress : ByteArray := prog_1_method_27_code
def y_xm_dataAddress : MethodName := ⟨"WideMachine", "dataAddress", "(I)I"⟩
abbrev b_xm_operandB : ByteArray := prog_1_method_28_code
def y_xm_operandB : MethodName := ⟨"WideMachine", "operandB", "(I)I"⟩
abbrev b_xm_doPacket : ByteArray := prog_1_method_29_code
def y_xm_doPacket : MethodName := ⟨"WideMachine", "doPacket", "(I)V"⟩
abbrev b_xm_doWord : ByteArray := prog_1_method_30_code
def y_xm_doWord : MethodName := ⟨"WideMachine", "doWord", "(I)V"⟩
abbrev b_xm_valueOf : ByteArray := prog_1_method_31_code
def y_xm_valueOf : MethodName := ⟨"WideMachine", "valueOf", "(I)I"⟩
abbrev b_xm_doStores : ByteArray := prog_1_method_32_code
def y_xm_doStores : MethodName := ⟨"WideMachine", "doStores", "(I)V"⟩
abbrev b_mm_init : ByteArray := prog_7_method_1_code
def y_mm_init : MethodName := ⟨"WideMachineModel", "<init>", "(II)V"⟩
abbrev b_mm_word : ByteArray := prog_7_method_3_code
def y_mm_word : MethodName := ⟨"WideMachineModel", "word", "(II)Z"⟩
abbrev b_mm_poke : ByteArray := prog_7_method_4_code
def y_mm_poke : MethodName := ⟨"WideMachineModel", "poke", "(II)Z"⟩
abbrev b_mm_peek : ByteArray := prog_7_method_5_code
def y_mm_peek : MethodName := ⟨"WideMachineModel", "peek", "(I)I"⟩
abbrev b_mm_set : ByteArray := prog_7_method_6_code
def y_mm_set : MethodName := ⟨"WideMachineModel", "set", "(II)Z"⟩
abbrev b_mm_get : ByteArray := prog_7_method_7_code
def y_mm_get : MethodName := ⟨"WideMachineModel", "get", "(I)I"⟩
abbrev b_mm_about : ByteArray := prog_7_method_8_code
def y_mm_about : MethodName := ⟨"WideMachineModel", "about", "(I)I"⟩
abbrev b_mm_due : ByteArray := prog_7_method_9_code
def y_mm_due : MethodName := ⟨"WideMachineModel", "due", "(II)I"⟩
abbrev b_mm_raise : ByteArray := prog_7_method_10_code
def y_mm_raise : MethodName := ⟨"WideMachineModel", "raise", "(I)Z"⟩
abbrev b_mm_letIn : ByteArray := prog_7_method_11_code
def y_mm_letIn : MethodName := ⟨"WideMachineModel", "letIn", "(Z)V"⟩
abbrev b_mm_start : ByteArray := prog_7_method_12_code
def y_mm_start : MethodName := ⟨"WideMachineModel", "start", "(I)Z"⟩
abbrev b_mm_run : ByteArray := prog_7_method_13_code
def y_mm_run : MethodName := ⟨"WideMachineModel", "run", "(I)I"⟩
abbrev b_mm_condition : ByteArray := prog_7_method_14_code
def y_mm_condition : MethodName := ⟨"WideMachineModel", "condition", "(I)I"⟩
abbrev b_mm_unit : ByteArray := prog_7_method_15_code
def y_mm_unit : MethodName := ⟨"WideMachineModel", "unit", "(I)I"⟩
abbrev b_mm_kind : ByteArray := prog_7_method_16_code
def y_mm_kind : MethodName := ⟨"WideMachineModel", "kind", "(I)I"⟩
abbrev b_mm_operation : ByteArray := prog_7_method_17_code
def y_mm_operation : MethodName := ⟨"WideMachineModel", "operation", "(I)I"⟩
abbrev b_mm_d : ByteArray := prog_7_method_18_code
def y_mm_d : MethodName := ⟨"WideMachineModel", "d", "(I)I"⟩
abbrev b_mm_a : ByteArray := prog_7_method_19_code
def y_mm_a : MethodName := ⟨"WideMachineModel", "a", "(I)I"⟩
abbrev b_mm_b : ByteArray := prog_7_method_20_code
def y_mm_b : MethodName := ⟨"WideMachineModel", "b", "(I)I"⟩
abbrev b_mm_isNumber : ByteArray := prog_7_method_21_code
def y_mm_isNumber : MethodName := ⟨"WideMachineModel", "isNumber", "(I)Z"⟩
abbrev b_mm_isS : ByteArray := prog_7_method_22_code
def y_mm_isS : MethodName := ⟨"WideMachineModel", "isS", "(III)Z"⟩
abbrev b_mm_hasD : ByteArray := prog_7_method_23_code
def y_mm_hasD : MethodName := ⟨"WideMachineModel", "hasD", "(I)Z"⟩
abbrev b_mm_hasA : ByteArray := prog_7_method_24_code
def y_mm_hasA : MethodName := ⟨"WideMachineModel", "hasA", "(I)Z"⟩
abbrev b_mm_hasB : ByteArray := prog_7_method_25_code
def y_mm_hasB : MethodName := ⟨"WideMachineModel", "hasB", "(I)Z"⟩
abbrev b_mm_isOther : ByteArray := prog_7_method_26_code
def y_mm_isOther : MethodName := ⟨"WideMachineModel", "isOther", "(II)Z"⟩
abbrev b_mm_isIll : ByteArray := prog_7_method_27_code
def y_mm_isIll : MethodName := ⟨"WideMachineModel", "isIll", "(I)Z"⟩
abbrev b_mm_isDone : ByteArray := prog_7_method_28_code
def y_mm_isDone : MethodName := ⟨"WideMachineModel", "isDone", "(I)Z"⟩
abbrev b_mm_cycle : ByteArray := prog_7_method_29_code
def y_mm_cycle : MethodName := ⟨"WideMachineModel", "cycle", "()V"⟩
abbrev b_mm_lands : ByteArray := prog_7_method_30_code
def y_mm_lands : MethodName := ⟨"WideMachineModel", "lands", "()I"⟩
abbrev b_mm_arrives : ByteArray := prog_7_method_31_code
def y_mm_arrives : MethodName := ⟨"WideMachineModel", "arrives", "()I"⟩
abbrev b_mm_interrupts : ByteArray := prog_7_method_32_code
def y_mm_interrupts : MethodName := ⟨"WideMachineModel", "interrupts", "()V"⟩
abbrev b_mm_wrong : ByteArray := prog_7_method_33_code
def y_mm_wrong : MethodName := ⟨"WideMachineModel", "wrong", "(I)I"⟩
abbrev b_mm_packet : ByteArray := prog_7_method_34_code
def y_mm_packet : MethodName := ⟨"WideMachineModel", "packet", "(I)V"⟩
abbrev b_mm_write : ByteArray := prog_7_method_35_code
def y_mm_write : MethodName := ⟨"WideMachineModel", "write", "(III)V"⟩
abbrev b_mm_second : ByteArray := prog_7_method_36_code
def y_mm_second : MethodName := ⟨"WideMachineModel", "second", "(I)I"⟩
abbrev b_mm_controls : ByteArray := prog_7_method_37_code
def y_mm_controls : MethodName := ⟨"WideMachineModel", "controls", "(I)V"⟩
abbrev b_mm_reaches : ByteArray := prog_7_method_38_code
def y_mm_reaches : MethodName := ⟨"WideMachineModel", "reaches", "(I)Z"⟩
abbrev b_mm_meets : ByteArray := prog_7_method_39_code
def y_mm_meets : MethodName := ⟨"WideMachineModel", "meets", "(I)V"⟩
abbrev b_mm_works : ByteArray := prog_7_method_40_code
def y_mm_works : MethodName := ⟨"WideMachineModel", "works", "(I)I"⟩
abbrev b_mm_logic : ByteArray := prog_7_method_41_code
def y_mm_logic : MethodName := ⟨"WideMachineModel", "logic", "(III)I"⟩
abbrev b_mm_shift : ByteArray := prog_7_method_42_code
def y_mm_shift : MethodName := ⟨"WideMachineModel", "shift", "(III)I"⟩
abbrev b_mm_product : ByteArray := prog_7_method_43_code
def y_mm_product : MethodName := ⟨"WideMachineModel", "product", "(III)I"⟩
abbrev b_xb_init : ByteArray := prog_2_method_1_code
def y_xb_init : MethodName := ⟨"WideMachine$Branches", "<init>", "()V"⟩
abbrev b_xb_add : ByteArray := prog_2_method_2_code
def y_xb_add : MethodName := ⟨"WideMachine$Branches", "add", "(I)V"⟩
abbrev b_xb_clear : ByteArray := prog_2_method_3_code
def y_xb_clear : MethodName := ⟨"WideMachine$Branches", "clear", "()V"⟩
abbrev b_xb_comeNearer : ByteArray := prog_2_method_4_code
def y_xb_comeNearer : MethodName := ⟨"WideMachine$Branches", "comeNearer", "()V"⟩
abbrev b_xb_arrived : ByteArray := prog_2_method_5_code
def y_xb_arrived : MethodName := ⟨"WideMachine$Branches", "arrived", "()I"⟩
abbrev b_xb_takeFirst : ByteArray := prog_2_method_6_code
def y_xb_takeFirst : MethodName := ⟨"WideMachine$Branches", "takeFirst", "()I"⟩
abbrev b_xv_ofL : ByteArray := prog_3_method_2_code
def y_xv_ofL : MethodName := ⟨"WideMachine$Values", "ofL", "(III)I"⟩
abbrev b_xv_ofS : ByteArray := prog_3_method_3_code
def y_xv_ofS : MethodName := ⟨"WideMachine$Values", "ofS", "(III)I"⟩
abbrev b_xv_ofM : ByteArray := prog_3_method_4_code
def y_xv_ofM : MethodName := ⟨"WideMachine$Values", "ofM", "(III)I"⟩
abbrev b_xv_ofD : ByteArray := prog_3_method_5_code
def y_xv_ofD : MethodName := ⟨"WideMachine$Values", "ofD", "(III)I"⟩
abbrev b_xv_nearestInt : ByteArray := prog_3_method_6_code
def y_xv_nearestInt : MethodName := ⟨"WideMachine$Values", "nearestInt", "(J)I"⟩
abbrev b_xv_bitsLikeHighest : ByteArray := prog_3_method_7_code
def y_xv_bitsLikeHighest : MethodName := ⟨"WideMachine$Values", "bitsLikeHighest", "(I)I"⟩
abbrev b_xw_goesOn : ByteArray := prog_4_method_2_code
def y_xw_goesOn : MethodName := ⟨"WideMachine$Word", "goesOn", "(I)Z"⟩
abbrev b_xw_isOnZero : ByteArray := prog_4_method_3_code
def y_xw_isOnZero : MethodName := ⟨"WideMachine$Word", "isOnZero", "(I)Z"⟩
abbrev b_xw_unit : ByteArray := prog_4_method_4_code
def y_xw_unit : MethodName := ⟨"WideMachine$Word", "unit", "(I)I"⟩
abbrev b_xw_kind : ByteArray := prog_4_method_5_code
def y_xw_kind : MethodName := ⟨"WideMachine$Word", "kind", "(I)I"⟩
abbrev b_xw_side : ByteArray := prog_4_method_6_code
def y_xw_side : MethodName := ⟨"WideMachine$Word", "side", "(I)I"⟩
abbrev b_xw_code : ByteArray := prog_4_method_7_code
def y_xw_code : MethodName := ⟨"WideMachine$Word", "code", "(I)I"⟩
abbrev b_xw_d : ByteArray := prog_4_method_8_code
def y_xw_d : MethodName := ⟨"WideMachine$Word", "d", "(I)I"⟩
abbrev b_xw_a : ByteArray := prog_4_method_9_code
def y_xw_a : MethodName := ⟨"WideMachine$Word", "a", "(I)I"⟩
abbrev b_xw_b : ByteArray := prog_4_method_10_code
def y_xw_b : MethodName := ⟨"WideMachine$Word", "b", "(I)I"⟩
abbrev b_xw_isNumberB : ByteArray := prog_4_method_11_code
def y_xw_isNumberB : MethodName := ⟨"WideMachine$Word", "isNumberB", "(I)Z"⟩
abbrev b_xw_numberB : ByteArray := prog_4_method_12_code
def y_xw_numberB : MethodName := ⟨"WideMachine$Word", "numberB", "(I)I"⟩
abbrev b_xw_number : ByteArray := prog_4_method_13_code
def y_xw_number : MethodName := ⟨"WideMachine$Word", "number", "(I)I"⟩
abbrev b_xw_target : ByteArray := prog_4_method_14_code
def y_xw_target : MethodName := ⟨"WideMachine$Word", "target", "(I)I"⟩
abbrev b_xw_timeOfWrite : ByteArray := prog_4_method_15_code
def y_xw_timeOfWrite : MethodName := ⟨"WideMachine$Word", "timeOfWrite", "(I)I"⟩
abbrev b_xw_conditionRegister : ByteArray := prog_4_method_16_code
def y_xw_conditionRegister : MethodName := ⟨"WideMachine$Word", "conditionRegister", "(I)I"⟩
abbrev b_xw_isIllFormed : ByteArray := prog_4_method_17_code
def y_xw_isIllFormed : MethodName := ⟨"WideMachine$Word", "isIllFormed", "(I)Z"⟩
abbrev b_xw_crosses : ByteArray := prog_4_method_18_code
def y_xw_crosses : MethodName := ⟨"WideMachine$Word", "crosses", "(I)Z"⟩
abbrev b_xw_isOperation : ByteArray := prog_4_method_19_code
def y_xw_isOperation : MethodName := ⟨"WideMachine$Word", "isOperation", "(I)Z"⟩
abbrev b_xw_hasLongNumber : ByteArray := prog_4_method_20_code
def y_xw_hasLongNumber : MethodName := ⟨"WideMachine$Word", "hasLongNumber", "(I)Z"⟩
abbrev b_xw_hasD : ByteArray := prog_4_method_21_code
def y_xw_hasD : MethodName := ⟨"WideMachine$Word", "hasD", "(I)Z"⟩
abbrev b_xw_hasA : ByteArray := prog_4_method_22_code
def y_xw_hasA : MethodName := ⟨"WideMachine$Word", "hasA", "(I)Z"⟩
abbrev b_xw_hasB : ByteArray := prog_4_method_23_code
def y_xw_hasB : MethodName := ⟨"WideMachine$Word", "hasB", "(I)Z"⟩
abbrev b_xq_init : ByteArray := prog_5_method_1_code
def y_xq_init : MethodName := ⟨"WideMachine$Writes", "<init>", "()V"⟩
abbrev b_xq_add : ByteArray := prog_5_method_2_code
def y_xq_add : MethodName := ⟨"WideMachine$Writes", "add", "(III)V"⟩
abbrev b_xq_clear : ByteArray := prog_5_method_3_code
def y_xq_clear : MethodName := ⟨"WideMachine$Writes", "clear", "()V"⟩
abbrev b_xq_comeNearer : ByteArray := prog_5_method_4_code
def y_xq_comeNearer : MethodName := ⟨"WideMachine$Writes", "comeNearer", "()V"⟩
abbrev b_xq_clash : ByteArray := prog_5_method_5_code
def y_xq_clash : MethodName := ⟨"WideMachine$Writes", "clash", "()Z"⟩
abbrev b_xq_land : ByteArray := prog_5_method_6_code
def y_xq_land : MethodName := ⟨"WideMachine$Writes", "land", "([I)V"⟩
def vw_T : List Cond := [
  .laysFinal "WideMachine" "WideMachine" "program" "[I",
  .laysFinal "WideMachine" "WideMachine" "data" "[I",
  .laysFinal "WideMachine" "WideMachine" "registers" "[I",
  .laysFinal "WideMachine" "WideMachine" "writes" "LWideMachine$Writes;",
  .laysFinal "WideMachine" "WideMachine" "branches" "LWideMachine$Branches;",
  .lays "WideMachine" "WideMachine" "state" "I",
  .lays "WideMachine" "WideMachine" "address" "I",
  .lays "WideMachine" "WideMachine" "cycles" "I",
  .lays "WideMachine" "WideMachine" "waits" "I",
  .lays "WideMachine" "WideMachine" "returnAddress" "I",
  .lays "WideMachine" "WideMachine" "raisedLines" "I",
  .lays "WideMachine" "WideMachine" "letsIn" "Z",
  .laysFinal "WideMachine$Writes" "WideMachine$Writes" "targets" "[I",
  .laysFinal "WideMachine$Writes" "WideMachine$Writes" "values" "[I",
  .laysFinal "WideMachine$Writes" "WideMachine$Writes" "times" "[I",
  .lays "WideMachine$Writes" "WideMachine$Writes" "count" "I",
  .laysFinal "WideMachine$Branches" "WideMachine$Branches" "targets" "[I",
  .laysFinal "WideMachine$Branches" "WideMachine$Branches" "times" "[I",
  .lays "WideMachine$Branches" "WideMachine$Branches" "count" "I",
  .lays "WideMachineModel" "WideMachineModel" "thrown" "I",
  .laysFinal "WideMachineModel" "WideMachineModel" "words" "I",
  .laysFinal "WideMachineModel" "WideMachineModel" "size" "I",
  .laysFinal "WideMachineModel" "WideMachineModel" "program" "[I",
  .laysFinal "WideMachineModel" "WideMachineModel" "data" "[I",
  .laysFinal "WideMachineModel" "WideMachineModel" "registers" "[I",
  .lays "WideMachineModel" "WideMachineModel" "state" "I",
  .lays "WideMachineModel" "WideMachineModel" "address" "I",
  .lays "WideMachineModel" "WideMachineModel" "cycles" "I",
  .lays "WideMachineModel" "WideMachineModel" "wait" "I",
  .lays "WideMachineModel" "WideMachineModel" "back" "I",
  .lays "WideMachineModel" "WideMachineModel" "letIn" "Z",
  .lays "WideMachineModel" "WideMachineModel" "raised" "I",
  .lays "WideMachineModel" "WideMachineModel" "writes" "I",
  .laysFinal "WideMachineModel" "WideMachineModel" "register" "[I",
  .laysFinal "WideMachineModel" "WideMachineModel" "value" "[I",
  .laysFinal "WideMachineModel" "WideMachineModel" "when" "[I",
  .lays "WideMachineModel" "WideMachineModel" "branches" "I",
  .laysFinal "WideMachineModel" "WideMachineModel" "target" "[I",
  .laysFinal "WideMachineModel" "WideMachineModel" "goes" "[I",
  .lays "WideMachineModel" "WideMachineModel" "stores" "I",
  .laysFinal "WideMachineModel" "WideMachineModel" "where" "[I",
  .laysFinal "WideMachineModel" "WideMachineModel" "what" "[I",
  .fieldLink "WideMachine" 13 "WideMachine" "program" "[I",
  .fieldLink "WideMachine" 17 "WideMachine" "data" "[I",
  .methodLink "WideMachine" 37 y_xm_isInData,
  .code y_xm_isInData b_xm_isInData 2 (some .boolean),
  .initialized "WideMachine",
  .instanceMethod y_xm_isInData,
  .selects "WideMachine" y_xm_isInData y_xm_isInData,
  .fieldLink "WideMachine" 20 "WideMachine" "registers" "[I",
  .fieldLink "WideMachine$Writes" 19 "WideMachine$Writes" "count" "I",
  .fieldLink "WideMachine$Writes" 16 "WideMachine$Writes" "times" "[I",
  .fieldLink "WideMachine$Writes" 9 "WideMachine$Writes" "targets" "[I",
  .fieldLink "WideMachine$Writes" 13 "WideMachine$Writes" "values" "[I",
  .fieldLink "WideMachine" 26 "WideMachine" "writes" "LWideMachine$Writes;",
  .methodLink "WideMachine" 116 y_xq_comeNearer,
  .code y_xq_comeNearer b_xq_comeNearer 2 none,
  .initialized "WideMachine$Writes",
  .instanceMethod y_xq_comeNearer,
  .selects "WideMachine$Writes" y_xq_comeNearer y_xq_comeNearer,
  .methodLink "WideMachine" 119 y_xq_clash,
  .code y_xq_clash b_xq_clash 4 (some .boolean),
  .instanceMethod y_xq_clash,
  .selects "WideMachine$Writes" y_xq_clash y_xq_clash,
  .fieldLink "WideMachine" 41 "WideMachine" "state" "I",
  .methodLink "WideMachine" 123 y_xq_land,
  .code y_xq_land b_xq_land 4 none,
  .instanceMethod y_xq_land,
  .selects "WideMachine$Writes" y_xq_land y_xq_land,
  .fieldLink "WideMachine$Branches" 16 "WideMachine$Branches" "count" "I",
  .fieldLink "WideMachine$Branches" 13 "WideMachine$Branches" "times" "[I",
  .fieldLink "WideMachine$Branches" 9 "WideMachine$Branches" "targets" "[I",
  .fieldLink "WideMachine" 33 "WideMachine" "branches" "LWideMachine$Branches;",
  .methodLink "WideMachine" 127 y_xb_comeNearer,
  .code y_xb_comeNearer b_xb_comeNearer 2 none,
  .initialized "WideMachine$Branches",
  .instanceMethod y_xb_comeNearer,
  .selects "WideMachine$Branches" y_xb_comeNearer y_xb_comeNearer,
  .methodLink "WideMachine" 128 y_xb_arrived,
  .code y_xb_arrived b_xb_arrived 2 (some .int),
  .instanceMethod y_xb_arrived,
  .selects "WideMachine$Branches" y_xb_arrived y_xb_arrived,
  .methodLink "WideMachine" 131 y_xb_takeFirst,
  .code y_xb_takeFirst b_xb_takeFirst 3 (some .int),
  .instanceMethod y_xb_takeFirst,
  .selects "WideMachine$Branches" y_xb_takeFirst y_xb_takeFirst,
  .fieldLink "WideMachine" 48 "WideMachine" "address" "I",
  .fieldLink "WideMachine" 68 "WideMachine" "raisedLines" "I",
  .fieldLink "WideMachine" 64 "WideMachine" "letsIn" "Z",
  .fieldLink "WideMachine" 57 "WideMachine$Branches" "count" "I",
  .methodLink "WideMachine" 80 y_xm_isRaised,
  .code y_xm_isRaised b_xm_isRaised 2 (some .boolean),
  .instanceMethod y_xm_isRaised,
  .selects "WideMachine" y_xm_isRaised y_xm_isRaised,
  .fieldLink "WideMachine" 61 "WideMachine" "returnAddress" "I",
  .methodLink "WideMachine" 134 y_xw_goesOn,
  .code y_xw_goesOn b_xw_goesOn 1 (some .boolean),
  .initialized "WideMachine$Word",
  .static y_xw_goesOn,
  .methodLink "WideMachine$Word" 9 y_xw_code,
  .code y_xw_code b_xw_code 1 (some .int),
  .static y_xw_code,
  .methodLink "WideMachine$Word" 18 y_xw_isOnZero,
  .code y_xw_isOnZero b_xw_isOnZero 1 (some .boolean),
  .static y_xw_isOnZero,
  .methodLink "WideMachine$Word" 22 y_xw_isOperation,
  .code y_xw_isOperation b_xw_isOperation 1 (some .boolean),
  .static y_xw_isOperation,
  .methodLink "WideMachine$Word" 25 y_xw_hasLongNumber,
  .code y_xw_hasLongNumber b_xw_hasLongNumber 1 (some .boolean),
  .static y_xw_hasLongNumber,
  .methodLink "WideMachine$Word" 28 y_xw_hasD,
  .code y_xw_hasD b_xw_hasD 1 (some .boolean),
  .static y_xw_hasD,
  .methodLink "WideMachine$Word" 31 y_xw_d,
  .code y_xw_d b_xw_d 1 (some .int),
  .static y_xw_d,
  .methodLink "WideMachine$Word" 34 y_xw_side,
  .code y_xw_side b_xw_side 1 (some .int),
  .static y_xw_side,
  .methodLink "WideMachine$Word" 37 y_xw_hasA,
  .code y_xw_hasA b_xw_hasA 1 (some .boolean),
  .static y_xw_hasA,
  .methodLink "WideMachine$Word" 40 y_xw_a,
  .code y_xw_a b_xw_a 1 (some .int),
  .static y_xw_a,
  .methodLink "WideMachine" 151 y_xw_isIllFormed,
  .code y_xw_isIllFormed b_xw_isIllFormed 3 (some .boolean),
  .static y_xw_isIllFormed,
  .methodLink "WideMachine" 154 y_xw_unit,
  .code y_xw_unit b_xw_unit 1 (some .int),
  .static y_xw_unit,
  .methodLink "WideMachine$Word" 43 y_xw_hasB,
  .code y_xw_hasB b_xw_hasB 1 (some .boolean),
  .static y_xw_hasB,
  .methodLink "WideMachine$Word" 46 y_xw_isNumberB,
  .code y_xw_isNumberB b_xw_isNumberB 1 (some .boolean),
  .static y_xw_isNumberB,
  .methodLink "WideMachine$Word" 49 y_xw_b,
  .code y_xw_b b_xw_b 1 (some .int),
  .static y_xw_b,
  .methodLink "WideMachine" 157 y_xw_crosses,
  .code y_xw_crosses b_xw_crosses 1 (some .boolean),
  .static y_xw_crosses,
  .methodLink "WideMachine" 160 y_xw_side,
  .methodLink "WideMachine" 172 y_xw_conditionRegister,
  .code y_xw_conditionRegister b_xw_conditionRegister 1 (some .int),
  .static y_xw_conditionRegister,
  .methodLink "WideMachine" 175 y_xw_isOnZero,
  .methodLink "WideMachine" 184 y_xw_isNumberB,
  .methodLink "WideMachine" 187 y_xw_numberB,
  .code y_xw_numberB b_xw_numberB 1 (some .int),
  .static y_xw_numberB,
  .methodLink "WideMachine" 190 y_xw_b,
  .methodLink "WideMachine" 178 y_xw_a,
  .methodLink "WideMachine" 181 y_xm_operandB,
  .code y_xm_operandB b_xm_operandB 2 (some .int),
  .instanceMethod y_xm_operandB,
  .selects "WideMachine" y_xm_operandB y_xm_operandB,
  .methodLink "WideMachine" 163 y_xw_code,
  .methodLink "WideMachine" 166 y_xm_isConditionTrue,
  .code y_xm_isConditionTrue b_xm_isConditionTrue 3 (some .boolean),
  .instanceMethod y_xm_isConditionTrue,
  .selects "WideMachine" y_xm_isConditionTrue y_xm_isConditionTrue,
  .methodLink "WideMachine" 169 y_xm_dataAddress,
  .code y_xm_dataAddress b_xm_dataAddress 2 (some .int),
  .instanceMethod y_xm_dataAddress,
  .selects "WideMachine" y_xm_dataAddress y_xm_dataAddress,
  .methodLink "WideMachine" 139 y_xm_hasIllFormed,
  .code y_xm_hasIllFormed b_xm_hasIllFormed 3 (some .boolean),
  .instanceMethod y_xm_hasIllFormed,
  .selects "WideMachine" y_xm_hasIllFormed y_xm_hasIllFormed,
  .methodLink "WideMachine" 142 y_xm_hasUnitTwice,
  .code y_xm_hasUnitTwice b_xm_hasUnitTwice 5 (some .boolean),
  .instanceMethod y_xm_hasUnitTwice,
  .selects "WideMachine" y_xm_hasUnitTwice y_xm_hasUnitTwice,
  .methodLink "WideMachine" 145 y_xm_hasCrossedTwice,
  .code y_xm_hasCrossedTwice b_xm_hasCrossedTwice 5 (some .boolean),
  .instanceMethod y_xm_hasCrossedTwice,
  .selects "WideMachine" y_xm_hasCrossedTwice y_xm_hasCrossedTwice,
  .methodLink "WideMachine" 148 y_xm_goesBeyondData,
  .code y_xm_goesBeyondData b_xm_goesBeyondData 6 (some .boolean),
  .instanceMethod y_xm_goesBeyondData,
  .selects "WideMachine" y_xm_goesBeyondData y_xm_goesBeyondData,
  .constantLong "WideMachine$Values" 20 2147483647,
  .constant "WideMachine$Values" 22 2147483647,
  .constantLong "WideMachine$Values" 23 (-2147483648),
  .constant "WideMachine$Values" 25 (-2147483648),
  .methodLink "WideMachine$Values" 7 y_xv_nearestInt,
  .code y_xv_nearestInt b_xv_nearestInt 2 (some .int),
  .initialized "WideMachine$Values",
  .static y_xv_nearestInt,
  .methodLink "WideMachine$Values" 13 y_xv_bitsLikeHighest,
  .code y_xv_bitsLikeHighest b_xv_bitsLikeHighest 4 (some .int),
  .static y_xv_bitsLikeHighest,
  .constant "WideMachine$Values" 17 65535,
  .constantLong "WideMachine$Values" 18 2,
  .methodLink "WideMachine" 217 y_xw_number,
  .code y_xw_number b_xw_number 1 (some .int),
  .static y_xw_number,
  .constant "WideMachine" 220 65536,
  .methodLink "WideMachine" 205 y_xw_d,
  .constant "WideMachine" 221 65535,
  .methodLink "WideMachine" 222 y_xm_peek,
  .code y_xm_peek b_xm_peek 2 (some .int),
  .instanceMethod y_xm_peek,
  .selects "WideMachine" y_xm_peek y_xm_peek,
  .methodLink "WideMachine" 225 y_xw_kind,
  .code y_xw_kind b_xw_kind 1 (some .int),
  .static y_xw_kind,
  .methodLink "WideMachine" 228 y_xv_ofL,
  .code y_xv_ofL b_xv_ofL 3 (some .int),
  .static y_xv_ofL,
  .methodLink "WideMachine" 234 y_xv_ofS,
  .code y_xv_ofS b_xv_ofS 3 (some .int),
  .static y_xv_ofS,
  .methodLink "WideMachine" 237 y_xv_ofM,
  .code y_xv_ofM b_xv_ofM 3 (some .int),
  .static y_xv_ofM,
  .methodLink "WideMachine" 240 y_xv_ofD,
  .code y_xv_ofD b_xv_ofD 3 (some .int),
  .static y_xv_ofD,
  .methodLink "WideMachine$Word" 15 y_xw_kind,
  .methodLink "WideMachine" 199 y_xw_target,
  .code y_xw_target b_xw_target 1 (some .int),
  .static y_xw_target,
  .methodLink "WideMachine" 202 y_xb_add,
  .code y_xb_add b_xb_add 2 none,
  .instanceMethod y_xb_add,
  .selects "WideMachine$Branches" y_xb_add y_xb_add,
  .fieldLink "WideMachine" 58 "WideMachine" "waits" "I",
  .methodLink "WideMachine" 93 Lib.Math.max.name,
  .static Lib.Math.max.name,
  .initialized "java/lang/Math",
  .code Lib.Math.max.name Lib.Math.max.code 2 (some .int),
  .methodLink "WideMachine" 208 y_xm_valueOf,
  .code y_xm_valueOf b_xm_valueOf 5 (some .int),
  .instanceMethod y_xm_valueOf,
  .selects "WideMachine" y_xm_valueOf y_xm_valueOf,
  .methodLink "WideMachine" 211 y_xw_timeOfWrite,
  .code y_xw_timeOfWrite b_xw_timeOfWrite 1 (some .int),
  .static y_xw_timeOfWrite,
  .methodLink "WideMachine" 214 y_xq_add,
  .code y_xq_add b_xq_add 4 none,
  .instanceMethod y_xq_add,
  .selects "WideMachine$Writes" y_xq_add y_xq_add,
  .methodLink "WideMachine" 243 y_xm_poke,
  .code y_xm_poke b_xm_poke 3 (some .boolean),
  .instanceMethod y_xm_poke,
  .selects "WideMachine" y_xm_poke y_xm_poke,
  .methodLink "WideMachine" 193 y_xm_doWord,
  .code y_xm_doWord b_xm_doWord 2 none,
  .instanceMethod y_xm_doWord,
  .selects "WideMachine" y_xm_doWord y_xm_doWord,
  .methodLink "WideMachine" 196 y_xm_doStores,
  .code y_xm_doStores b_xm_doStores 4 none,
  .instanceMethod y_xm_doStores,
  .selects "WideMachine" y_xm_doStores y_xm_doStores,
  .fieldLink "WideMachine" 51 "WideMachine" "cycles" "I",
  .methodLink "WideMachine" 96 y_xm_landWrites,
  .code y_xm_landWrites b_xm_landWrites 1 none,
  .instanceMethod y_xm_landWrites,
  .selects "WideMachine" y_xm_landWrites y_xm_landWrites,
  .methodLink "WideMachine" 99 y_xm_takeBranch,
  .code y_xm_takeBranch b_xm_takeBranch 2 none,
  .instanceMethod y_xm_takeBranch,
  .selects "WideMachine" y_xm_takeBranch y_xm_takeBranch,
  .methodLink "WideMachine" 102 y_xm_takeInterrupt,
  .code y_xm_takeInterrupt b_xm_takeInterrupt 2 none,
  .instanceMethod y_xm_takeInterrupt,
  .selects "WideMachine" y_xm_takeInterrupt y_xm_takeInterrupt,
  .methodLink "WideMachine" 105 y_xm_endOfPacket,
  .code y_xm_endOfPacket b_xm_endOfPacket 3 (some .int),
  .instanceMethod y_xm_endOfPacket,
  .selects "WideMachine" y_xm_endOfPacket y_xm_endOfPacket,
  .methodLink "WideMachine" 109 y_xm_faultOfPacket,
  .code y_xm_faultOfPacket b_xm_faultOfPacket 3 (some .int),
  .instanceMethod y_xm_faultOfPacket,
  .selects "WideMachine" y_xm_faultOfPacket y_xm_faultOfPacket,
  .methodLink "WideMachine" 112 y_xm_doPacket,
  .code y_xm_doPacket b_xm_doPacket 3 none,
  .instanceMethod y_xm_doPacket,
  .selects "WideMachine" y_xm_doPacket y_xm_doPacket,
  .methodLink "WideMachine" 45 y_xm_doCycle,
  .code y_xm_doCycle b_xm_doCycle 2 none,
  .instanceMethod y_xm_doCycle,
  .selects "WideMachine" y_xm_doCycle y_xm_doCycle,
  .fieldLink "WideMachine" 54 "WideMachine$Writes" "count" "I",
  .fieldLink "WideMachine" 71 "WideMachine$Writes" "targets" "[I",
  .fieldLink "WideMachine" 74 "WideMachine$Writes" "values" "[I",
  .fieldLink "WideMachine" 77 "WideMachine$Writes" "times" "[I",
  .methodLink "WideMachine" 83 y_xq_clear,
  .code y_xq_clear b_xq_clear 1 none,
  .instanceMethod y_xq_clear,
  .selects "WideMachine$Writes" y_xq_clear y_xq_clear,
  .methodLink "WideMachine" 86 y_xb_clear,
  .code y_xb_clear b_xb_clear 1 none,
  .instanceMethod y_xb_clear,
  .selects "WideMachine$Branches" y_xb_clear y_xb_clear,
  .methodLink "WideMachine" 87 Lib.Math.min.name,
  .static Lib.Math.min.name,
  .code Lib.Math.min.name Lib.Math.min.code 2 (some .int),
  .fieldLink "WideMachineModel" 47 "WideMachineModel" "thrown" "I",
  .fieldLink "WideMachineModel" 40 "WideMachineModel" "words" "I",
  .fieldLink "WideMachineModel" 7 "WideMachineModel" "program" "[I",
  .fieldLink "WideMachineModel" 44 "WideMachineModel" "size" "I",
  .fieldLink "WideMachineModel" 13 "WideMachineModel" "data" "[I",
  .fieldLink "WideMachineModel" 16 "WideMachineModel" "registers" "[I",
  .fieldLink "WideMachineModel" 50 "WideMachineModel" "state" "I",
  .fieldLink "WideMachineModel" 53 "WideMachineModel" "address" "I",
  .fieldLink "WideMachineModel" 56 "WideMachineModel" "cycles" "I",
  .fieldLink "WideMachineModel" 59 "WideMachineModel" "writes" "I",
  .fieldLink "WideMachineModel" 62 "WideMachineModel" "branches" "I",
  .fieldLink "WideMachineModel" 65 "WideMachineModel" "wait" "I",
  .fieldLink "WideMachineModel" 68 "WideMachineModel" "back" "I",
  .fieldLink "WideMachineModel" 71 "WideMachineModel" "letIn" "Z",
  .fieldLink "WideMachineModel" 75 "WideMachineModel" "raised" "I",
  .fieldLink "WideMachineModel" 19 "WideMachineModel" "register" "[I",
  .fieldLink "WideMachineModel" 22 "WideMachineModel" "value" "[I",
  .fieldLink "WideMachineModel" 25 "WideMachineModel" "when" "[I",
  .fieldLink "WideMachineModel" 31 "WideMachineModel" "goes" "[I",
  .fieldLink "WideMachineModel" 28 "WideMachineModel" "target" "[I",
  .methodLink "WideMachineModel" 81 y_mm_kind,
  .code y_mm_kind b_mm_kind 1 (some .int),
  .initialized "WideMachineModel",
  .static y_mm_kind,
  .methodLink "WideMachineModel" 85 y_mm_operation,
  .code y_mm_operation b_mm_operation 1 (some .int),
  .static y_mm_operation,
  .methodLink "WideMachineModel" 88 y_mm_isS,
  .code y_mm_isS b_mm_isS 3 (some .boolean),
  .static y_mm_isS,
  .methodLink "WideMachineModel" 92 y_mm_unit,
  .code y_mm_unit b_mm_unit 1 (some .int),
  .static y_mm_unit,
  .methodLink "WideMachineModel" 95 y_mm_condition,
  .code y_mm_condition b_mm_condition 1 (some .int),
  .static y_mm_condition,
  .methodLink "WideMachineModel" 98 y_mm_hasD,
  .code y_mm_hasD b_mm_hasD 1 (some .boolean),
  .static y_mm_hasD,
  .methodLink "WideMachineModel" 102 y_mm_d,
  .code y_mm_d b_mm_d 1 (some .int),
  .static y_mm_d,
  .methodLink "WideMachineModel" 105 y_mm_isOther,
  .code y_mm_isOther b_mm_isOther 2 (some .boolean),
  .static y_mm_isOther,
  .methodLink "WideMachineModel" 109 y_mm_hasA,
  .code y_mm_hasA b_mm_hasA 1 (some .boolean),
  .static y_mm_hasA,
  .methodLink "WideMachineModel" 112 y_mm_a,
  .code y_mm_a b_mm_a 1 (some .int),
  .static y_mm_a,
  .methodLink "WideMachineModel" 138 y_mm_isNumber,
  .code y_mm_isNumber b_mm_isNumber 1 (some .boolean),
  .static y_mm_isNumber,
  .methodLink "WideMachineModel" 141 y_mm_b,
  .code y_mm_b b_mm_b 1 (some .int),
  .static y_mm_b,
  .methodLink "WideMachineModel" 166 y_mm_second,
  .code y_mm_second b_mm_second 2 (some .int),
  .instanceMethod y_mm_second,
  .selects "WideMachineModel" y_mm_second y_mm_second,
  .methodLink "WideMachineModel" 132 y_mm_isIll,
  .code y_mm_isIll b_mm_isIll 4 (some .boolean),
  .static y_mm_isIll,
  .methodLink "WideMachineModel" 135 y_mm_hasB,
  .code y_mm_hasB b_mm_hasB 1 (some .boolean),
  .static y_mm_hasB,
  .methodLink "WideMachineModel" 144 y_mm_isDone,
  .code y_mm_isDone b_mm_isDone 4 (some .boolean),
  .instanceMethod y_mm_isDone,
  .selects "WideMachineModel" y_mm_isDone y_mm_isDone,
  .methodLink "WideMachineModel" 147 y_mm_reaches,
  .code y_mm_reaches b_mm_reaches 3 (some .boolean),
  .instanceMethod y_mm_reaches,
  .selects "WideMachineModel" y_mm_reaches y_mm_reaches,
  .methodLink "WideMachineModel" 162 y_mm_write,
  .code y_mm_write b_mm_write 4 none,
  .instanceMethod y_mm_write,
  .selects "WideMachineModel" y_mm_write y_mm_write,
  .fieldLink "WideMachineModel" 34 "WideMachineModel" "where" "[I",
  .fieldLink "WideMachineModel" 150 "WideMachineModel" "stores" "I",
  .fieldLink "WideMachineModel" 37 "WideMachineModel" "what" "[I",
  .constantLong "WideMachineModel" 179 2147483647,
  .constant "WideMachineModel" 181 2147483647,
  .constantLong "WideMachineModel" 182 (-2147483648),
  .constant "WideMachineModel" 184 (-2147483648),
  .constant "WideMachineModel" 185 65535,
  .constant "WideMachineModel" 186 1073741824,
  .methodLink "WideMachineModel" 169 y_mm_logic,
  .code y_mm_logic b_mm_logic 5 (some .int),
  .static y_mm_logic,
  .methodLink "WideMachineModel" 173 y_mm_shift,
  .code y_mm_shift b_mm_shift 5 (some .int),
  .instanceMethod y_mm_shift,
  .selects "WideMachineModel" y_mm_shift y_mm_shift,
  .methodLink "WideMachineModel" 176 y_mm_product,
  .code y_mm_product b_mm_product 4 (some .int),
  .static y_mm_product,
  .methodLink "WideMachineModel" 153 y_mm_controls,
  .code y_mm_controls b_mm_controls 4 none,
  .instanceMethod y_mm_controls,
  .selects "WideMachineModel" y_mm_controls y_mm_controls,
  .methodLink "WideMachineModel" 156 y_mm_meets,
  .code y_mm_meets b_mm_meets 3 none,
  .instanceMethod y_mm_meets,
  .selects "WideMachineModel" y_mm_meets y_mm_meets,
  .methodLink "WideMachineModel" 159 y_mm_works,
  .code y_mm_works b_mm_works 5 (some .int),
  .instanceMethod y_mm_works,
  .selects "WideMachineModel" y_mm_works y_mm_works,
  .methodLink "WideMachineModel" 115 y_mm_lands,
  .code y_mm_lands b_mm_lands 3 (some .int),
  .instanceMethod y_mm_lands,
  .selects "WideMachineModel" y_mm_lands y_mm_lands,
  .methodLink "WideMachineModel" 119 y_mm_arrives,
  .code y_mm_arrives b_mm_arrives 3 (some .int),
  .instanceMethod y_mm_arrives,
  .selects "WideMachineModel" y_mm_arrives y_mm_arrives,
  .methodLink "WideMachineModel" 122 y_mm_interrupts,
  .code y_mm_interrupts b_mm_interrupts 2 none,
  .instanceMethod y_mm_interrupts,
  .selects "WideMachineModel" y_mm_interrupts y_mm_interrupts,
  .methodLink "WideMachineModel" 125 y_mm_wrong,
  .code y_mm_wrong b_mm_wrong 6 (some .int),
  .instanceMethod y_mm_wrong,
  .selects "WideMachineModel" y_mm_wrong y_mm_wrong,
  .methodLink "WideMachineModel" 128 y_mm_packet,
  .code y_mm_packet b_mm_packet 5 none,
  .instanceMethod y_mm_packet,
  .selects "WideMachineModel" y_mm_packet y_mm_packet,
  .methodLink "WideMachineModel" 78 y_mm_cycle,
  .code y_mm_cycle b_mm_cycle 3 none,
  .instanceMethod y_mm_cycle,
  .selects "WideMachineModel" y_mm_cycle y_mm_cycle]
theorem vm_0 : Cond.laysFinal "WideMachine" "WideMachine" "program" "[I" ∈ vw_T := List.mem_of_getElem? (i := 0) rfl
theorem vm_1 : Cond.laysFinal "WideMachine" "WideMachine" "data" "[I" ∈ vw_T := List.mem_of_getElem? (i := 1) rfl
theorem vm_2 : Cond.laysFinal "WideMachine" "WideMachine" "registers" "[I" ∈ vw_T := List.mem_of_getElem? (i := 2) rfl
theorem vm_3 : Cond.laysFinal "WideMachine" "WideMachine" "writes" "LWideMachine$Writes;" ∈ vw_T := List.mem_of_getElem? (i := 3) rfl
theorem vm_4 : Cond.laysFinal "WideMachine" "WideMachine" "branches" "LWideMachine$Branches;" ∈ vw_T := List.mem_of_getElem? (i := 4) rfl
theorem vm_5 : Cond.lays "WideMachine" "WideMachine" "state" "I" ∈ vw_T := List.mem_of_getElem? (i := 5) rfl
theorem vm_6 : Cond.lays "WideMachine" "WideMachine" "address" "I" ∈ vw_T := List.mem_of_getElem? (i := 6) rfl
theorem vm_7 : Cond.lays "WideMachine" "WideMachine" "cycles" "I" ∈ vw_T := List.mem_of_getElem? (i := 7) rfl
theorem vm_8 : Cond.lays "WideMachine" "WideMachine" "waits" "I" ∈ vw_T := List.mem_of_getElem? (i := 8) rfl
theorem vm_9 : Cond.lays "WideMachine" "WideMachine" "returnAddress" "I" ∈ vw_T := List.mem_of_getElem? (i := 9) rfl
theorem vm_10 : Cond.lays "WideMachine" "WideMachine" "raisedLines" "I" ∈ vw_T := List.mem_of_getElem? (i := 10) rfl
theorem vm_11 : Cond.lays "WideMachine" "WideMachine" "letsIn" "Z" ∈ vw_T := List.mem_of_getElem? (i := 11) rfl
theorem vm_12 : Cond.laysFinal "WideMachine$Writes" "WideMachine$Writes" "targets" "[I" ∈ vw_T := List.mem_of_getElem? (i := 12) rfl
theorem vm_13 : Cond.laysFinal "WideMachine$Writes" "WideMachine$Writes" "values" "[I" ∈ vw_T := List.mem_of_getElem? (i := 13) rfl
theorem vm_14 : Cond.laysFinal "WideMachine$Writes" "WideMachine$Writes" "times" "[I" ∈ vw_T := List.mem_of_getElem? (i := 14) rfl
theorem vm_15 : Cond.lays "WideMachine$Writes" "WideMachine$Writes" "count" "I" ∈ vw_T := List.mem_of_getElem? (i := 15) rfl
theorem vm_16 : Cond.laysFinal "WideMachine$Branches" "WideMachine$Branches" "targets" "[I" ∈ vw_T := List.mem_of_getElem? (i := 16) rfl
theorem vm_17 : Cond.laysFinal "WideMachine$Branches" "WideMachine$Branches" "times" "[I" ∈ vw_T := List.mem_of_getElem? (i := 17) rfl
theorem vm_18 : Cond.lays "WideMachine$Branches" "WideMachine$Branches" "count" "I" ∈ vw_T := List.mem_of_getElem? (i := 18) rfl
theorem vm_19 : Cond.lays "WideMachineModel" "WideMachineModel" "thrown" "I" ∈ vw_T := List.mem_of_getElem? (i := 19) rfl
theorem vm_20 : Cond.laysFinal "WideMachineModel" "WideMachineModel" "words" "I" ∈ vw_T := List.mem_of_getElem? (i := 20) rfl
theorem vm_21 : Cond.laysFinal "WideMachineModel" "WideMachineModel" "size" "I" ∈ vw_T := List.mem_of_getElem? (i := 21) rfl
theorem vm_22 : Cond.laysFinal "WideMachineModel" "WideMachineModel" "program" "[I" ∈ vw_T := List.mem_of_getElem? (i := 22) rfl
theorem vm_23 : Cond.laysFinal "WideMachineModel" "WideMachineModel" "data" "[I" ∈ vw_T := List.mem_of_getElem? (i := 23) rfl
theorem vm_24 : Cond.laysFinal "WideMachineModel" "WideMachineModel" "registers" "[I" ∈ vw_T := List.mem_of_getElem? (i := 24) rfl
theorem vm_25 : Cond.lays "WideMachineModel" "WideMachineModel" "state" "I" ∈ vw_T := List.mem_of_getElem? (i := 25) rfl
theorem vm_26 : Cond.lays "WideMachineModel" "WideMachineModel" "address" "I" ∈ vw_T := List.mem_of_getElem? (i := 26) rfl
theorem vm_27 : Cond.lays "WideMachineModel" "WideMachineModel" "cycles" "I" ∈ vw_T := List.mem_of_getElem? (i := 27) rfl
theorem vm_28 : Cond.lays "WideMachineModel" "WideMachineModel" "wait" "I" ∈ vw_T := List.mem_of_getElem? (i := 28) rfl
theorem vm_29 : Cond.lays "WideMachineModel" "WideMachineModel" "back" "I" ∈ vw_T := List.mem_of_getElem? (i := 29) rfl
theorem vm_30 : Cond.lays "WideMachineModel" "WideMachineModel" "letIn" "Z" ∈ vw_T := List.mem_of_getElem? (i := 30) rfl
theorem vm_31 : Cond.lays "WideMachineModel" "WideMachineModel" "raised" "I" ∈ vw_T := List.mem_of_getElem? (i := 31) rfl
theorem vm_32 : Cond.lays "WideMachineModel" "WideMachineModel" "writes" "I" ∈ vw_T := List.mem_of_getElem? (i := 32) rfl
theorem vm_33 : Cond.laysFinal "WideMachineModel" "WideMachineModel" "register" "[I" ∈ vw_T := List.mem_of_getElem? (i := 33) rfl
theorem vm_34 : Cond.laysFinal "WideMachineModel" "WideMachineModel" "value" "[I" ∈ vw_T := List.mem_of_getElem? (i := 34) rfl
theorem vm_35 : Cond.laysFinal "WideMachineModel" "WideMachineModel" "when" "[I" ∈ vw_T := List.mem_of_getElem? (i := 35) rfl
theorem vm_36 : Cond.lays "WideMachineModel" "WideMachineModel" "branches" "I" ∈ vw_T := List.mem_of_getElem? (i := 36) rfl
theorem vm_37 : Cond.laysFinal "WideMachineModel" "WideMachineModel" "target" "[I" ∈ vw_T := List.mem_of_getElem? (i := 37) rfl
theorem vm_38 : Cond.laysFinal "WideMachineModel" "WideMachineModel" "goes" "[I" ∈ vw_T := List.mem_of_getElem? (i := 38) rfl
theorem vm_39 : Cond.lays "WideMachineModel" "WideMachineModel" "stores" "I" ∈ vw_T := List.mem_of_getElem? (i := 39) rfl
theorem vm_40 : Cond.laysFinal "WideMachineModel" "WideMachineModel" "where" "[I" ∈ vw_T := List.mem_of_getElem? (i := 40) rfl
theorem vm_41 : Cond.laysFinal "WideMachineModel" "WideMachineModel" "what" "[I" ∈ vw_T := List.mem_of_getElem? (i := 41) rfl
theorem vm_42 : Cond.fieldLink "WideMachine" 13 "WideMachine" "program" "[I" ∈ vw_T := List.mem_of_getElem? (i := 42) rfl
theorem vm_43 : Cond.fieldLink "WideMachine" 17 "WideMachine" "data" "[I" ∈ vw_T := List.mem_of_getElem? (i := 43) rfl
theorem vm_44 : Cond.methodLink "WideMachine" 37 y_xm_isInData ∈ vw_T := List.mem_of_getElem? (i := 44) rfl
theorem vm_45 : Cond.code y_xm_isInData b_xm_isInData 2 (some .boolean) ∈ vw_T := List.mem_of_getElem? (i := 45) rfl
theorem vm_46 : Cond.initialized "WideMachine" ∈ vw_T := List.mem_of_getElem? (i := 46) rfl
theorem vm_47 : Cond.instanceMethod y_xm_isInData ∈ vw_T := List.mem_of_getElem? (i := 47) rfl
theorem vm_48 : Cond.selects "WideMachine" y_xm_isInData y_xm_isInData ∈ vw_T := List.mem_of_getElem? (i := 48) rfl
theorem vm_49 : Cond.fieldLink "WideMachine" 20 "WideMachine" "registers" "[I" ∈ vw_T := List.mem_of_getElem? (i := 49) rfl
theorem vm_50 : Cond.fieldLink "WideMachine$Writes" 19 "WideMachine$Writes" "count" "I" ∈ vw_T := List.mem_of_getElem? (i := 50) rfl
theorem vm_51 : Cond.fieldLink "WideMachine$Writes" 16 "WideMachine$Writes" "times" "[I" ∈ vw_T := List.mem_of_getElem? (i := 51) rfl
theorem vm_52 : Cond.fieldLink "WideMachine$Writes" 9 "WideMachine$Writes" "targets" "[I" ∈ vw_T := List.mem_of_getElem? (i := 52) rfl
theorem vm_53 : Cond.fieldLink "WideMachine$Writes" 13 "WideMachine$Writes" "values" "[I" ∈ vw_T := List.mem_of_getElem? (i := 53) rfl
theorem vm_54 : Cond.fieldLink "WideMachine" 26 "WideMachine" "writes" "LWideMachine$Writes;" ∈ vw_T := List.mem_of_getElem? (i := 54) rfl
theorem vm_55 : Cond.methodLink "WideMachine" 116 y_xq_comeNearer ∈ vw_T := List.mem_of_getElem? (i := 55) rfl
theorem vm_56 : Cond.code y_xq_comeNearer b_xq_comeNearer 2 none ∈ vw_T := List.mem_of_getElem? (i := 56) rfl
theorem vm_57 : Cond.initialized "WideMachine$Writes" ∈ vw_T := List.mem_of_getElem? (i := 57) rfl
theorem vm_58 : Cond.instanceMethod y_xq_comeNearer ∈ vw_T := List.mem_of_getElem? (i := 58) rfl
theorem vm_59 : Cond.selects "WideMachine$Writes" y_xq_comeNearer y_xq_comeNearer ∈ vw_T := List.mem_of_getElem? (i := 59) rfl
theorem vm_60 : Cond.methodLink "WideMachine" 119 y_xq_clash ∈ vw_T := List.mem_of_getElem? (i := 60) rfl
theorem vm_61 : Cond.code y_xq_clash b_xq_clash 4 (some .boolean) ∈ vw_T := List.mem_of_getElem? (i := 61) rfl
theorem vm_62 : Cond.instanceMethod y_xq_clash ∈ vw_T := List.mem_of_getElem? (i := 62) rfl
theorem vm_63 : Cond.selects "WideMachine$Writes" y_xq_clash y_xq_clash ∈ vw_T := List.mem_of_getElem? (i := 63) rfl
theorem vm_64 : Cond.fieldLink "WideMachine" 41 "WideMachine" "state" "I" ∈ vw_T := List.mem_of_getElem? (i := 64) rfl
theorem vm_65 : Cond.methodLink "WideMachine" 123 y_xq_land ∈ vw_T := List.mem_of_getElem? (i := 65) rfl
theorem vm_66 : Cond.code y_xq_land b_xq_land 4 none ∈ vw_T := List.mem_of_getElem? (i := 66) rfl
theorem vm_67 : Cond.instanceMethod y_xq_land ∈ vw_T := List.mem_of_getElem? (i := 67) rfl
theorem vm_68 : Cond.selects "WideMachine$Writes" y_xq_land y_xq_land ∈ vw_T := List.mem_of_getElem? (i := 68) rfl
theorem vm_69 : Cond.fieldLink "WideMachine$Branches" 16 "WideMachine$Branches" "count" "I" ∈ vw_T := List.mem_of_getElem? (i := 69) rfl
theorem vm_70 : Cond.fieldLink "WideMachine$Branches" 13 "WideMachine$Branches" "times" "[I" ∈ vw_T := List.mem_of_getElem? (i := 70) rfl
theorem vm_71 : Cond.fieldLink "WideMachine$Branches" 9 "WideMachine$Branches" "targets" "[I" ∈ vw_T := List.mem_of_getElem? (i := 71) rfl
theorem vm_72 : Cond.fieldLink "WideMachine" 33 "WideMachine" "branches" "LWideMachine$Branches;" ∈ vw_T := List.mem_of_getElem? (i := 72) rfl
theorem vm_73 : Cond.methodLink "WideMachine" 127 y_xb_comeNearer ∈ vw_T := List.mem_of_getElem? (i := 73) rfl
theorem vm_74 : Cond.code y_xb_comeNearer b_xb_comeNearer 2 none ∈ vw_T := List.mem_of_getElem? (i := 74) rfl
theorem vm_75 : Cond.initialized "WideMachine$Branches" ∈ vw_T := List.mem_of_getElem? (i := 75) rfl
theorem vm_76 : Cond.instanceMethod y_xb_comeNearer ∈ vw_T := List.mem_of_getElem? (i := 76) rfl
theorem vm_77 : Cond.selects "WideMachine$Branches" y_xb_comeNearer y_xb_comeNearer ∈ vw_T := List.mem_of_getElem? (i := 77) rfl
theorem vm_78 : Cond.methodLink "WideMachine" 128 y_xb_arrived ∈ vw_T := List.mem_of_getElem? (i := 78) rfl
theorem vm_79 : Cond.code y_xb_arrived b_xb_arrived 2 (some .int) ∈ vw_T := List.mem_of_getElem? (i := 79) rfl
theorem vm_80 : Cond.instanceMethod y_xb_arrived ∈ vw_T := List.mem_of_getElem? (i := 80) rfl
theorem vm_81 : Cond.selects "WideMachine$Branches" y_xb_arrived y_xb_arrived ∈ vw_T := List.mem_of_getElem? (i := 81) rfl
theorem vm_82 : Cond.methodLink "WideMachine" 131 y_xb_takeFirst ∈ vw_T := List.mem_of_getElem? (i := 82) rfl
theorem vm_83 : Cond.code y_xb_takeFirst b_xb_takeFirst 3 (some .int) ∈ vw_T := List.mem_of_getElem? (i := 83) rfl
theorem vm_84 : Cond.instanceMethod y_xb_takeFirst ∈ vw_T := List.mem_of_getElem? (i := 84) rfl
theorem vm_85 : Cond.selects "WideMachine$Branches" y_xb_takeFirst y_xb_takeFirst ∈ vw_T := List.mem_of_getElem? (i := 85) rfl
theorem vm_86 : Cond.fieldLink "WideMachine" 48 "WideMachine" "address" "I" ∈ vw_T := List.mem_of_getElem? (i := 86) rfl
theorem vm_87 : Cond.fieldLink "WideMachine" 68 "WideMachine" "raisedLines" "I" ∈ vw_T := List.mem_of_getElem? (i := 87) rfl
theorem vm_88 : Cond.fieldLink "WideMachine" 64 "WideMachine" "letsIn" "Z" ∈ vw_T := List.mem_of_getElem? (i := 88) rfl
theorem vm_89 : Cond.fieldLink "WideMachine" 57 "WideMachine$Branches" "count" "I" ∈ vw_T := List.mem_of_getElem? (i := 89) rfl
theorem vm_90 : Cond.methodLink "WideMachine" 80 y_xm_isRaised ∈ vw_T := List.mem_of_getElem? (i := 90) rfl
theorem vm_91 : Cond.code y_xm_isRaised b_xm_isRaised 2 (some .boolean) ∈ vw_T := List.mem_of_getElem? (i := 91) rfl
theorem vm_92 : Cond.instanceMethod y_xm_isRaised ∈ vw_T := List.mem_of_getElem? (i := 92) rfl
theorem vm_93 : Cond.selects "WideMachine" y_xm_isRaised y_xm_isRaised ∈ vw_T := List.mem_of_getElem? (i := 93) rfl
theorem vm_94 : Cond.fieldLink "WideMachine" 61 "WideMachine" "returnAddress" "I" ∈ vw_T := List.mem_of_getElem? (i := 94) rfl
theorem vm_95 : Cond.methodLink "WideMachine" 134 y_xw_goesOn ∈ vw_T := List.mem_of_getElem? (i := 95) rfl
theorem vm_96 : Cond.code y_xw_goesOn b_xw_goesOn 1 (some .boolean) ∈ vw_T := List.mem_of_getElem? (i := 96) rfl
theorem vm_97 : Cond.initialized "WideMachine$Word" ∈ vw_T := List.mem_of_getElem? (i := 97) rfl
theorem vm_98 : Cond.static y_xw_goesOn ∈ vw_T := List.mem_of_getElem? (i := 98) rfl
theorem vm_99 : Cond.methodLink "WideMachine$Word" 9 y_xw_code ∈ vw_T := List.mem_of_getElem? (i := 99) rfl
theorem vm_100 : Cond.code y_xw_code b_xw_code 1 (some .int) ∈ vw_T := List.mem_of_getElem? (i := 100) rfl
theorem vm_101 : Cond.static y_xw_code ∈ vw_T := List.mem_of_getElem? (i := 101) rfl
theorem vm_102 : Cond.methodLink "WideMachine$Word" 18 y_xw_isOnZero ∈ vw_T := List.mem_of_getElem? (i := 102) rfl
theorem vm_103 : Cond.code y_xw_isOnZero b_xw_isOnZero 1 (some .boolean) ∈ vw_T := List.mem_of_getElem? (i := 103) rfl
theorem vm_104 : Cond.static y_xw_isOnZero ∈ vw_T := List.mem_of_getElem? (i := 104) rfl
theorem vm_105 : Cond.methodLink "WideMachine$Word" 22 y_xw_isOperation ∈ vw_T := List.mem_of_getElem? (i := 105) rfl
theorem vm_106 : Cond.code y_xw_isOperation b_xw_isOperation 1 (some .boolean) ∈ vw_T := List.mem_of_getElem? (i := 106) rfl
theorem vm_107 : Cond.static y_xw_isOperation ∈ vw_T := List.mem_of_getElem? (i := 107) rfl
theorem vm_108 : Cond.methodLink "WideMachine$Word" 25 y_xw_hasLongNumber ∈ vw_T := List.mem_of_getElem? (i := 108) rfl
theorem vm_109 : Cond.code y_xw_hasLongNumber b_xw_hasLongNumber 1 (some .boolean) ∈ vw_T := List.mem_of_getElem? (i := 109) rfl
theorem vm_110 : Cond.static y_xw_hasLongNumber ∈ vw_T := List.mem_of_getElem? (i := 110) rfl
theorem vm_111 : Cond.methodLink "WideMachine$Word" 28 y_xw_hasD ∈ vw_T := List.mem_of_getElem? (i := 111) rfl
theorem vm_112 : Cond.code y_xw_hasD b_xw_hasD 1 (some .boolean) ∈ vw_T := List.mem_of_getElem? (i := 112) rfl
theorem vm_113 : Cond.static y_xw_hasD ∈ vw_T := List.mem_of_getElem? (i := 113) rfl
theorem vm_114 : Cond.methodLink "WideMachine$Word" 31 y_xw_d ∈ vw_T := List.mem_of_getElem? (i := 114) rfl
theorem vm_115 : Cond.code y_xw_d b_xw_d 1 (some .int) ∈ vw_T := List.mem_of_getElem? (i := 115) rfl
theorem vm_116 : Cond.static y_xw_d ∈ vw_T := List.mem_of_getElem? (i := 116) rfl
theorem vm_117 : Cond.methodLink "WideMachine$Word" 34 y_xw_side ∈ vw_T := List.mem_of_getElem? (i := 117) rfl
theorem vm_118 : Cond.code y_xw_side b_xw_side 1 (some .int) ∈ vw_T := List.mem_of_getElem? (i := 118) rfl
theorem vm_119 : Cond.static y_xw_side ∈ vw_T := List.mem_of_getElem? (i := 119) rfl
theorem vm_120 : Cond.methodLink "WideMachine$Word" 37 y_xw_hasA ∈ vw_T := List.mem_of_getElem? (i := 120) rfl
theorem vm_121 : Cond.code y_xw_hasA b_xw_hasA 1 (some .boolean) ∈ vw_T := List.mem_of_getElem? (i := 121) rfl
theorem vm_122 : Cond.static y_xw_hasA ∈ vw_T := List.mem_of_getElem? (i := 122) rfl
theorem vm_123 : Cond.methodLink "WideMachine$Word" 40 y_xw_a ∈ vw_T := List.mem_of_getElem? (i := 123) rfl
theorem vm_124 : Cond.code y_xw_a b_xw_a 1 (some .int) ∈ vw_T := List.mem_of_getElem? (i := 124) rfl
theorem vm_125 : Cond.static y_xw_a ∈ vw_T := List.mem_of_getElem? (i := 125) rfl
theorem vm_126 : Cond.methodLink "WideMachine" 151 y_xw_isIllFormed ∈ vw_T := List.mem_of_getElem? (i := 126) rfl
theorem vm_127 : Cond.code y_xw_isIllFormed b_xw_isIllFormed 3 (some .boolean) ∈ vw_T := List.mem_of_getElem? (i := 127) rfl
theorem vm_128 : Cond.static y_xw_isIllFormed ∈ vw_T := List.mem_of_getElem? (i := 128) rfl
theorem vm_129 : Cond.methodLink "WideMachine" 154 y_xw_unit ∈ vw_T := List.mem_of_getElem? (i := 129) rfl
theorem vm_130 : Cond.code y_xw_unit b_xw_unit 1 (some .int) ∈ vw_T := List.mem_of_getElem? (i := 130) rfl
theorem vm_131 : Cond.static y_xw_unit ∈ vw_T := List.mem_of_getElem? (i := 131) rfl
theorem vm_132 : Cond.methodLink "WideMachine$Word" 43 y_xw_hasB ∈ vw_T := List.mem_of_getElem? (i := 132) rfl
theorem vm_133 : Cond.code y_xw_hasB b_xw_hasB 1 (some .boolean) ∈ vw_T := List.mem_of_getElem? (i := 133) rfl
theorem vm_134 : Cond.static y_xw_hasB ∈ vw_T := List.mem_of_getElem? (i := 134) rfl
theorem vm_135 : Cond.methodLink "WideMachine$Word" 46 y_xw_isNumberB ∈ vw_T := List.mem_of_getElem? (i := 135) rfl
theorem vm_136 : Cond.code y_xw_isNumberB b_xw_isNumberB 1 (some .boolean) ∈ vw_T := List.mem_of_getElem? (i := 136) rfl
theorem vm_137 : Cond.static y_xw_isNumberB ∈ vw_T := List.mem_of_getElem? (i := 137) rfl
theorem vm_138 : Cond.methodLink "WideMachine$Word" 49 y_xw_b ∈ vw_T := List.mem_of_getElem? (i := 138) rfl
theorem vm_139 : Cond.code y_xw_b b_xw_b 1 (some .int) ∈ vw_T := List.mem_of_getElem? (i := 139) rfl
theorem vm_140 : Cond.static y_xw_b ∈ vw_T := List.mem_of_getElem? (i := 140) rfl
theorem vm_141 : Cond.methodLink "WideMachine" 157 y_xw_crosses ∈ vw_T := List.mem_of_getElem? (i := 141) rfl
theorem vm_142 : Cond.code y_xw_crosses b_xw_crosses 1 (some .boolean) ∈ vw_T := List.mem_of_getElem? (i := 142) rfl
theorem vm_143 : Cond.static y_xw_crosses ∈ vw_T := List.mem_of_getElem? (i := 143) rfl
theorem vm_144 : Cond.methodLink "WideMachine" 160 y_xw_side ∈ vw_T := List.mem_of_getElem? (i := 144) rfl
theorem vm_145 : Cond.methodLink "WideMachine" 172 y_xw_conditionRegister ∈ vw_T := List.mem_of_getElem? (i := 145) rfl
theorem vm_146 : Cond.code y_xw_conditionRegister b_xw_conditionRegister 1 (some .int) ∈ vw_T := List.mem_of_getElem? (i := 146) rfl
theorem vm_147 : Cond.static y_xw_conditionRegister ∈ vw_T := List.mem_of_getElem? (i := 147) rfl
theorem vm_148 : Cond.methodLink "WideMachine" 175 y_xw_isOnZero ∈ vw_T := List.mem_of_getElem? (i := 148) rfl
theorem vm_149 : Cond.methodLink "WideMachine" 184 y_xw_isNumberB ∈ vw_T := List.mem_of_getElem? (i := 149) rfl
theorem vm_150 : Cond.methodLink "WideMachine" 187 y_xw_numberB ∈ vw_T := List.mem_of_getElem? (i := 150) rfl
theorem vm_151 : Cond.code y_xw_numberB b_xw_numberB 1 (some .int) ∈ vw_T := List.mem_of_getElem? (i := 151) rfl
theorem vm_152 : Cond.static y_xw_numberB ∈ vw_T := List.mem_of_getElem? (i := 152) rfl
theorem vm_153 : Cond.methodLink "WideMachine" 190 y_xw_b ∈ vw_T := List.mem_of_getElem? (i := 153) rfl
theorem vm_154 : Cond.methodLink "WideMachine" 178 y_xw_a ∈ vw_T := List.mem_of_getElem? (i := 154) rfl
theorem vm_155 : Cond.methodLink "WideMachine" 181 y_xm_operandB ∈ vw_T := List.mem_of_getElem? (i := 155) rfl
theorem vm_156 : Cond.code y_xm_operandB b_xm_operandB 2 (some .int) ∈ vw_T := List.mem_of_getElem? (i := 156) rfl
theorem vm_157 : Cond.instanceMethod y_xm_operandB ∈ vw_T := List.mem_of_getElem? (i := 157) rfl
theorem vm_158 : Cond.selects "WideMachine" y_xm_operandB y_xm_operandB ∈ vw_T := List.mem_of_getElem? (i := 158) rfl
theorem vm_159 : Cond.methodLink "WideMachine" 163 y_xw_code ∈ vw_T := List.mem_of_getElem? (i := 159) rfl
theorem vm_160 : Cond.methodLink "WideMachine" 166 y_xm_isConditionTrue ∈ vw_T := List.mem_of_getElem? (i := 160) rfl
theorem vm_161 : Cond.code y_xm_isConditionTrue b_xm_isConditionTrue 3 (some .boolean) ∈ vw_T := List.mem_of_getElem? (i := 161) rfl
theorem vm_162 : Cond.instanceMethod y_xm_isConditionTrue ∈ vw_T := List.mem_of_getElem? (i := 162) rfl
theorem vm_163 : Cond.selects "WideMachine" y_xm_isConditionTrue y_xm_isConditionTrue ∈ vw_T := List.mem_of_getElem? (i := 163) rfl
theorem vm_164 : Cond.methodLink "WideMachine" 169 y_xm_dataAddress ∈ vw_T := List.mem_of_getElem? (i := 164) rfl
theorem vm_165 : Cond.code y_xm_dataAddress b_xm_dataAddress 2 (some .int) ∈ vw_T := List.mem_of_getElem? (i := 165) rfl
theorem vm_166 : Cond.instanceMethod y_xm_dataAddress ∈ vw_T := List.mem_of_getElem? (i := 166) rfl
theorem vm_167 : Cond.selects "WideMachine" y_xm_dataAddress y_xm_dataAddress ∈ vw_T := List.mem_of_getElem? (i := 167) rfl
theorem vm_168 : Cond.methodLink "WideMachine" 139 y_xm_hasIllFormed ∈ vw_T := List.mem_of_getElem? (i := 168) rfl
theorem vm_169 : Cond.code y_xm_hasIllFormed b_xm_hasIllFormed 3 (some .boolean) ∈ vw_T := List.mem_of_getElem? (i := 169) rfl
theorem vm_170 : Cond.instanceMethod y_xm_hasIllFormed ∈ vw_T := List.mem_of_getElem? (i := 170) rfl
theorem vm_171 : Cond.selects "WideMachine" y_xm_hasIllFormed y_xm_hasIllFormed ∈ vw_T := List.mem_of_getElem? (i := 171) rfl
theorem vm_172 : Cond.methodLink "WideMachine" 142 y_xm_hasUnitTwice ∈ vw_T := List.mem_of_getElem? (i := 172) rfl
theorem vm_173 : Cond.code y_xm_hasUnitTwice b_xm_hasUnitTwice 5 (some .boolean) ∈ vw_T := List.mem_of_getElem? (i := 173) rfl
theorem vm_174 : Cond.instanceMethod y_xm_hasUnitTwice ∈ vw_T := List.mem_of_getElem? (i := 174) rfl
theorem vm_175 : Cond.selects "WideMachine" y_xm_hasUnitTwice y_xm_hasUnitTwice ∈ vw_T := List.mem_of_getElem? (i := 175) rfl
theorem vm_176 : Cond.methodLink "WideMachine" 145 y_xm_hasCrossedTwice ∈ vw_T := List.mem_of_getElem? (i := 176) rfl
theorem vm_177 : Cond.code y_xm_hasCrossedTwice b_xm_hasCrossedTwice 5 (some .boolean) ∈ vw_T := List.mem_of_getElem? (i := 177) rfl
theorem vm_178 : Cond.instanceMethod y_xm_hasCrossedTwice ∈ vw_T := List.mem_of_getElem? (i := 178) rfl
theorem vm_179 : Cond.selects "WideMachine" y_xm_hasCrossedTwice y_xm_hasCrossedTwice ∈ vw_T := List.mem_of_getElem? (i := 179) rfl
theorem vm_180 : Cond.methodLink "WideMachine" 148 y_xm_goesBeyondData ∈ vw_T := List.mem_of_getElem? (i := 180) rfl
theorem vm_181 : Cond.code y_xm_goesBeyondData b_xm_goesBeyondData 6 (some .boolean) ∈ vw_T := List.mem_of_getElem? (i := 181) rfl
theorem vm_182 : Cond.instanceMethod y_xm_goesBeyondData ∈ vw_T := List.mem_of_getElem? (i := 182) rfl
theorem vm_183 : Cond.selects "WideMachine" y_xm_goesBeyondData y_xm_goesBeyondData ∈ vw_T := List.mem_of_getElem? (i := 183) rfl
theorem vm_184 : Cond.constantLong "WideMachine$Values" 20 2147483647 ∈ vw_T := List.mem_of_getElem? (i := 184) rfl
theorem vm_185 : Cond.constant "WideMachine$Values" 22 2147483647 ∈ vw_T := List.mem_of_getElem? (i := 185) rfl
theorem vm_186 : Cond.constantLong "WideMachine$Values" 23 (-2147483648) ∈ vw_T := List.mem_of_getElem? (i := 186) rfl
theorem vm_187 : Cond.constant "WideMachine$Values" 25 (-2147483648) ∈ vw_T := List.mem_of_getElem? (i := 187) rfl
theorem vm_188 : Cond.methodLink "WideMachine$Values" 7 y_xv_nearestInt ∈ vw_T := List.mem_of_getElem? (i := 188) rfl
theorem vm_189 : Cond.code y_xv_nearestInt b_xv_nearestInt 2 (some .int) ∈ vw_T := List.mem_of_getElem? (i := 189) rfl
theorem vm_190 : Cond.initialized "WideMachine$Values" ∈ vw_T := List.mem_of_getElem? (i := 190) rfl
theorem vm_191 : Cond.static y_xv_nearestInt ∈ vw_T := List.mem_of_getElem? (i := 191) rfl
theorem vm_192 : Cond.methodLink "WideMachine$Values" 13 y_xv_bitsLikeHighest ∈ vw_T := List.mem_of_getElem? (i := 192) rfl
theorem vm_193 : Cond.code y_xv_bitsLikeHighest b_xv_bitsLikeHighest 4 (some .int) ∈ vw_T := List.mem_of_getElem? (i := 193) rfl
theorem vm_194 : Cond.static y_xv_bitsLikeHighest ∈ vw_T := List.mem_of_getElem? (i := 194) rfl
theorem vm_195 : Cond.constant "WideMachine$Values" 17 65535 ∈ vw_T := List.mem_of_getElem? (i := 195) rfl
theorem vm_196 : Cond.constantLong "WideMachine$Values" 18 2 ∈ vw_T := List.mem_of_getElem? (i := 196) rfl
theorem vm_197 : Cond.methodLink "WideMachine" 217 y_xw_number ∈ vw_T := List.mem_of_getElem? (i := 197) rfl
theorem vm_198 : Cond.code y_xw_number b_xw_number 1 (some .int) ∈ vw_T := List.mem_of_getElem? (i := 198) rfl
theorem vm_199 : Cond.static y_xw_number ∈ vw_T := List.mem_of_getElem? (i := 199) rfl
theorem vm_200 : Cond.constant "WideMachine" 220 65536 ∈ vw_T := List.mem_of_getElem? (i := 200) rfl
theorem vm_201 : Cond.methodLink "WideMachine" 205 y_xw_d ∈ vw_T := List.mem_of_getElem? (i := 201) rfl
theorem vm_202 : Cond.constant "WideMachine" 221 65535 ∈ vw_T := List.mem_of_getElem? (i := 202) rfl
theorem vm_203 : Cond.methodLink "WideMachine" 222 y_xm_peek ∈ vw_T := List.mem_of_getElem? (i := 203) rfl
theorem vm_204 : Cond.code y_xm_peek b_xm_peek 2 (some .int) ∈ vw_T := List.mem_of_getElem? (i := 204) rfl
theorem vm_205 : Cond.instanceMethod y_xm_peek ∈ vw_T := List.mem_of_getElem? (i := 205) rfl
theorem vm_206 : Cond.selects "WideMachine" y_xm_peek y_xm_peek ∈ vw_T := List.mem_of_getElem? (i := 206) rfl
theorem vm_207 : Cond.methodLink "WideMachine" 225 y_xw_kind ∈ vw_T := List.mem_of_getElem? (i := 207) rfl
theorem vm_208 : Cond.code y_xw_kind b_xw_kind 1 (some .int) ∈ vw_T := List.mem_of_getElem? (i := 208) rfl
theorem vm_209 : Cond.static y_xw_kind ∈ vw_T := List.mem_of_getElem? (i := 209) rfl
theorem vm_210 : Cond.methodLink "WideMachine" 228 y_xv_ofL ∈ vw_T := List.mem_of_getElem? (i := 210) rfl
theorem vm_211 : Cond.code y_xv_ofL b_xv_ofL 3 (some .int) ∈ vw_T := List.mem_of_getElem? (i := 211) rfl
theorem vm_212 : Cond.static y_xv_ofL ∈ vw_T := List.mem_of_getElem? (i := 212) rfl
theorem vm_213 : Cond.methodLink "WideMachine" 234 y_xv_ofS ∈ vw_T := List.mem_of_getElem? (i := 213) rfl
theorem vm_214 : Cond.code y_xv_ofS b_xv_ofS 3 (some .int) ∈ vw_T := List.mem_of_getElem? (i := 214) rfl
theorem vm_215 : Cond.static y_xv_ofS ∈ vw_T := List.mem_of_getElem? (i := 215) rfl
theorem vm_216 : Cond.methodLink "WideMachine" 237 y_xv_ofM ∈ vw_T := List.mem_of_getElem? (i := 216) rfl
theorem vm_217 : Cond.code y_xv_ofM b_xv_ofM 3 (some .int) ∈ vw_T := List.mem_of_getElem? (i := 217) rfl
theorem vm_218 : Cond.static y_xv_ofM ∈ vw_T := List.mem_of_getElem? (i := 218) rfl
theorem vm_219 : Cond.methodLink "WideMachine" 240 y_xv_ofD ∈ vw_T := List.mem_of_getElem? (i := 219) rfl
theorem vm_220 : Cond.code y_xv_ofD b_xv_ofD 3 (some .int) ∈ vw_T := List.mem_of_getElem? (i := 220) rfl
theorem vm_221 : Cond.static y_xv_ofD ∈ vw_T := List.mem_of_getElem? (i := 221) rfl
theorem vm_222 : Cond.methodLink "WideMachine$Word" 15 y_xw_kind ∈ vw_T := List.mem_of_getElem? (i := 222) rfl
theorem vm_223 : Cond.methodLink "WideMachine" 199 y_xw_target ∈ vw_T := List.mem_of_getElem? (i := 223) rfl
theorem vm_224 : Cond.code y_xw_target b_xw_target 1 (some .int) ∈ vw_T := List.mem_of_getElem? (i := 224) rfl
theorem vm_225 : Cond.static y_xw_target ∈ vw_T := List.mem_of_getElem? (i := 225) rfl
theorem vm_226 : Cond.methodLink "WideMachine" 202 y_xb_add ∈ vw_T := List.mem_of_getElem? (i := 226) rfl
theorem vm_227 : Cond.code y_xb_add b_xb_add 2 none ∈ vw_T := List.mem_of_getElem? (i := 227) rfl
theorem vm_228 : Cond.instanceMethod y_xb_add ∈ vw_T := List.mem_of_getElem? (i := 228) rfl
theorem vm_229 : Cond.selects "WideMachine$Branches" y_xb_add y_xb_add ∈ vw_T := List.mem_of_getElem? (i := 229) rfl
theorem vm_230 : Cond.fieldLink "WideMachine" 58 "WideMachine" "waits" "I" ∈ vw_T := List.mem_of_getElem? (i := 230) rfl
theorem vm_231 : Cond.methodLink "WideMachine" 93 Lib.Math.max.name ∈ vw_T := List.mem_of_getElem? (i := 231) rfl
theorem vm_232 : Cond.static Lib.Math.max.name ∈ vw_T := List.mem_of_getElem? (i := 232) rfl
theorem vm_233 : Cond.initialized "java/lang/Math" ∈ vw_T := List.mem_of_getElem? (i := 233) rfl
theorem vm_234 : Cond.code Lib.Math.max.name Lib.Math.max.code 2 (some .int) ∈ vw_T := List.mem_of_getElem? (i := 234) rfl
theorem vm_235 : Cond.methodLink "WideMachine" 208 y_xm_valueOf ∈ vw_T := List.mem_of_getElem? (i := 235) rfl
theorem vm_236 : Cond.code y_xm_valueOf b_xm_valueOf 5 (some .int) ∈ vw_T := List.mem_of_getElem? (i := 236) rfl
theorem vm_237 : Cond.instanceMethod y_xm_valueOf ∈ vw_T := List.mem_of_getElem? (i := 237) rfl
theorem vm_238 : Cond.selects "WideMachine" y_xm_valueOf y_xm_valueOf ∈ vw_T := List.mem_of_getElem? (i := 238) rfl
theorem vm_239 : Cond.methodLink "WideMachine" 211 y_xw_timeOfWrite ∈ vw_T := List.mem_of_getElem? (i := 239) rfl
theorem vm_240 : Cond.code y_xw_timeOfWrite b_xw_timeOfWrite 1 (some .int) ∈ vw_T := List.mem_of_getElem? (i := 240) rfl
theorem vm_241 : Cond.static y_xw_timeOfWrite ∈ vw_T := List.mem_of_getElem? (i := 241) rfl
theorem vm_242 : Cond.methodLink "WideMachine" 214 y_xq_add ∈ vw_T := List.mem_of_getElem? (i := 242) rfl
theorem vm_243 : Cond.code y_xq_add b_xq_add 4 none ∈ vw_T := List.mem_of_getElem? (i := 243) rfl
theorem vm_244 : Cond.instanceMethod y_xq_add ∈ vw_T := List.mem_of_getElem? (i := 244) rfl
theorem vm_245 : Cond.selects "WideMachine$Writes" y_xq_add y_xq_add ∈ vw_T := List.mem_of_getElem? (i := 245) rfl
theorem vm_246 : Cond.methodLink "WideMachine" 243 y_xm_poke ∈ vw_T := List.mem_of_getElem? (i := 246) rfl
theorem vm_247 : Cond.code y_xm_poke b_xm_poke 3 (some .boolean) ∈ vw_T := List.mem_of_getElem? (i := 247) rfl
theorem vm_248 : Cond.instanceMethod y_xm_poke ∈ vw_T := List.mem_of_getElem? (i := 248) rfl
theorem vm_249 : Cond.selects "WideMachine" y_xm_poke y_xm_poke ∈ vw_T := List.mem_of_getElem? (i := 249) rfl
theorem vm_250 : Cond.methodLink "WideMachine" 193 y_xm_doWord ∈ vw_T := List.mem_of_getElem? (i := 250) rfl
theorem vm_251 : Cond.code y_xm_doWord b_xm_doWord 2 none ∈ vw_T := List.mem_of_getElem? (i := 251) rfl
theorem vm_252 : Cond.instanceMethod y_xm_doWord ∈ vw_T := List.mem_of_getElem? (i := 252) rfl
theorem vm_253 : Cond.selects "WideMachine" y_xm_doWord y_xm_doWord ∈ vw_T := List.mem_of_getElem? (i := 253) rfl
theorem vm_254 : Cond.methodLink "WideMachine" 196 y_xm_doStores ∈ vw_T := List.mem_of_getElem? (i := 254) rfl
theorem vm_255 : Cond.code y_xm_doStores b_xm_doStores 4 none ∈ vw_T := List.mem_of_getElem? (i := 255) rfl
theorem vm_256 : Cond.instanceMethod y_xm_doStores ∈ vw_T := List.mem_of_getElem? (i := 256) rfl
theorem vm_257 : Cond.selects "WideMachine" y_xm_doStores y_xm_doStores ∈ vw_T := List.mem_of_getElem? (i := 257) rfl
theorem vm_258 : Cond.fieldLink "WideMachine" 51 "WideMachine" "cycles" "I" ∈ vw_T := List.mem_of_getElem? (i := 258) rfl
theorem vm_259 : Cond.methodLink "WideMachine" 96 y_xm_landWrites ∈ vw_T := List.mem_of_getElem? (i := 259) rfl
theorem vm_260 : Cond.code y_xm_landWrites b_xm_landWrites 1 none ∈ vw_T := List.mem_of_getElem? (i := 260) rfl
theorem vm_261 : Cond.instanceMethod y_xm_landWrites ∈ vw_T := List.mem_of_getElem? (i := 261) rfl
theorem vm_262 : Cond.selects "WideMachine" y_xm_landWrites y_xm_landWrites ∈ vw_T := List.mem_of_getElem? (i := 262) rfl
theorem vm_263 : Cond.methodLink "WideMachine" 99 y_xm_takeBranch ∈ vw_T := List.mem_of_getElem? (i := 263) rfl
theorem vm_264 : Cond.code y_xm_takeBranch b_xm_takeBranch 2 none ∈ vw_T := List.mem_of_getElem? (i := 264) rfl
theorem vm_265 : Cond.instanceMethod y_xm_takeBranch ∈ vw_T := List.mem_of_getElem? (i := 265) rfl
theorem vm_266 : Cond.selects "WideMachine" y_xm_takeBranch y_xm_takeBranch ∈ vw_T := List.mem_of_getElem? (i := 266) rfl
theorem vm_267 : Cond.methodLink "WideMachine" 102 y_xm_takeInterrupt ∈ vw_T := List.mem_of_getElem? (i := 267) rfl
theorem vm_268 : Cond.code y_xm_takeInterrupt b_xm_takeInterrupt 2 none ∈ vw_T := List.mem_of_getElem? (i := 268) rfl
theorem vm_269 : Cond.instanceMethod y_xm_takeInterrupt ∈ vw_T := List.mem_of_getElem? (i := 269) rfl
theorem vm_270 : Cond.selects "WideMachine" y_xm_takeInterrupt y_xm_takeInterrupt ∈ vw_T := List.mem_of_getElem? (i := 270) rfl
theorem vm_271 : Cond.methodLink "WideMachine" 105 y_xm_endOfPacket ∈ vw_T := List.mem_of_getElem? (i := 271) rfl
theorem vm_272 : Cond.code y_xm_endOfPacket b_xm_endOfPacket 3 (some .int) ∈ vw_T := List.mem_of_getElem? (i := 272) rfl
theorem vm_273 : Cond.instanceMethod y_xm_endOfPacket ∈ vw_T := List.mem_of_getElem? (i := 273) rfl
theorem vm_274 : Cond.selects "WideMachine" y_xm_endOfPacket y_xm_endOfPacket ∈ vw_T := List.mem_of_getElem? (i := 274) rfl
theorem vm_275 : Cond.methodLink "WideMachine" 109 y_xm_faultOfPacket ∈ vw_T := List.mem_of_getElem? (i := 275) rfl
theorem vm_276 : Cond.code y_xm_faultOfPacket b_xm_faultOfPacket 3 (some .int) ∈ vw_T := List.mem_of_getElem? (i := 276) rfl
theorem vm_277 : Cond.instanceMethod y_xm_faultOfPacket ∈ vw_T := List.mem_of_getElem? (i := 277) rfl
theorem vm_278 : Cond.selects "WideMachine" y_xm_faultOfPacket y_xm_faultOfPacket ∈ vw_T := List.mem_of_getElem? (i := 278) rfl
theorem vm_279 : Cond.methodLink "WideMachine" 112 y_xm_doPacket ∈ vw_T := List.mem_of_getElem? (i := 279) rfl
theorem vm_280 : Cond.code y_xm_doPacket b_xm_doPacket 3 none ∈ vw_T := List.mem_of_getElem? (i := 280) rfl
theorem vm_281 : Cond.instanceMethod y_xm_doPacket ∈ vw_T := List.mem_of_getElem? (i := 281) rfl
theorem vm_282 : Cond.selects "WideMachine" y_xm_doPacket y_xm_doPacket ∈ vw_T := List.mem_of_getElem? (i := 282) rfl
theorem vm_283 : Cond.methodLink "WideMachine" 45 y_xm_doCycle ∈ vw_T := List.mem_of_getElem? (i := 283) rfl
theorem vm_284 : Cond.code y_xm_doCycle b_xm_doCycle 2 none ∈ vw_T := List.mem_of_getElem? (i := 284) rfl
theorem vm_285 : Cond.instanceMethod y_xm_doCycle ∈ vw_T := List.mem_of_getElem? (i := 285) rfl
theorem vm_286 : Cond.selects "WideMachine" y_xm_doCycle y_xm_doCycle ∈ vw_T := List.mem_of_getElem? (i := 286) rfl
theorem vm_287 : Cond.fieldLink "WideMachine" 54 "WideMachine$Writes" "count" "I" ∈ vw_T := List.mem_of_getElem? (i := 287) rfl
theorem vm_288 : Cond.fieldLink "WideMachine" 71 "WideMachine$Writes" "targets" "[I" ∈ vw_T := List.mem_of_getElem? (i := 288) rfl
theorem vm_289 : Cond.fieldLink "WideMachine" 74 "WideMachine$Writes" "values" "[I" ∈ vw_T := List.mem_of_getElem? (i := 289) rfl
theorem vm_290 : Cond.fieldLink "WideMachine" 77 "WideMachine$Writes" "times" "[I" ∈ vw_T := List.mem_of_getElem? (i := 290) rfl
theorem vm_291 : Cond.methodLink "WideMachine" 83 y_xq_clear ∈ vw_T := List.mem_of_getElem? (i := 291) rfl
theorem vm_292 : Cond.code y_xq_clear b_xq_clear 1 none ∈ vw_T := List.mem_of_getElem? (i := 292) rfl
theorem vm_293 : Cond.instanceMethod y_xq_clear ∈ vw_T := List.mem_of_getElem? (i := 293) rfl
theorem vm_294 : Cond.selects "WideMachine$Writes" y_xq_clear y_xq_clear ∈ vw_T := List.mem_of_getElem? (i := 294) rfl
theorem vm_295 : Cond.methodLink "WideMachine" 86 y_xb_clear ∈ vw_T := List.mem_of_getElem? (i := 295) rfl
theorem vm_296 : Cond.code y_xb_clear b_xb_clear 1 none ∈ vw_T := List.mem_of_getElem? (i := 296) rfl
theorem vm_297 : Cond.instanceMethod y_xb_clear ∈ vw_T := List.mem_of_getElem? (i := 297) rfl
theorem vm_298 : Cond.selects "WideMachine$Branches" y_xb_clear y_xb_clear ∈ vw_T := List.mem_of_getElem? (i := 298) rfl
theorem vm_299 : Cond.methodLink "WideMachine" 87 Lib.Math.min.name ∈ vw_T := List.mem_of_getElem? (i := 299) rfl
theorem vm_300 : Cond.static Lib.Math.min.name ∈ vw_T := List.mem_of_getElem? (i := 300) rfl
theorem vm_301 : Cond.code Lib.Math.min.name Lib.Math.min.code 2 (some .int) ∈ vw_T := List.mem_of_getElem? (i := 301) rfl
theorem vm_302 : Cond.fieldLink "WideMachineModel" 47 "WideMachineModel" "thrown" "I" ∈ vw_T := List.mem_of_getElem? (i := 302) rfl
theorem vm_303 : Cond.fieldLink "WideMachineModel" 40 "WideMachineModel" "words" "I" ∈ vw_T := List.mem_of_getElem? (i := 303) rfl
theorem vm_304 : Cond.fieldLink "WideMachineModel" 7 "WideMachineModel" "program" "[I" ∈ vw_T := List.mem_of_getElem? (i := 304) rfl
theorem vm_305 : Cond.fieldLink "WideMachineModel" 44 "WideMachineModel" "size" "I" ∈ vw_T := List.mem_of_getElem? (i := 305) rfl
theorem vm_306 : Cond.fieldLink "WideMachineModel" 13 "WideMachineModel" "data" "[I" ∈ vw_T := List.mem_of_getElem? (i := 306) rfl
theorem vm_307 : Cond.fieldLink "WideMachineModel" 16 "WideMachineModel" "registers" "[I" ∈ vw_T := List.mem_of_getElem? (i := 307) rfl
theorem vm_308 : Cond.fieldLink "WideMachineModel" 50 "WideMachineModel" "state" "I" ∈ vw_T := List.mem_of_getElem? (i := 308) rfl
theorem vm_309 : Cond.fieldLink "WideMachineModel" 53 "WideMachineModel" "address" "I" ∈ vw_T := List.mem_of_getElem? (i := 309) rfl
theorem vm_310 : Cond.fieldLink "WideMachineModel" 56 "WideMachineModel" "cycles" "I" ∈ vw_T := List.mem_of_getElem? (i := 310) rfl
theorem vm_311 : Cond.fieldLink "WideMachineModel" 59 "WideMachineModel" "writes" "I" ∈ vw_T := List.mem_of_getElem? (i := 311) rfl
theorem vm_312 : Cond.fieldLink "WideMachineModel" 62 "WideMachineModel" "branches" "I" ∈ vw_T := List.mem_of_getElem? (i := 312) rfl
theorem vm_313 : Cond.fieldLink "WideMachineModel" 65 "WideMachineModel" "wait" "I" ∈ vw_T := List.mem_of_getElem? (i := 313) rfl
theorem vm_314 : Cond.fieldLink "WideMachineModel" 68 "WideMachineModel" "back" "I" ∈ vw_T := List.mem_of_getElem? (i := 314) rfl
theorem vm_315 : Cond.fieldLink "WideMachineModel" 71 "WideMachineModel" "letIn" "Z" ∈ vw_T := List.mem_of_getElem? (i := 315) rfl
theorem vm_316 : Cond.fieldLink "WideMachineModel" 75 "WideMachineModel" "raised" "I" ∈ vw_T := List.mem_of_getElem? (i := 316) rfl
theorem vm_317 : Cond.fieldLink "WideMachineModel" 19 "WideMachineModel" "register" "[I" ∈ vw_T := List.mem_of_getElem? (i := 317) rfl
theorem vm_318 : Cond.fieldLink "WideMachineModel" 22 "WideMachineModel" "value" "[I" ∈ vw_T := List.mem_of_getElem? (i := 318) rfl
theorem vm_319 : Cond.fieldLink "WideMachineModel" 25 "WideMachineModel" "when" "[I" ∈ vw_T := List.mem_of_getElem? (i := 319) rfl
theorem vm_320 : Cond.fieldLink "WideMachineModel" 31 "WideMachineModel" "goes" "[I" ∈ vw_T := List.mem_of_getElem? (i := 320) rfl
theorem vm_321 : Cond.fieldLink "WideMachineModel" 28 "WideMachineModel" "target" "[I" ∈ vw_T := List.mem_of_getElem? (i := 321) rfl
theorem vm_322 : Cond.methodLink "WideMachineModel" 81 y_mm_kind ∈ vw_T := List.mem_of_getElem? (i := 322) rfl
theorem vm_323 : Cond.code y_mm_kind b_mm_kind 1 (some .int) ∈ vw_T := List.mem_of_getElem? (i := 323) rfl
theorem vm_324 : Cond.initialized "WideMachineModel" ∈ vw_T := List.mem_of_getElem? (i := 324) rfl
theorem vm_325 : Cond.static y_mm_kind ∈ vw_T := List.mem_of_getElem? (i := 325) rfl
theorem vm_326 : Cond.methodLink "WideMachineModel" 85 y_mm_operation ∈ vw_T := List.mem_of_getElem? (i := 326) rfl
theorem vm_327 : Cond.code y_mm_operation b_mm_operation 1 (some .int) ∈ vw_T := List.mem_of_getElem? (i := 327) rfl
theorem vm_328 : Cond.static y_mm_operation ∈ vw_T := List.mem_of_getElem? (i := 328) rfl
theorem vm_329 : Cond.methodLink "WideMachineModel" 88 y_mm_isS ∈ vw_T := List.mem_of_getElem? (i := 329) rfl
theorem vm_330 : Cond.code y_mm_isS b_mm_isS 3 (some .boolean) ∈ vw_T := List.mem_of_getElem? (i := 330) rfl
theorem vm_331 : Cond.static y_mm_isS ∈ vw_T := List.mem_of_getElem? (i := 331) rfl
theorem vm_332 : Cond.methodLink "WideMachineModel" 92 y_mm_unit ∈ vw_T := List.mem_of_getElem? (i := 332) rfl
theorem vm_333 : Cond.code y_mm_unit b_mm_unit 1 (some .int) ∈ vw_T := List.mem_of_getElem? (i := 333) rfl
theorem vm_334 : Cond.static y_mm_unit ∈ vw_T := List.mem_of_getElem? (i := 334) rfl
theorem vm_335 : Cond.methodLink "WideMachineModel" 95 y_mm_condition ∈ vw_T := List.mem_of_getElem? (i := 335) rfl
theorem vm_336 : Cond.code y_mm_condition b_mm_condition 1 (some .int) ∈ vw_T := List.mem_of_getElem? (i := 336) rfl
theorem vm_337 : Cond.static y_mm_condition ∈ vw_T := List.mem_of_getElem? (i := 337) rfl
theorem vm_338 : Cond.methodLink "WideMachineModel" 98 y_mm_hasD ∈ vw_T := List.mem_of_getElem? (i := 338) rfl
theorem vm_339 : Cond.code y_mm_hasD b_mm_hasD 1 (some .boolean) ∈ vw_T := List.mem_of_getElem? (i := 339) rfl
theorem vm_340 : Cond.static y_mm_hasD ∈ vw_T := List.mem_of_getElem? (i := 340) rfl
theorem vm_341 : Cond.methodLink "WideMachineModel" 102 y_mm_d ∈ vw_T := List.mem_of_getElem? (i := 341) rfl
theorem vm_342 : Cond.code y_mm_d b_mm_d 1 (some .int) ∈ vw_T := List.mem_of_getElem? (i := 342) rfl
theorem vm_343 : Cond.static y_mm_d ∈ vw_T := List.mem_of_getElem? (i := 343) rfl
theorem vm_344 : Cond.methodLink "WideMachineModel" 105 y_mm_isOther ∈ vw_T := List.mem_of_getElem? (i := 344) rfl
theorem vm_345 : Cond.code y_mm_isOther b_mm_isOther 2 (some .boolean) ∈ vw_T := List.mem_of_getElem? (i := 345) rfl
theorem vm_346 : Cond.static y_mm_isOther ∈ vw_T := List.mem_of_getElem? (i := 346) rfl
theorem vm_347 : Cond.methodLink "WideMachineModel" 109 y_mm_hasA ∈ vw_T := List.mem_of_getElem? (i := 347) rfl
theorem vm_348 : Cond.code y_mm_hasA b_mm_hasA 1 (some .boolean) ∈ vw_T := List.mem_of_getElem? (i := 348) rfl
theorem vm_349 : Cond.static y_mm_hasA ∈ vw_T := List.mem_of_getElem? (i := 349) rfl
theorem vm_350 : Cond.methodLink "WideMachineModel" 112 y_mm_a ∈ vw_T := List.mem_of_getElem? (i := 350) rfl
theorem vm_351 : Cond.code y_mm_a b_mm_a 1 (some .int) ∈ vw_T := List.mem_of_getElem? (i := 351) rfl
theorem vm_352 : Cond.static y_mm_a ∈ vw_T := List.mem_of_getElem? (i := 352) rfl
theorem vm_353 : Cond.methodLink "WideMachineModel" 138 y_mm_isNumber ∈ vw_T := List.mem_of_getElem? (i := 353) rfl
theorem vm_354 : Cond.code y_mm_isNumber b_mm_isNumber 1 (some .boolean) ∈ vw_T := List.mem_of_getElem? (i := 354) rfl
theorem vm_355 : Cond.static y_mm_isNumber ∈ vw_T := List.mem_of_getElem? (i := 355) rfl
theorem vm_356 : Cond.methodLink "WideMachineModel" 141 y_mm_b ∈ vw_T := List.mem_of_getElem? (i := 356) rfl
theorem vm_357 : Cond.code y_mm_b b_mm_b 1 (some .int) ∈ vw_T := List.mem_of_getElem? (i := 357) rfl
theorem vm_358 : Cond.static y_mm_b ∈ vw_T := List.mem_of_getElem? (i := 358) rfl
theorem vm_359 : Cond.methodLink "WideMachineModel" 166 y_mm_second ∈ vw_T := List.mem_of_getElem? (i := 359) rfl
theorem vm_360 : Cond.code y_mm_second b_mm_second 2 (some .int) ∈ vw_T := List.mem_of_getElem? (i := 360) rfl
theorem vm_361 : Cond.instanceMethod y_mm_second ∈ vw_T := List.mem_of_getElem? (i := 361) rfl
theorem vm_362 : Cond.selects "WideMachineModel" y_mm_second y_mm_second ∈ vw_T := List.mem_of_getElem? (i := 362) rfl
theorem vm_363 : Cond.methodLink "WideMachineModel" 132 y_mm_isIll ∈ vw_T := List.mem_of_getElem? (i := 363) rfl
theorem vm_364 : Cond.code y_mm_isIll b_mm_isIll 4 (some .boolean) ∈ vw_T := List.mem_of_getElem? (i := 364) rfl
theorem vm_365 : Cond.static y_mm_isIll ∈ vw_T := List.mem_of_getElem? (i := 365) rfl
theorem vm_366 : Cond.methodLink "WideMachineModel" 135 y_mm_hasB ∈ vw_T := List.mem_of_getElem? (i := 366) rfl
theorem vm_367 : Cond.code y_mm_hasB b_mm_hasB 1 (some .boolean) ∈ vw_T := List.mem_of_getElem? (i := 367) rfl
theorem vm_368 : Cond.static y_mm_hasB ∈ vw_T := List.mem_of_getElem? (i := 368) rfl
theorem vm_369 : Cond.methodLink "WideMachineModel" 144 y_mm_isDone ∈ vw_T := List.mem_of_getElem? (i := 369) rfl
theorem vm_370 : Cond.code y_mm_isDone b_mm_isDone 4 (some .boolean) ∈ vw_T := List.mem_of_getElem? (i := 370) rfl
theorem vm_371 : Cond.instanceMethod y_mm_isDone ∈ vw_T := List.mem_of_getElem? (i := 371) rfl
theorem vm_372 : Cond.selects "WideMachineModel" y_mm_isDone y_mm_isDone ∈ vw_T := List.mem_of_getElem? (i := 372) rfl
theorem vm_373 : Cond.methodLink "WideMachineModel" 147 y_mm_reaches ∈ vw_T := List.mem_of_getElem? (i := 373) rfl
theorem vm_374 : Cond.code y_mm_reaches b_mm_reaches 3 (some .boolean) ∈ vw_T := List.mem_of_getElem? (i := 374) rfl
theorem vm_375 : Cond.instanceMethod y_mm_reaches ∈ vw_T := List.mem_of_getElem? (i := 375) rfl
theorem vm_376 : Cond.selects "WideMachineModel" y_mm_reaches y_mm_reaches ∈ vw_T := List.mem_of_getElem? (i := 376) rfl
theorem vm_377 : Cond.methodLink "WideMachineModel" 162 y_mm_write ∈ vw_T := List.mem_of_getElem? (i := 377) rfl
theorem vm_378 : Cond.code y_mm_write b_mm_write 4 none ∈ vw_T := List.mem_of_getElem? (i := 378) rfl
theorem vm_379 : Cond.instanceMethod y_mm_write ∈ vw_T := List.mem_of_getElem? (i := 379) rfl
theorem vm_380 : Cond.selects "WideMachineModel" y_mm_write y_mm_write ∈ vw_T := List.mem_of_getElem? (i := 380) rfl
theorem vm_381 : Cond.fieldLink "WideMachineModel" 34 "WideMachineModel" "where" "[I" ∈ vw_T := List.mem_of_getElem? (i := 381) rfl
theorem vm_382 : Cond.fieldLink "WideMachineModel" 150 "WideMachineModel" "stores" "I" ∈ vw_T := List.mem_of_getElem? (i := 382) rfl
theorem vm_383 : Cond.fieldLink "WideMachineModel" 37 "WideMachineModel" "what" "[I" ∈ vw_T := List.mem_of_getElem? (i := 383) rfl
theorem vm_384 : Cond.constantLong "WideMachineModel" 179 2147483647 ∈ vw_T := List.mem_of_getElem? (i := 384) rfl
theorem vm_385 : Cond.constant "WideMachineModel" 181 2147483647 ∈ vw_T := List.mem_of_getElem? (i := 385) rfl
theorem vm_386 : Cond.constantLong "WideMachineModel" 182 (-2147483648) ∈ vw_T := List.mem_of_getElem? (i := 386) rfl
theorem vm_387 : Cond.constant "WideMachineModel" 184 (-2147483648) ∈ vw_T := List.mem_of_getElem? (i := 387) rfl
theorem vm_388 : Cond.constant "WideMachineModel" 185 65535 ∈ vw_T := List.mem_of_getElem? (i := 388) rfl
theorem vm_389 : Cond.constant "WideMachineModel" 186 1073741824 ∈ vw_T := List.mem_of_getElem? (i := 389) rfl
theorem vm_390 : Cond.methodLink "WideMachineModel" 169 y_mm_logic ∈ vw_T := List.mem_of_getElem? (i := 390) rfl
theorem vm_391 : Cond.code y_mm_logic b_mm_logic 5 (some .int) ∈ vw_T := List.mem_of_getElem? (i := 391) rfl
theorem vm_392 : Cond.static y_mm_logic ∈ vw_T := List.mem_of_getElem? (i := 392) rfl
theorem vm_393 : Cond.methodLink "WideMachineModel" 173 y_mm_shift ∈ vw_T := List.mem_of_getElem? (i := 393) rfl
theorem vm_394 : Cond.code y_mm_shift b_mm_shift 5 (some .int) ∈ vw_T := List.mem_of_getElem? (i := 394) rfl
theorem vm_395 : Cond.instanceMethod y_mm_shift ∈ vw_T := List.mem_of_getElem? (i := 395) rfl
theorem vm_396 : Cond.selects "WideMachineModel" y_mm_shift y_mm_shift ∈ vw_T := List.mem_of_getElem? (i := 396) rfl
theorem vm_397 : Cond.methodLink "WideMachineModel" 176 y_mm_product ∈ vw_T := List.mem_of_getElem? (i := 397) rfl
theorem vm_398 : Cond.code y_mm_product b_mm_product 4 (some .int) ∈ vw_T := List.mem_of_getElem? (i := 398) rfl
theorem vm_399 : Cond.static y_mm_product ∈ vw_T := List.mem_of_getElem? (i := 399) rfl
theorem vm_400 : Cond.methodLink "WideMachineModel" 153 y_mm_controls ∈ vw_T := List.mem_of_getElem? (i := 400) rfl
theorem vm_401 : Cond.code y_mm_controls b_mm_controls 4 none ∈ vw_T := List.mem_of_getElem? (i := 401) rfl
theorem vm_402 : Cond.instanceMethod y_mm_controls ∈ vw_T := List.mem_of_getElem? (i := 402) rfl
theorem vm_403 : Cond.selects "WideMachineModel" y_mm_controls y_mm_controls ∈ vw_T := List.mem_of_getElem? (i := 403) rfl
theorem vm_404 : Cond.methodLink "WideMachineModel" 156 y_mm_meets ∈ vw_T := List.mem_of_getElem? (i := 404) rfl
theorem vm_405 : Cond.code y_mm_meets b_mm_meets 3 none ∈ vw_T := List.mem_of_getElem? (i := 405) rfl
theorem vm_406 : Cond.instanceMethod y_mm_meets ∈ vw_T := List.mem_of_getElem? (i := 406) rfl
theorem vm_407 : Cond.selects "WideMachineModel" y_mm_meets y_mm_meets ∈ vw_T := List.mem_of_getElem? (i := 407) rfl
theorem vm_408 : Cond.methodLink "WideMachineModel" 159 y_mm_works ∈ vw_T := List.mem_of_getElem? (i := 408) rfl
theorem vm_409 : Cond.code y_mm_works b_mm_works 5 (some .int) ∈ vw_T := List.mem_of_getElem? (i := 409) rfl
theorem vm_410 : Cond.instanceMethod y_mm_works ∈ vw_T := List.mem_of_getElem? (i := 410) rfl
theorem vm_411 : Cond.selects "WideMachineModel" y_mm_works y_mm_works ∈ vw_T := List.mem_of_getElem? (i := 411) rfl
theorem vm_412 : Cond.methodLink "WideMachineModel" 115 y_mm_lands ∈ vw_T := List.mem_of_getElem? (i := 412) rfl
theorem vm_413 : Cond.code y_mm_lands b_mm_lands 3 (some .int) ∈ vw_T := List.mem_of_getElem? (i := 413) rfl
theorem vm_414 : Cond.instanceMethod y_mm_lands ∈ vw_T := List.mem_of_getElem? (i := 414) rfl
theorem vm_415 : Cond.selects "WideMachineModel" y_mm_lands y_mm_lands ∈ vw_T := List.mem_of_getElem? (i := 415) rfl
theorem vm_416 : Cond.methodLink "WideMachineModel" 119 y_mm_arrives ∈ vw_T := List.mem_of_getElem? (i := 416) rfl
theorem vm_417 : Cond.code y_mm_arrives b_mm_arrives 3 (some .int) ∈ vw_T := List.mem_of_getElem? (i := 417) rfl
theorem vm_418 : Cond.instanceMethod y_mm_arrives ∈ vw_T := List.mem_of_getElem? (i := 418) rfl
theorem vm_419 : Cond.selects "WideMachineModel" y_mm_arrives y_mm_arrives ∈ vw_T := List.mem_of_getElem? (i := 419) rfl
theorem vm_420 : Cond.methodLink "WideMachineModel" 122 y_mm_interrupts ∈ vw_T := List.mem_of_getElem? (i := 420) rfl
theorem vm_421 : Cond.code y_mm_interrupts b_mm_interrupts 2 none ∈ vw_T := List.mem_of_getElem? (i := 421) rfl
theorem vm_422 : Cond.instanceMethod y_mm_interrupts ∈ vw_T := List.mem_of_getElem? (i := 422) rfl
theorem vm_423 : Cond.selects "WideMachineModel" y_mm_interrupts y_mm_interrupts ∈ vw_T := List.mem_of_getElem? (i := 423) rfl
theorem vm_424 : Cond.methodLink "WideMachineModel" 125 y_mm_wrong ∈ vw_T := List.mem_of_getElem? (i := 424) rfl
theorem vm_425 : Cond.code y_mm_wrong b_mm_wrong 6 (some .int) ∈ vw_T := List.mem_of_getElem? (i := 425) rfl
theorem vm_426 : Cond.instanceMethod y_mm_wrong ∈ vw_T := List.mem_of_getElem? (i := 426) rfl
theorem vm_427 : Cond.selects "WideMachineModel" y_mm_wrong y_mm_wrong ∈ vw_T := List.mem_of_getElem? (i := 427) rfl
theorem vm_428 : Cond.methodLink "WideMachineModel" 128 y_mm_packet ∈ vw_T := List.mem_of_getElem? (i := 428) rfl
theorem vm_429 : Cond.code y_mm_packet b_mm_packet 5 none ∈ vw_T := List.mem_of_getElem? (i := 429) rfl
theorem vm_430 : Cond.instanceMethod y_mm_packet ∈ vw_T := List.mem_of_getElem? (i := 430) rfl
theorem vm_431 : Cond.selects "WideMachineModel" y_mm_packet y_mm_packet ∈ vw_T := List.mem_of_getElem? (i := 431) rfl
theorem vm_432 : Cond.methodLink "WideMachineModel" 78 y_mm_cycle ∈ vw_T := List.mem_of_getElem? (i := 432) rfl
theorem vm_433 : Cond.code y_mm_cycle b_mm_cycle 3 none ∈ vw_T := List.mem_of_getElem? (i := 433) rfl
theorem vm_434 : Cond.instanceMethod y_mm_cycle ∈ vw_T := List.mem_of_getElem? (i := 434) rfl
theorem vm_435 : Cond.selects "WideMachineModel" y_mm_cycle y_mm_cycle ∈ vw_T := List.mem_of_getElem? (i := 435) rfl
theorem vw_G : GoodIn vw_T vw_T := fun w hw => ⟨hw, Or.inl (List.all_eq_true.mp (by decide +kernel : vw_T.all (fun w => w.onTables && w.keeps) = true) w hw)⟩
theorem ui_0 : ∀ w ∈ u_ws "WideMachine" ff_0 12, w ∈ vw_T := by decide +kernel
theorem ui_1 : ∀ w ∈ u_ws "WideMachine$Writes" ff_1 4, w ∈ vw_T := by decide +kernel
theorem ui_2 : ∀ w ∈ u_ws "WideMachine$Branches" ff_2 3, w ∈ vw_T := by decide +kernel
theorem ui_3 : ∀ w ∈ u_ws "WideMachineModel" ff_3 23, w ∈ vw_T := by decide +kernel
end
section
/-! a small machine: values, worlds, transformers; each instruction's soundness by the kit's rows -/
abbrev mx_V : Type := Int32 ⊕ Int64 ⊕ Nat
abbrev mx_S : Type := (Nat → Nat → Int32) × (Nat → Nat → Int32)
abbrev mx_K : Type := List ((Nat × List (Option Nat)) ⊕ Nat)
abbrev mx_PG (σ : Type) : Type := Nat → List (Nat × mx_V) → List mx_V → σ → Prop
abbrev mx_RG (σ : Type) : Type := Option mx_V → σ → Prop
abbrev mx_TG (σ : Type) : Type := List (Nat × mx_V) → List mx_V → σ → mx_PG σ → mx_RG σ → Prop
abbrev mx_FG (σ : Type) : Type := List mx_V → σ → Option mx_V × σ
abbrev mx_P : Type := mx_PG mx_S
abbrev mx_R : Type := mx_RG mx_S
abbrev mx_T : Type := mx_TG mx_S
abbrev mx_F : Type := mx_FG mx_S
def mx_c (ad : Nat → Nat) (v : mx_V) : Value := match v with
  | .inl x => .int x
  | .inr (.inl y) => .long y
  | .inr (.inr k) => .ref (ad k)
def mx_cat (v : mx_V) : Nat := match v with
  | .inl _ => 1
  | .inr (.inl _) => 2
  | .inr (.inr _) => 1
theorem mx_cat_eq (ad : Nat → Nat) (v : mx_V) : (mx_c ad v).category = mx_cat v := by
  rcases v with x | y | k <;> rfl
def mx_lc (ad : Nat → Nat) (q : Nat × mx_V) : Nat × Value := (q.1, mx_c ad q.2)
/-- a state's reads and writes: an int field j of the cell k; the place i of the array k -/
def mx_gf (u : mx_S) (k j : Nat) : Int32 := u.1 k j
def mx_ga (u : mx_S) (k i : Nat) : Int32 := u.2 k i
def mx_sf (u : mx_S) (k j : Nat) (v : Int32) : mx_S := (fun a b => if a = k then (if b = j then v else u.1 a b) else u.1 a b, u.2)
def mx_sa (u : mx_S) (k i : Nat) (v : Int32) : mx_S := (u.1, fun a b => if a = k then (if b = i then v else u.2 a b) else u.2 a b)
def mx_fs (ad : Nat → Nat) (g : Nat → Int32) : Nat → List (Option Nat) → List Value
  | _, [] => []
  | j, some k :: r => .ref (ad k) :: mx_fs ad g (j + 1) r
  | j, none :: r => .int (g j) :: mx_fs ad g (j + 1) r
def mx_cell (ad : Nat → Nat) (cA : ClassId) (u : mx_S) (k : Nat) (q : (Nat × List (Option Nat)) ⊕ Nat) : Nat × va_E := (ad k, match q with
  | .inl q => .inr (q.1, mx_fs ad (u.1 k) 0 q.2)
  | .inr n => .inl (cA, n, .inl (u.2 k)))
def mx_w (ad : Nat → Nat) (cA : ClassId) (u : mx_S) : Nat → mx_K → va_W
  | _, [] => []
  | k, q :: r => mx_cell ad cA u k q :: mx_w ad cA u (k + 1) r
theorem mx_fs_len (ad : Nat → Nat) (g : Nat → Int32) : ∀ (fs : List (Option Nat)) (i : Nat), (mx_fs ad g i fs).length = fs.length
  | [], _ => rfl
  | some _ :: r, i => by simp [mx_fs, mx_fs_len ad g r (i + 1)]
  | none :: r, i => by simp [mx_fs, mx_fs_len ad g r (i + 1)]
theorem mx_fs_int (ad : Nat → Nat) (g : Nat → Int32) : ∀ (fs : List (Option Nat)) (i j : Nat), fs[j]? = some none → (mx_fs ad g i fs)[j]? = some (.int (g (i + j)))
  | [], _, _, h => by simp at h
  | a :: r, i, 0, h => by
    simp at h
    subst h
    rfl
  | a :: r, i, j + 1, h => by
    have h1 := mx_fs_int ad g r (i + 1) j (by simpa using h)
    rw [show i + 1 + j = i + (j + 1) by omega] at h1
    cases a <;> simpa [mx_fs] using h1
theorem mx_fs_ref (ad : Nat → Nat) (g : Nat → Int32) : ∀ (fs : List (Option Nat)) (i j k : Nat), fs[j]? = some (some k) → (mx_fs ad g i fs)[j]? = some (.ref (ad k))
  | [], _, _, _, h => by simp at h
  | a :: r, i, 0, k, h => by
    simp at h
    subst h
    rfl
  | a :: r, i, j + 1, k, h => by
    have h1 := mx_fs_ref ad g r (i + 1) j k (by simpa using h)
    cases a <;> simpa [mx_fs] using h1
theorem mx_fs_set (ad : Nat → Nat) (g : Nat → Int32) (fs : List (Option Nat)) (j : Nat) (v : Int32) (h : fs[j]? = some none) : (mx_fs ad g 0 fs).set j (.int v) = mx_fs ad (fun b => if b = j then v else g b) 0 fs := by
  have hl := (List.getElem?_eq_some_iff.mp h).1
  apply List.ext_getElem?
  intro n
  by_cases hn : n = j
  · subst hn
    rw [List.getElem?_set_self (by rw [mx_fs_len]; exact hl), mx_fs_int ad _ fs 0 n h, if_pos (Nat.zero_add n)]
  · rw [List.getElem?_set_ne (Ne.symm hn)]
    cases ho : fs[n]? with
    | none =>
      have h2 := List.getElem?_eq_none_iff.mp ho
      rw [List.getElem?_eq_none (by rw [mx_fs_len]; exact h2), List.getElem?_eq_none (by rw [mx_fs_len]; exact h2)]
    | some o =>
      cases o with
      | none => rw [mx_fs_int ad _ fs 0 n ho, mx_fs_int ad _ fs 0 n ho, if_neg (by rw [Nat.zero_add]; exact hn)]
      | some k => rw [mx_fs_ref ad _ fs 0 n k ho, mx_fs_ref ad _ fs 0 n k ho]
theorem mx_w_len (ad : Nat → Nat) (cA : ClassId) (u : mx_S) : ∀ (sk : mx_K) (i : Nat), (mx_w ad cA u i sk).length = sk.length
  | [], _ => rfl
  | _ :: r, i => by simp [mx_w, mx_w_len ad cA u r (i + 1)]
theorem mx_w_get (ad : Nat → Nat) (cA : ClassId) (u : mx_S) : ∀ (sk : mx_K) (i k : Nat) (q : (Nat × List (Option Nat)) ⊕ Nat), sk[k]? = some q → (mx_w ad cA u i sk)[k]? = some (mx_cell ad cA u (i + k) q)
  | [], _, _, _, h => by simp at h
  | a :: r, i, 0, q, h => by
    simp at h
    subst h
    rfl
  | a :: r, i, k + 1, q, h => by
    have h1 := mx_w_get ad cA u r (i + 1) k q (by simpa using h)
    rw [show i + 1 + k = i + (k + 1) by omega] at h1
    simpa [mx_w] using h1
theorem mx_w_at (ad : Nat → Nat) (cA : ClassId) (u : mx_S) (sk : mx_K) {k : Nat} {q : (Nat × List (Option Nat)) ⊕ Nat} (h : sk[k]? = some q) : (mx_w ad cA u 0 sk)[k]? = some (mx_cell ad cA u k q) := by
  have h1 := mx_w_get ad cA u sk 0 k q h
  rwa [Nat.zero_add] at h1
theorem mx_w_inv (ad : Nat → Nat) (cA : ClassId) (u : mx_S) (sk : mx_K) {k : Nat} {q : Nat × va_E} (h : (mx_w ad cA u 0 sk)[k]? = some q) : ∃ x, sk[k]? = some x ∧ q = mx_cell ad cA u k x := by
  have hl := (List.getElem?_eq_some_iff.mp h).1
  rw [mx_w_len] at hl
  refine ⟨sk[k], List.getElem?_eq_getElem hl, ?_⟩
  rw [mx_w_at ad cA u sk (List.getElem?_eq_getElem hl)] at h
  exact (Option.some.inj h).symm
theorem mx_w_sf (ad : Nat → Nat) (cA : ClassId) (u : mx_S) (sk : mx_K) {k j : Nat} (v : Int32) {q : Nat × List (Option Nat)} (h : sk[k]? = some (.inl q)) (hj : q.2[j]? = some none) :
    (mx_w ad cA u 0 sk).set k (ad k, .inr (q.1, (mx_fs ad (u.1 k) 0 q.2).set j (.int v))) = mx_w ad cA (mx_sf u k j v) 0 sk := by
  have hl := (List.getElem?_eq_some_iff.mp h).1
  apply List.ext_getElem?
  intro n
  by_cases hn : n = k
  · subst hn
    rw [List.getElem?_set_self (by rw [mx_w_len]; exact hl), mx_w_at ad cA _ sk h, mx_fs_set ad _ _ _ v hj]
    have e : (mx_sf u n j v).1 n = fun b => if b = j then v else u.1 n b := by
      funext b
      simp [mx_sf]
    simp only [mx_cell, e]
  · rw [List.getElem?_set_ne (Ne.symm hn)]
    cases ho : sk[n]? with
    | none =>
      have h2 := List.getElem?_eq_none_iff.mp ho
      rw [List.getElem?_eq_none (by rw [mx_w_len]; exact h2), List.getElem?_eq_none (by rw [mx_w_len]; exact h2)]
    | some o =>
      rw [mx_w_at ad cA _ sk ho, mx_w_at ad cA _ sk ho]
      have e : (mx_sf u k j v).1 n = u.1 n := by
        funext b
        simp [mx_sf, hn]
      cases o with
      | inl x => simp only [mx_cell, e]
      | inr x => simp only [mx_cell, mx_sf]
theorem mx_w_sa (ad : Nat → Nat) (cA : ClassId) (u : mx_S) (sk : mx_K) {k i n0 : Nat} (v : Int32) (h : sk[k]? = some (.inr n0)) :
    (mx_w ad cA u 0 sk).set k (ad k, .inl (cA, n0, .inl (upd (u.2 k) i v))) = mx_w ad cA (mx_sa u k i v) 0 sk := by
  have hl := (List.getElem?_eq_some_iff.mp h).1
  apply List.ext_getElem?
  intro n
  by_cases hn : n = k
  · subst hn
    rw [List.getElem?_set_self (by rw [mx_w_len]; exact hl), mx_w_at ad cA _ sk h]
    have e : (mx_sa u n i v).2 n = upd (u.2 n) i v := by
      funext b
      simp [mx_sa, upd]
    simp only [mx_cell, e]
  · rw [List.getElem?_set_ne (Ne.symm hn)]
    cases ho : sk[n]? with
    | none =>
      have h2 := List.getElem?_eq_none_iff.mp ho
      rw [List.getElem?_eq_none (by rw [mx_w_len]; exact h2), List.getElem?_eq_none (by rw [mx_w_len]; exact h2)]
    | some o =>
      rw [mx_w_at ad cA _ sk ho, mx_w_at ad cA _ sk ho]
      have e : (mx_sa u k i v).2 n = u.2 n := by
        funext b
        simp [mx_sa, hn]
      cases o with
      | inl x => simp only [mx_cell, mx_sa]
      | inr x => simp only [mx_cell, e]
/-- the cells that a method may change: the world's, and new ones -/
def mx_A (ad : Nat → Nat) (n sz : Nat) : Nat → Prop := fun q => (∃ k, k < n ∧ q = ad k) ∨ sz ≤ q
theorem mx_D {A : Nat → Prop} {ad : Nat → Nat} {cA : ClassId} {u : mx_S} (u' : mx_S) {sk : mx_K} (h : va_D A (mx_w ad cA u 0 sk)) : va_D A (mx_w ad cA u' 0 sk) := by
  refine ⟨fun i j x y hi hj hxy => ?_, fun k q hk => ?_⟩
  · obtain ⟨a, ha, rfl⟩ := mx_w_inv ad cA u' sk hi
    obtain ⟨b, hb, rfl⟩ := mx_w_inv ad cA u' sk hj
    exact h.1 i j _ _ (mx_w_at ad cA u sk ha) (mx_w_at ad cA u sk hb) hxy
  · obtain ⟨a, ha, rfl⟩ := mx_w_inv ad cA u' sk hk
    exact h.2 k (mx_cell ad cA u k a) (mx_w_at ad cA u sk ha)
theorem mx_Dz {A : Nat → Prop} {ad : Nat → Nat} {cA : ClassId} {u : mx_S} {sk : mx_K} (sz : Nat) (h : va_D A (mx_w ad cA u 0 sk)) : va_D (mx_A ad sk.length sz) (mx_w ad cA u 0 sk) := by
  refine ⟨h.1, fun k q hk => ?_⟩
  have hl := (List.getElem?_eq_some_iff.mp hk).1
  rw [mx_w_len] at hl
  obtain ⟨a, ha, rfl⟩ := mx_w_inv ad cA u sk hk
  exact Or.inl ⟨k, hl, rfl⟩
def mx_lk : List (Nat × mx_V) → Nat → Option mx_V
  | [], _ => none
  | q :: r, i => bif Nat.beq q.1 i then some q.2 else mx_lk r i
theorem mx_lk_mem : ∀ {L : List (Nat × mx_V)} {i : Nat} {v : mx_V}, mx_lk L i = some v → (i, v) ∈ L
  | [], _, _, h => by simp [mx_lk] at h
  | q :: r, i, v, h => by
    unfold mx_lk at h
    cases hq : Nat.beq q.1 i with
    | true =>
      rw [hq] at h
      have e := Nat.eq_of_beq_eq_true hq
      have e2 : q.2 = v := Option.some.inj h
      subst e
      subst e2
      exact List.mem_cons_self
    | false =>
      rw [hq] at h
      exact List.mem_cons_of_mem _ (mx_lk_mem h)
theorem mx_lv {ls : Array Slot} {nL : Nat} {ad : Nat → Nat} {L : List (Nat × mx_V)} (hl : lv_has ls nL (L.map (mx_lc ad))) {i : Nat} {v : mx_V} (h : mx_lk L i = some v) : ls[i]? = some (.val (mx_c ad v)) :=
  hl.2.2 (i, mx_c ad v) (List.mem_map.mpr ⟨(i, v), mx_lk_mem h, rfl⟩)
def mx_st (L : List (Nat × mx_V)) (i : Nat) (v : mx_V) : List (Nat × mx_V) := (i, v) :: L.filter (fun q => !(q.1 == i) && !(q.1 + 1 == i && mx_cat q.2 == 2))
theorem mx_st_eq (ad : Nat → Nat) (L : List (Nat × mx_V)) (i : Nat) (v : mx_V) : (i, mx_c ad v) :: (L.map (mx_lc ad)).filter (fun q => !(q.1 == i) && !(q.1 + 1 == i && q.2.category == 2)) = (mx_st L i v).map (mx_lc ad) := by
  rw [List.filter_map]
  show _ = mx_lc ad (i, v) :: _
  have e : ((fun q : Nat × Value => !(q.1 == i) && !(q.1 + 1 == i && q.2.category == 2)) ∘ mx_lc ad) = fun q : Nat × mx_V => !(q.1 == i) && !(q.1 + 1 == i && mx_cat q.2 == 2) := by
    funext q
    simp [mx_lc, mx_cat_eq]
  rw [e]
  rfl
def mx_st2 (L : List (Nat × mx_V)) (i : Nat) (v : mx_V) : List (Nat × mx_V) := (i, v) :: L.filter (fun q => !(q.1 == i) && (!(q.1 == i + 1) && !(q.1 + 1 == i && mx_cat q.2 == 2)))
theorem mx_st2_eq (ad : Nat → Nat) (L : List (Nat × mx_V)) (i : Nat) (v : mx_V) : (i, mx_c ad v) :: (L.map (mx_lc ad)).filter (fun q => !(q.1 == i) && (!(q.1 == i + 1) && !(q.1 + 1 == i && q.2.category == 2))) = (mx_st2 L i v).map (mx_lc ad) := by
  rw [List.filter_map]
  show _ = mx_lc ad (i, v) :: _
  have e : ((fun q : Nat × Value => !(q.1 == i) && (!(q.1 == i + 1) && !(q.1 + 1 == i && q.2.category == 2))) ∘ mx_lc ad) = fun q : Nat × mx_V => !(q.1 == i) && (!(q.1 == i + 1) && !(q.1 + 1 == i && mx_cat q.2 == 2)) := by
    funext q
    simp [mx_lc, mx_cat_eq]
  rw [e]
  rfl
/-- what holds of the machine while one method runs; G: what else its own words say of the start -/
def mx_Cx (G : State → (Nat → Nat) → Prop) (R : Room) (cells slots : Nat) (cc : ByteArray) (nL : Nat) (own : String) (ret : Option FieldType) (Ts : List Cond) (cl : List vw_C) (p : Program) (s : State) (m : MethodId) (args : Array Value) (meth : Method) (c : Code) (D : va_G) (cA : ClassId) (ad : Nat → Nat) : Prop :=
  p.tables.exec = Jvm.exec ∧ c.code = cc ∧ c.maxLocals = nL ∧ s.vm.findClass own = some m.cls ∧ (∀ w ∈ Ts, w.before args s = true) ∧ va_K D cl [(cA, .int)] s ∧ (cells ≤ R.cells ∧ slots ≤ R.slots) ∧ G s ad
abbrev mx_WG (σ : Type) : Type := (Nat → Nat) → ClassId → σ → va_W
/-- the machine comes, from this place with these locals, stack and world, to an end with Qf -/
def mx_AtG {σ : Type} (wd : mx_WG σ) (nc : Nat) (l : Launch) (R : Room) (cells slots : Nat) (nL : Nat) (cl : List vw_C) (p : Program) (e : Env) (s : State) (m : MethodId) (args : Array Value) (below : List Frame) (meth : Method) (c : Code) (D : va_G) (cA : ClassId) (ad : Nat → Nat) (Qf : State → Prop) : mx_PG σ := fun pc L st u =>
  ∀ (ls : Array Slot) (H : Heap) (locs : List Loc), lv_has ls nL (L.map (mx_lc ad)) → va_P D cl (wd ad cA u) H → va_D (mx_A ad nc s.heap.size) (wd ad cA u) → va_S (mx_A ad nc s.heap.size) s.heap H locs →
    W p l e R s m args below meth c H locs cells slots Qf (F0 m pc ls (st.map (mx_c ad)))
/-- a place where the method ends, and what it may answer there -/
def mx_rk (cc : ByteArray) (ret : Option FieldType) (pc : Nat) (v : Option mx_V) : Prop :=
  (decode cc pc = .ok (.ireturn, 1) ∧ ∃ x : Int32, v = some (.inl x) ∧ (ret = some .int ∨ (ret = some .boolean ∧ (x = 0 ∨ x = 1)))) ∨ (decode cc pc = .ok (.return_, 1) ∧ v = none ∧ ret = none)
def mx_EndG {σ : Type} (wd : mx_WG σ) (nc : Nat) (l : Launch) (R : Room) (cells slots : Nat) (cc : ByteArray) (ret : Option FieldType) (cl : List vw_C) (p : Program) (e : Env) (s : State) (m : MethodId) (args : Array Value) (below : List Frame) (meth : Method) (c : Code) (D : va_G) (cA : ClassId) (ad : Nat → Nat) (Qf : State → Prop) (Rr : mx_RG σ) : Prop :=
  ∀ (pc : Nat) (v : Option mx_V) (u : σ) (ls : Array Slot) (H : Heap) (locs : List Loc), mx_rk cc ret pc v → Rr v u → va_P D cl (wd ad cA u) H → va_S (mx_A ad nc s.heap.size) s.heap H locs → W p l e R s m args below meth c H locs cells slots Qf (F0 m pc ls (v.toList.map (mx_c ad)))
/-- an instruction at pc keeps to its transformer -/
def mx_OkG {σ : Type} (wd : mx_WG σ) (nc : Nat) (G : State → (Nat → Nat) → Prop) (l : Launch) (R : Room) (cc : ByteArray) (nL : Nat) (own : String) (ret : Option FieldType) (Ts : List Cond) (cl : List vw_C) (pc : Nat) (T : mx_TG σ) : Prop :=
  ∀ (p : Program) (e : Env) (s : State) (m : MethodId) (args : Array Value) (below : List Frame) (meth : Method) (c : Code) (D : va_G) (cA : ClassId) (ad : Nat → Nat) (cells slots : Nat) (Qf : State → Prop),
    mx_Cx G R cells slots cc nL own ret Ts cl p s m args meth c D cA ad → ∀ Rr : mx_RG σ, mx_EndG wd nc l R cells slots cc ret cl p e s m args below meth c D cA ad Qf Rr → ∀ (L : List (Nat × mx_V)) (st : List mx_V) (u : σ) (K : mx_PG σ), T L st u K Rr →
      (∀ (pc' : Nat) (L' : List (Nat × mx_V)) (st' : List mx_V) (u' : σ), K pc' L' st' u' → mx_AtG wd nc l R cells slots nL cl p e s m args below meth c D cA ad Qf pc' L' st' u') → mx_AtG wd nc l R cells slots nL cl p e s m args below meth c D cA ad Qf pc L st u
def mx_wd (sk : mx_K) : mx_WG mx_S := fun ad cA u => mx_w ad cA u 0 sk
abbrev mx_Ok (l : Launch) (R : Room) (cc : ByteArray) (nL : Nat) (own : String) (ret : Option FieldType) (Ts : List Cond) (cl : List vw_C) (sk : mx_K) (pc : Nat) (T : mx_T) : Prop := mx_OkG (mx_wd sk) sk.length (fun _ _ => True) l R cc nL own ret Ts cl pc T
section MXO
variable {σ : Type} {wd : mx_WG σ} {nc : Nat} {G : State → (Nat → Nat) → Prop} {l : Launch} {R : Room} {cc : ByteArray} {nL : Nat} {own : String} {ret : Option FieldType} {Ts : List Cond} {cl : List vw_C} {sk : mx_K} {pc : Nat}

def mx_iload_n {σ : Type} (i : Nat) (pc : Nat) : mx_TG σ := fun L st u K Rr => match mx_lk L i with
  | some v => match v with
    | .inl x => K (pc + 1) L (.inl x :: st) u
    | _ => False
  | none => False
theorem mx_ok_iload_n {k : Fin 4} {i : Nat} (hdg : decode cc pc = .ok (.iload_n k, 1)) (hi : (k : Nat) = i) : mx_OkG wd nc G l R cc nL own ret Ts cl pc (mx_iload_n i pc) := by
  intro p e s m args below meth c D cA ad cells slots Qf ⟨hx, hb, hml, hown, hts, hK, hcs, hG0⟩ Rr hE L st u K h hk ls H locs hl hP hD hS
  unfold mx_iload_n at h
  split at h
  · rename_i v hv
    split at h
    · exact lv_iload_n hx hb hdg hi (mx_lv hl hv) (hk _ _ _ _ h ls H locs hl hP hD hS)
    · exact h.elim
  · exact h.elim
def mx_iload {σ : Type} (i : Nat) (pc : Nat) : mx_TG σ := fun L st u K Rr => match mx_lk L i with
  | some v => match v with
    | .inl x => K (pc + 2) L (.inl x :: st) u
    | _ => False
  | none => False
theorem mx_ok_iload {i : Nat} (hdg : decode cc pc = .ok (.iload i, 2)) : mx_OkG wd nc G l R cc nL own ret Ts cl pc (mx_iload i pc) := by
  intro p e s m args below meth c D cA ad cells slots Qf ⟨hx, hb, hml, hown, hts, hK, hcs, hG0⟩ Rr hE L st u K h hk ls H locs hl hP hD hS
  unfold mx_iload at h
  split at h
  · rename_i v hv
    split at h
    · exact lv_iload hx hb hdg (mx_lv hl hv) (hk _ _ _ _ h ls H locs hl hP hD hS)
    · exact h.elim
  · exact h.elim
def mx_aload_n {σ : Type} (i : Nat) (pc : Nat) : mx_TG σ := fun L st u K Rr => match mx_lk L i with
  | some v => match v with
    | .inr (.inr x) => K (pc + 1) L (.inr (.inr x) :: st) u
    | _ => False
  | none => False
theorem mx_ok_aload_n {k : Fin 4} {i : Nat} (hdg : decode cc pc = .ok (.aload_n k, 1)) (hi : (k : Nat) = i) : mx_OkG wd nc G l R cc nL own ret Ts cl pc (mx_aload_n i pc) := by
  intro p e s m args below meth c D cA ad cells slots Qf ⟨hx, hb, hml, hown, hts, hK, hcs, hG0⟩ Rr hE L st u K h hk ls H locs hl hP hD hS
  unfold mx_aload_n at h
  split at h
  · rename_i v hv
    split at h
    · exact lv_aload_n hx hb hdg hi (mx_lv hl hv) (hk _ _ _ _ h ls H locs hl hP hD hS)
    · exact h.elim
  · exact h.elim
def mx_lload_n {σ : Type} (i : Nat) (pc : Nat) : mx_TG σ := fun L st u K Rr => match mx_lk L i with
  | some v => match v with
    | .inr (.inl x) => K (pc + 1) L (.inr (.inl x) :: st) u
    | _ => False
  | none => False
theorem mx_ok_lload_n {k : Fin 4} {i : Nat} (hdg : decode cc pc = .ok (.lload_n k, 1)) (hi : (k : Nat) = i) : mx_OkG wd nc G l R cc nL own ret Ts cl pc (mx_lload_n i pc) := by
  intro p e s m args below meth c D cA ad cells slots Qf ⟨hx, hb, hml, hown, hts, hK, hcs, hG0⟩ Rr hE L st u K h hk ls H locs hl hP hD hS
  unfold mx_lload_n at h
  split at h
  · rename_i v hv
    split at h
    · exact lv_lload_n hx hb hdg hi (mx_lv hl hv) (hk _ _ _ _ h ls H locs hl hP hD hS)
    · exact h.elim
  · exact h.elim
def mx_istore_n {σ : Type} (i : Nat) (pc : Nat) : mx_TG σ := fun L st u K Rr => match st with
  | .inl x :: r => K (pc + 1) (mx_st L i (.inl x)) r u
  | _ => False
theorem mx_ok_istore_n {k : Fin 4} {i : Nat} (hdg : decode cc pc = .ok (.istore_n k, 1)) (hi : (k : Nat) = i) (hn : i < nL) : mx_OkG wd nc G l R cc nL own ret Ts cl pc (mx_istore_n i pc) := by
  intro p e s m args below meth c D cA ad cells slots Qf ⟨hx, hb, hml, hown, hts, hK, hcs, hG0⟩ Rr hE L st u K h hk ls H locs hl hP hD hS
  unfold mx_istore_n at h
  split at h
  · rename_i x r
    exact lv_istore_n hx hb hdg hi hl hn (mx_st_eq ad L i (.inl x)) (fun ls' hl' => hk _ _ _ _ h ls' H locs hl' hP hD hS)
  · exact h.elim
def mx_istore {σ : Type} (i : Nat) (pc : Nat) : mx_TG σ := fun L st u K Rr => match st with
  | .inl x :: r => K (pc + 2) (mx_st L i (.inl x)) r u
  | _ => False
theorem mx_ok_istore {i : Nat} (hdg : decode cc pc = .ok (.istore i, 2)) (hn : i < nL) : mx_OkG wd nc G l R cc nL own ret Ts cl pc (mx_istore i pc) := by
  intro p e s m args below meth c D cA ad cells slots Qf ⟨hx, hb, hml, hown, hts, hK, hcs, hG0⟩ Rr hE L st u K h hk ls H locs hl hP hD hS
  unfold mx_istore at h
  split at h
  · rename_i x r
    exact lv_istore hx hb hdg hl hn (mx_st_eq ad L i (.inl x)) (fun ls' hl' => hk _ _ _ _ h ls' H locs hl' hP hD hS)
  · exact h.elim
def mx_lstore_n {σ : Type} (i : Nat) (pc : Nat) : mx_TG σ := fun L st u K Rr => match st with
  | .inr (.inl x) :: r => K (pc + 1) (mx_st2 L i (.inr (.inl x))) r u
  | _ => False
theorem mx_ok_lstore_n {k : Fin 4} {i : Nat} (hdg : decode cc pc = .ok (.lstore_n k, 1)) (hi : (k : Nat) = i) (hn : i + 1 < nL) : mx_OkG wd nc G l R cc nL own ret Ts cl pc (mx_lstore_n i pc) := by
  intro p e s m args below meth c D cA ad cells slots Qf ⟨hx, hb, hml, hown, hts, hK, hcs, hG0⟩ Rr hE L st u K h hk ls H locs hl hP hD hS
  unfold mx_lstore_n at h
  split at h
  · rename_i x r
    exact lv_lstore_n hx hb hdg hi hl hn (mx_st2_eq ad L i (.inr (.inl x))) (fun ls' hl' => hk _ _ _ _ h ls' H locs hl' hP hD hS)
  · exact h.elim
def mx_iinc {σ : Type} (i : Nat) (n : Int32) (pc : Nat) : mx_TG σ := fun L st u K Rr => match mx_lk L i with
  | some v => match v with
    | .inl x => K (pc + 3) (mx_st L i (.inl (x + n))) st u
    | _ => False
  | none => False
theorem mx_ok_iinc {i : Nat} {n : Int} {n' : Int32} (hdg : decode cc pc = .ok (.iinc i n, 3)) (hn' : Int32.ofInt n = n') (hn : i < nL) : mx_OkG wd nc G l R cc nL own ret Ts cl pc (mx_iinc i n' pc) := by
  intro p e s m args below meth c D cA ad cells slots Qf ⟨hx, hb, hml, hown, hts, hK, hcs, hG0⟩ Rr hE L st u K h hk ls H locs hl hP hD hS
  subst hn'
  unfold mx_iinc at h
  split at h
  · rename_i v hv
    split at h
    · rename_i x
      obtain ⟨k, hk2⟩ := List.getElem?_of_mem (List.mem_map.mpr ⟨(i, Sum.inl x), mx_lk_mem hv, rfl⟩ : mx_lc ad (i, Sum.inl x) ∈ L.map (mx_lc ad))
      exact lv_iinc hx hb hdg hl hk2 rfl hn (mx_st_eq ad _ _ (.inl _)) (fun ls' hl' => hk _ _ _ _ h ls' H locs hl' hP hD hS)
    · exact h.elim
  · exact h.elim
def mx_iconst {σ : Type} (v : Int32) (pc : Nat) : mx_TG σ := fun L st u K Rr => K (pc + 1) L (.inl v :: st) u
theorem mx_ok_iconst {n : Int} {v : Int32} (hdg : decode cc pc = .ok (.iconst n, 1)) (hv : Int32.ofInt n = v) : mx_OkG wd nc G l R cc nL own ret Ts cl pc (mx_iconst v pc) := by
  intro p e s m args below meth c D cA ad cells slots Qf ⟨hx, hb, hml, hown, hts, hK, hcs, hG0⟩ Rr hE L st u K h hk ls H locs hl hP hD hS
  exact lv_iconst hx hb hdg hv (hk _ _ _ _ h ls H locs hl hP hD hS)
def mx_bipush {σ : Type} (v : Int32) (pc : Nat) : mx_TG σ := fun L st u K Rr => K (pc + 2) L (.inl v :: st) u
theorem mx_ok_bipush {n : Int} {v : Int32} (hdg : decode cc pc = .ok (.bipush n, 2)) (hv : (Int8.ofInt n).toInt32 = v) : mx_OkG wd nc G l R cc nL own ret Ts cl pc (mx_bipush v pc) := by
  intro p e s m args below meth c D cA ad cells slots Qf ⟨hx, hb, hml, hown, hts, hK, hcs, hG0⟩ Rr hE L st u K h hk ls H locs hl hP hD hS
  exact lv_bipush hx hb hdg hv (hk _ _ _ _ h ls H locs hl hP hD hS)
def mx_sipush {σ : Type} (v : Int32) (pc : Nat) : mx_TG σ := fun L st u K Rr => K (pc + 3) L (.inl v :: st) u
theorem mx_ok_sipush {n : Int} {v : Int32} (hdg : decode cc pc = .ok (.sipush n, 3)) (hv : (Int16.ofInt n).toInt32 = v) : mx_OkG wd nc G l R cc nL own ret Ts cl pc (mx_sipush v pc) := by
  intro p e s m args below meth c D cA ad cells slots Qf ⟨hx, hb, hml, hown, hts, hK, hcs, hG0⟩ Rr hE L st u K h hk ls H locs hl hP hD hS
  exact lv_sipush hx hb hdg hv (hk _ _ _ _ h ls H locs hl hP hD hS)
def mx_ldc {σ : Type} (v : Int32) (pc : Nat) : mx_TG σ := fun L st u K Rr => K (pc + 2) L (.inl v :: st) u
theorem mx_ok_ldc {index : Nat} {v : Int32} (hdg : decode cc pc = .ok (.ldc index, 2)) (hc : Cond.constant own index v ∈ Ts) : mx_OkG wd nc G l R cc nL own ret Ts cl pc (mx_ldc v pc) := by
  intro p e s m args below meth c D cA ad cells slots Qf ⟨hx, hb, hml, hown, hts, hK, hcs, hG0⟩ Rr hE L st u K h hk ls H locs hl hP hD hS
  exact lv_ldc hx hb hown (hts _ hc) hdg (hk _ _ _ _ h ls H locs hl hP hD hS)
def mx_ldc2 {σ : Type} (v : Int64) (pc : Nat) : mx_TG σ := fun L st u K Rr => K (pc + 3) L (.inr (.inl v) :: st) u
theorem mx_ok_ldc2 {index : Nat} {v : Int64} (hdg : decode cc pc = .ok (.ldc2_w index, 3)) (hc : Cond.constantLong own index v ∈ Ts) : mx_OkG wd nc G l R cc nL own ret Ts cl pc (mx_ldc2 v pc) := by
  intro p e s m args below meth c D cA ad cells slots Qf ⟨hx, hb, hml, hown, hts, hK, hcs, hG0⟩ Rr hE L st u K h hk ls H locs hl hP hD hS
  exact lv_ldc2 hx hb hown (hts _ hc) hdg (hk _ _ _ _ h ls H locs hl hP hD hS)
def mx_iadd {σ : Type} (pc : Nat) : mx_TG σ := fun L st u K Rr => match st with
  | .inl y :: .inl x :: r => K (pc + 1) L (.inl (x + y) :: r) u
  | _ => False
theorem mx_ok_iadd (hdg : decode cc pc = .ok (.iadd, 1)) : mx_OkG wd nc G l R cc nL own ret Ts cl pc (mx_iadd pc) := by
  intro p e s m args below meth c D cA ad cells slots Qf ⟨hx, hb, hml, hown, hts, hK, hcs, hG0⟩ Rr hE L st u K h hk ls H locs hl hP hD hS
  unfold mx_iadd at h
  split at h
  · exact lv_iadd hx hb hdg (hk _ _ _ _ h ls H locs hl hP hD hS)
  · exact h.elim
def mx_isub {σ : Type} (pc : Nat) : mx_TG σ := fun L st u K Rr => match st with
  | .inl y :: .inl x :: r => K (pc + 1) L (.inl (x - y) :: r) u
  | _ => False
theorem mx_ok_isub (hdg : decode cc pc = .ok (.isub, 1)) : mx_OkG wd nc G l R cc nL own ret Ts cl pc (mx_isub pc) := by
  intro p e s m args below meth c D cA ad cells slots Qf ⟨hx, hb, hml, hown, hts, hK, hcs, hG0⟩ Rr hE L st u K h hk ls H locs hl hP hD hS
  unfold mx_isub at h
  split at h
  · exact lv_isub hx hb hdg (hk _ _ _ _ h ls H locs hl hP hD hS)
  · exact h.elim
def mx_imul {σ : Type} (pc : Nat) : mx_TG σ := fun L st u K Rr => match st with
  | .inl y :: .inl x :: r => K (pc + 1) L (.inl (x * y) :: r) u
  | _ => False
theorem mx_ok_imul (hdg : decode cc pc = .ok (.imul, 1)) : mx_OkG wd nc G l R cc nL own ret Ts cl pc (mx_imul pc) := by
  intro p e s m args below meth c D cA ad cells slots Qf ⟨hx, hb, hml, hown, hts, hK, hcs, hG0⟩ Rr hE L st u K h hk ls H locs hl hP hD hS
  unfold mx_imul at h
  split at h
  · exact lv_imul hx hb hdg (hk _ _ _ _ h ls H locs hl hP hD hS)
  · exact h.elim
def mx_iand {σ : Type} (pc : Nat) : mx_TG σ := fun L st u K Rr => match st with
  | .inl y :: .inl x :: r => K (pc + 1) L (.inl (x &&& y) :: r) u
  | _ => False
theorem mx_ok_iand (hdg : decode cc pc = .ok (.iand, 1)) : mx_OkG wd nc G l R cc nL own ret Ts cl pc (mx_iand pc) := by
  intro p e s m args below meth c D cA ad cells slots Qf ⟨hx, hb, hml, hown, hts, hK, hcs, hG0⟩ Rr hE L st u K h hk ls H locs hl hP hD hS
  unfold mx_iand at h
  split at h
  · exact lv_iand hx hb hdg (hk _ _ _ _ h ls H locs hl hP hD hS)
  · exact h.elim
def mx_ior {σ : Type} (pc : Nat) : mx_TG σ := fun L st u K Rr => match st with
  | .inl y :: .inl x :: r => K (pc + 1) L (.inl (x ||| y) :: r) u
  | _ => False
theorem mx_ok_ior (hdg : decode cc pc = .ok (.ior, 1)) : mx_OkG wd nc G l R cc nL own ret Ts cl pc (mx_ior pc) := by
  intro p e s m args below meth c D cA ad cells slots Qf ⟨hx, hb, hml, hown, hts, hK, hcs, hG0⟩ Rr hE L st u K h hk ls H locs hl hP hD hS
  unfold mx_ior at h
  split at h
  · exact lv_ior hx hb hdg (hk _ _ _ _ h ls H locs hl hP hD hS)
  · exact h.elim
def mx_ixor {σ : Type} (pc : Nat) : mx_TG σ := fun L st u K Rr => match st with
  | .inl y :: .inl x :: r => K (pc + 1) L (.inl (x ^^^ y) :: r) u
  | _ => False
theorem mx_ok_ixor (hdg : decode cc pc = .ok (.ixor, 1)) : mx_OkG wd nc G l R cc nL own ret Ts cl pc (mx_ixor pc) := by
  intro p e s m args below meth c D cA ad cells slots Qf ⟨hx, hb, hml, hown, hts, hK, hcs, hG0⟩ Rr hE L st u K h hk ls H locs hl hP hD hS
  unfold mx_ixor at h
  split at h
  · exact lv_ixor hx hb hdg (hk _ _ _ _ h ls H locs hl hP hD hS)
  · exact h.elim
def mx_ishl {σ : Type} (pc : Nat) : mx_TG σ := fun L st u K Rr => match st with
  | .inl y :: .inl x :: r => K (pc + 1) L (.inl (x <<< (y &&& 31)) :: r) u
  | _ => False
theorem mx_ok_ishl (hdg : decode cc pc = .ok (.ishl, 1)) : mx_OkG wd nc G l R cc nL own ret Ts cl pc (mx_ishl pc) := by
  intro p e s m args below meth c D cA ad cells slots Qf ⟨hx, hb, hml, hown, hts, hK, hcs, hG0⟩ Rr hE L st u K h hk ls H locs hl hP hD hS
  unfold mx_ishl at h
  split at h
  · exact lv_ishl hx hb hdg (hk _ _ _ _ h ls H locs hl hP hD hS)
  · exact h.elim
def mx_ishr {σ : Type} (pc : Nat) : mx_TG σ := fun L st u K Rr => match st with
  | .inl y :: .inl x :: r => K (pc + 1) L (.inl (x >>> (y &&& 31)) :: r) u
  | _ => False
theorem mx_ok_ishr (hdg : decode cc pc = .ok (.ishr, 1)) : mx_OkG wd nc G l R cc nL own ret Ts cl pc (mx_ishr pc) := by
  intro p e s m args below meth c D cA ad cells slots Qf ⟨hx, hb, hml, hown, hts, hK, hcs, hG0⟩ Rr hE L st u K h hk ls H locs hl hP hD hS
  unfold mx_ishr at h
  split at h
  · exact lv_ishr hx hb hdg (hk _ _ _ _ h ls H locs hl hP hD hS)
  · exact h.elim
def mx_iushr {σ : Type} (pc : Nat) : mx_TG σ := fun L st u K Rr => match st with
  | .inl y :: .inl x :: r => K (pc + 1) L (.inl ((x.toUInt32 >>> (y.toUInt32 &&& Int32.toUInt32 31)).toInt32) :: r) u
  | _ => False
theorem mx_ok_iushr (hdg : decode cc pc = .ok (.iushr, 1)) : mx_OkG wd nc G l R cc nL own ret Ts cl pc (mx_iushr pc) := by
  intro p e s m args below meth c D cA ad cells slots Qf ⟨hx, hb, hml, hown, hts, hK, hcs, hG0⟩ Rr hE L st u K h hk ls H locs hl hP hD hS
  unfold mx_iushr at h
  split at h
  · exact lv_iushr hx hb hdg rfl (hk _ _ _ _ h ls H locs hl hP hD hS)
  · exact h.elim
def mx_idiv {σ : Type} (pc : Nat) : mx_TG σ := fun L st u K Rr => match st with
  | .inl y :: .inl x :: r => ¬ y = 0 ∧ K (pc + 1) L (.inl (x / y) :: r) u
  | _ => False
theorem mx_ok_idiv (hdg : decode cc pc = .ok (.idiv, 1)) : mx_OkG wd nc G l R cc nL own ret Ts cl pc (mx_idiv pc) := by
  intro p e s m args below meth c D cA ad cells slots Qf ⟨hx, hb, hml, hown, hts, hK, hcs, hG0⟩ Rr hE L st u K h hk ls H locs hl hP hD hS
  unfold mx_idiv at h
  split at h
  · exact lv_idiv hx hb hdg h.1 (hk _ _ _ _ h.2 ls H locs hl hP hD hS)
  · exact h.elim
def mx_irem {σ : Type} (pc : Nat) : mx_TG σ := fun L st u K Rr => match st with
  | .inl y :: .inl x :: r => ¬ y = 0 ∧ K (pc + 1) L (.inl (x - x / y * y) :: r) u
  | _ => False
theorem mx_ok_irem (hdg : decode cc pc = .ok (.irem, 1)) : mx_OkG wd nc G l R cc nL own ret Ts cl pc (mx_irem pc) := by
  intro p e s m args below meth c D cA ad cells slots Qf ⟨hx, hb, hml, hown, hts, hK, hcs, hG0⟩ Rr hE L st u K h hk ls H locs hl hP hD hS
  unfold mx_irem at h
  split at h
  · exact lv_irem hx hb hdg h.1 (hk _ _ _ _ h.2 ls H locs hl hP hD hS)
  · exact h.elim
def mx_ladd {σ : Type} (pc : Nat) : mx_TG σ := fun L st u K Rr => match st with
  | .inr (.inl y) :: .inr (.inl x) :: r => K (pc + 1) L (.inr (.inl (x + y)) :: r) u
  | _ => False
theorem mx_ok_ladd (hdg : decode cc pc = .ok (.ladd, 1)) : mx_OkG wd nc G l R cc nL own ret Ts cl pc (mx_ladd pc) := by
  intro p e s m args below meth c D cA ad cells slots Qf ⟨hx, hb, hml, hown, hts, hK, hcs, hG0⟩ Rr hE L st u K h hk ls H locs hl hP hD hS
  unfold mx_ladd at h
  split at h
  · exact lv_ladd hx hb hdg (hk _ _ _ _ h ls H locs hl hP hD hS)
  · exact h.elim
def mx_lmul {σ : Type} (pc : Nat) : mx_TG σ := fun L st u K Rr => match st with
  | .inr (.inl y) :: .inr (.inl x) :: r => K (pc + 1) L (.inr (.inl (x * y)) :: r) u
  | _ => False
theorem mx_ok_lmul (hdg : decode cc pc = .ok (.lmul, 1)) : mx_OkG wd nc G l R cc nL own ret Ts cl pc (mx_lmul pc) := by
  intro p e s m args below meth c D cA ad cells slots Qf ⟨hx, hb, hml, hown, hts, hK, hcs, hG0⟩ Rr hE L st u K h hk ls H locs hl hP hD hS
  unfold mx_lmul at h
  split at h
  · exact lv_lmul hx hb hdg (hk _ _ _ _ h ls H locs hl hP hD hS)
  · exact h.elim
def mx_lcmp {σ : Type} (pc : Nat) : mx_TG σ := fun L st u K Rr => match st with
  | .inr (.inl y) :: .inr (.inl x) :: r => K (pc + 1) L (.inl (lg_cmp x y) :: r) u
  | _ => False
theorem mx_ok_lcmp (hdg : decode cc pc = .ok (.lcmp, 1)) : mx_OkG wd nc G l R cc nL own ret Ts cl pc (mx_lcmp pc) := by
  intro p e s m args below meth c D cA ad cells slots Qf ⟨hx, hb, hml, hown, hts, hK, hcs, hG0⟩ Rr hE L st u K h hk ls H locs hl hP hD hS
  unfold mx_lcmp at h
  split at h
  · exact W.lcmp hx hb hdg (hk _ _ _ _ h ls H locs hl hP hD hS)
  · exact h.elim
def mx_i2s {σ : Type} (pc : Nat) : mx_TG σ := fun L st u K Rr => match st with
  | .inl x :: r => K (pc + 1) L (.inl x.toInt16.toInt32 :: r) u
  | _ => False
theorem mx_ok_i2s (hdg : decode cc pc = .ok (.i2s, 1)) : mx_OkG wd nc G l R cc nL own ret Ts cl pc (mx_i2s pc) := by
  intro p e s m args below meth c D cA ad cells slots Qf ⟨hx, hb, hml, hown, hts, hK, hcs, hG0⟩ Rr hE L st u K h hk ls H locs hl hP hD hS
  unfold mx_i2s at h
  split at h
  · exact lv_i2s hx hb hdg rfl (hk _ _ _ _ h ls H locs hl hP hD hS)
  · exact h.elim
def mx_i2l {σ : Type} (pc : Nat) : mx_TG σ := fun L st u K Rr => match st with
  | .inl x :: r => K (pc + 1) L (.inr (.inl x.toInt64) :: r) u
  | _ => False
theorem mx_ok_i2l (hdg : decode cc pc = .ok (.i2l, 1)) : mx_OkG wd nc G l R cc nL own ret Ts cl pc (mx_i2l pc) := by
  intro p e s m args below meth c D cA ad cells slots Qf ⟨hx, hb, hml, hown, hts, hK, hcs, hG0⟩ Rr hE L st u K h hk ls H locs hl hP hD hS
  unfold mx_i2l at h
  split at h
  · exact lv_i2l hx hb hdg rfl (hk _ _ _ _ h ls H locs hl hP hD hS)
  · exact h.elim
def mx_l2i {σ : Type} (pc : Nat) : mx_TG σ := fun L st u K Rr => match st with
  | .inr (.inl x) :: r => K (pc + 1) L (.inl x.toInt32 :: r) u
  | _ => False
theorem mx_ok_l2i (hdg : decode cc pc = .ok (.l2i, 1)) : mx_OkG wd nc G l R cc nL own ret Ts cl pc (mx_l2i pc) := by
  intro p e s m args below meth c D cA ad cells slots Qf ⟨hx, hb, hml, hown, hts, hK, hcs, hG0⟩ Rr hE L st u K h hk ls H locs hl hP hD hS
  unfold mx_l2i at h
  split at h
  · exact lv_l2i hx hb hdg rfl (hk _ _ _ _ h ls H locs hl hP hD hS)
  · exact h.elim
def mx_dup {σ : Type} (pc : Nat) : mx_TG σ := fun L st u K Rr => match st with
  | .inl x :: r => K (pc + 1) L (.inl x :: .inl x :: r) u
  | .inr (.inr x) :: r => K (pc + 1) L (.inr (.inr x) :: .inr (.inr x) :: r) u
  | _ => False
theorem mx_ok_dup (hdg : decode cc pc = .ok (.dup, 1)) : mx_OkG wd nc G l R cc nL own ret Ts cl pc (mx_dup pc) := by
  intro p e s m args below meth c D cA ad cells slots Qf ⟨hx, hb, hml, hown, hts, hK, hcs, hG0⟩ Rr hE L st u K h hk ls H locs hl hP hD hS
  unfold mx_dup at h
  split at h
  · exact lv_dup hx hb hdg rfl (hk _ _ _ _ h ls H locs hl hP hD hS)
  · exact lv_dup hx hb hdg rfl (hk _ _ _ _ h ls H locs hl hP hD hS)
  · exact h.elim
def mx_dup2 {σ : Type} (pc : Nat) : mx_TG σ := fun L st u K Rr => match st with
  | .inl x :: .inr (.inr y) :: r => K (pc + 1) L (.inl x :: .inr (.inr y) :: .inl x :: .inr (.inr y) :: r) u
  | _ => False
theorem mx_ok_dup2 (hdg : decode cc pc = .ok (.dup2, 1)) : mx_OkG wd nc G l R cc nL own ret Ts cl pc (mx_dup2 pc) := by
  intro p e s m args below meth c D cA ad cells slots Qf ⟨hx, hb, hml, hown, hts, hK, hcs, hG0⟩ Rr hE L st u K h hk ls H locs hl hP hD hS
  unfold mx_dup2 at h
  split at h
  · exact lv_dup2_11 hx hb hdg rfl rfl (hk _ _ _ _ h ls H locs hl hP hD hS)
  · exact h.elim
def mx_pop {σ : Type} (pc : Nat) : mx_TG σ := fun L st u K Rr => match st with
  | .inl x :: r => K (pc + 1) L r u
  | _ => False
theorem mx_ok_pop (hdg : decode cc pc = .ok (.pop, 1)) : mx_OkG wd nc G l R cc nL own ret Ts cl pc (mx_pop pc) := by
  intro p e s m args below meth c D cA ad cells slots Qf ⟨hx, hb, hml, hown, hts, hK, hcs, hG0⟩ Rr hE L st u K h hk ls H locs hl hP hD hS
  unfold mx_pop at h
  split at h
  · exact lv_pop hx hb hdg rfl (hk _ _ _ _ h ls H locs hl hP hD hS)
  · exact h.elim
def mx_if_eq {σ : Type} (tgt : Nat) (pc : Nat) : mx_TG σ := fun L st u K Rr => match st with
  | .inl x :: r => (x = 0 → K tgt L r u) ∧ (¬ x = 0 → K (pc + 3) L r u)
  | _ => False
theorem mx_ok_if_eq {off : Int} {tgt : Nat} (hdg : decode cc pc = .ok (.ifCond .eq off, 3)) (ht : (pc : Int) + off = (tgt : Int)) : mx_OkG wd nc G l R cc nL own ret Ts cl pc (mx_if_eq tgt pc) := by
  intro p e s m args below meth c D cA ad cells slots Qf ⟨hx, hb, hml, hown, hts, hK, hcs, hG0⟩ Rr hE L st u K h hk ls H locs hl hP hD hS
  unfold mx_if_eq at h
  split at h
  · exact lv_if_eq hx hb hdg ht (fun q => hk _ _ _ _ (h.1 q) ls H locs hl hP hD hS) (fun q => hk _ _ _ _ (h.2 q) ls H locs hl hP hD hS)
  · exact h.elim
def mx_icmp_eq {σ : Type} (tgt : Nat) (pc : Nat) : mx_TG σ := fun L st u K Rr => match st with
  | .inl y :: .inl x :: r => (x = y → K tgt L r u) ∧ (¬ x = y → K (pc + 3) L r u)
  | _ => False
theorem mx_ok_icmp_eq {off : Int} {tgt : Nat} (hdg : decode cc pc = .ok (.if_icmp .eq off, 3)) (ht : (pc : Int) + off = (tgt : Int)) : mx_OkG wd nc G l R cc nL own ret Ts cl pc (mx_icmp_eq tgt pc) := by
  intro p e s m args below meth c D cA ad cells slots Qf ⟨hx, hb, hml, hown, hts, hK, hcs, hG0⟩ Rr hE L st u K h hk ls H locs hl hP hD hS
  unfold mx_icmp_eq at h
  split at h
  · exact lv_icmp_eq hx hb hdg ht (fun q => hk _ _ _ _ (h.1 q) ls H locs hl hP hD hS) (fun q => hk _ _ _ _ (h.2 q) ls H locs hl hP hD hS)
  · exact h.elim
def mx_if_ne {σ : Type} (tgt : Nat) (pc : Nat) : mx_TG σ := fun L st u K Rr => match st with
  | .inl x :: r => (¬ x = 0 → K tgt L r u) ∧ (x = 0 → K (pc + 3) L r u)
  | _ => False
theorem mx_ok_if_ne {off : Int} {tgt : Nat} (hdg : decode cc pc = .ok (.ifCond .ne off, 3)) (ht : (pc : Int) + off = (tgt : Int)) : mx_OkG wd nc G l R cc nL own ret Ts cl pc (mx_if_ne tgt pc) := by
  intro p e s m args below meth c D cA ad cells slots Qf ⟨hx, hb, hml, hown, hts, hK, hcs, hG0⟩ Rr hE L st u K h hk ls H locs hl hP hD hS
  unfold mx_if_ne at h
  split at h
  · exact lv_if_ne hx hb hdg ht (fun q => hk _ _ _ _ (h.1 q) ls H locs hl hP hD hS) (fun q => hk _ _ _ _ (h.2 q) ls H locs hl hP hD hS)
  · exact h.elim
def mx_icmp_ne {σ : Type} (tgt : Nat) (pc : Nat) : mx_TG σ := fun L st u K Rr => match st with
  | .inl y :: .inl x :: r => (¬ x = y → K tgt L r u) ∧ (x = y → K (pc + 3) L r u)
  | _ => False
theorem mx_ok_icmp_ne {off : Int} {tgt : Nat} (hdg : decode cc pc = .ok (.if_icmp .ne off, 3)) (ht : (pc : Int) + off = (tgt : Int)) : mx_OkG wd nc G l R cc nL own ret Ts cl pc (mx_icmp_ne tgt pc) := by
  intro p e s m args below meth c D cA ad cells slots Qf ⟨hx, hb, hml, hown, hts, hK, hcs, hG0⟩ Rr hE L st u K h hk ls H locs hl hP hD hS
  unfold mx_icmp_ne at h
  split at h
  · exact lv_icmp_ne hx hb hdg ht (fun q => hk _ _ _ _ (h.1 q) ls H locs hl hP hD hS) (fun q => hk _ _ _ _ (h.2 q) ls H locs hl hP hD hS)
  · exact h.elim
def mx_if_lt {σ : Type} (tgt : Nat) (pc : Nat) : mx_TG σ := fun L st u K Rr => match st with
  | .inl x :: r => (x < 0 → K tgt L r u) ∧ (¬ x < 0 → K (pc + 3) L r u)
  | _ => False
theorem mx_ok_if_lt {off : Int} {tgt : Nat} (hdg : decode cc pc = .ok (.ifCond .lt off, 3)) (ht : (pc : Int) + off = (tgt : Int)) : mx_OkG wd nc G l R cc nL own ret Ts cl pc (mx_if_lt tgt pc) := by
  intro p e s m args below meth c D cA ad cells slots Qf ⟨hx, hb, hml, hown, hts, hK, hcs, hG0⟩ Rr hE L st u K h hk ls H locs hl hP hD hS
  unfold mx_if_lt at h
  split at h
  · exact lv_if_lt hx hb hdg ht (fun q => hk _ _ _ _ (h.1 q) ls H locs hl hP hD hS) (fun q => hk _ _ _ _ (h.2 q) ls H locs hl hP hD hS)
  · exact h.elim
def mx_icmp_lt {σ : Type} (tgt : Nat) (pc : Nat) : mx_TG σ := fun L st u K Rr => match st with
  | .inl y :: .inl x :: r => (x < y → K tgt L r u) ∧ (¬ x < y → K (pc + 3) L r u)
  | _ => False
theorem mx_ok_icmp_lt {off : Int} {tgt : Nat} (hdg : decode cc pc = .ok (.if_icmp .lt off, 3)) (ht : (pc : Int) + off = (tgt : Int)) : mx_OkG wd nc G l R cc nL own ret Ts cl pc (mx_icmp_lt tgt pc) := by
  intro p e s m args below meth c D cA ad cells slots Qf ⟨hx, hb, hml, hown, hts, hK, hcs, hG0⟩ Rr hE L st u K h hk ls H locs hl hP hD hS
  unfold mx_icmp_lt at h
  split at h
  · exact lv_icmp_lt hx hb hdg ht (fun q => hk _ _ _ _ (h.1 q) ls H locs hl hP hD hS) (fun q => hk _ _ _ _ (h.2 q) ls H locs hl hP hD hS)
  · exact h.elim
def mx_if_ge {σ : Type} (tgt : Nat) (pc : Nat) : mx_TG σ := fun L st u K Rr => match st with
  | .inl x :: r => (0 ≤ x → K tgt L r u) ∧ (¬ 0 ≤ x → K (pc + 3) L r u)
  | _ => False
theorem mx_ok_if_ge {off : Int} {tgt : Nat} (hdg : decode cc pc = .ok (.ifCond .ge off, 3)) (ht : (pc : Int) + off = (tgt : Int)) : mx_OkG wd nc G l R cc nL own ret Ts cl pc (mx_if_ge tgt pc) := by
  intro p e s m args below meth c D cA ad cells slots Qf ⟨hx, hb, hml, hown, hts, hK, hcs, hG0⟩ Rr hE L st u K h hk ls H locs hl hP hD hS
  unfold mx_if_ge at h
  split at h
  · exact lv_if_ge hx hb hdg ht (fun q => hk _ _ _ _ (h.1 q) ls H locs hl hP hD hS) (fun q => hk _ _ _ _ (h.2 q) ls H locs hl hP hD hS)
  · exact h.elim
def mx_icmp_ge {σ : Type} (tgt : Nat) (pc : Nat) : mx_TG σ := fun L st u K Rr => match st with
  | .inl y :: .inl x :: r => (y ≤ x → K tgt L r u) ∧ (¬ y ≤ x → K (pc + 3) L r u)
  | _ => False
theorem mx_ok_icmp_ge {off : Int} {tgt : Nat} (hdg : decode cc pc = .ok (.if_icmp .ge off, 3)) (ht : (pc : Int) + off = (tgt : Int)) : mx_OkG wd nc G l R cc nL own ret Ts cl pc (mx_icmp_ge tgt pc) := by
  intro p e s m args below meth c D cA ad cells slots Qf ⟨hx, hb, hml, hown, hts, hK, hcs, hG0⟩ Rr hE L st u K h hk ls H locs hl hP hD hS
  unfold mx_icmp_ge at h
  split at h
  · exact lv_icmp_ge hx hb hdg ht (fun q => hk _ _ _ _ (h.1 q) ls H locs hl hP hD hS) (fun q => hk _ _ _ _ (h.2 q) ls H locs hl hP hD hS)
  · exact h.elim
def mx_if_gt {σ : Type} (tgt : Nat) (pc : Nat) : mx_TG σ := fun L st u K Rr => match st with
  | .inl x :: r => (0 < x → K tgt L r u) ∧ (¬ 0 < x → K (pc + 3) L r u)
  | _ => False
theorem mx_ok_if_gt {off : Int} {tgt : Nat} (hdg : decode cc pc = .ok (.ifCond .gt off, 3)) (ht : (pc : Int) + off = (tgt : Int)) : mx_OkG wd nc G l R cc nL own ret Ts cl pc (mx_if_gt tgt pc) := by
  intro p e s m args below meth c D cA ad cells slots Qf ⟨hx, hb, hml, hown, hts, hK, hcs, hG0⟩ Rr hE L st u K h hk ls H locs hl hP hD hS
  unfold mx_if_gt at h
  split at h
  · exact lv_if_gt hx hb hdg ht (fun q => hk _ _ _ _ (h.1 q) ls H locs hl hP hD hS) (fun q => hk _ _ _ _ (h.2 q) ls H locs hl hP hD hS)
  · exact h.elim
def mx_icmp_gt {σ : Type} (tgt : Nat) (pc : Nat) : mx_TG σ := fun L st u K Rr => match st with
  | .inl y :: .inl x :: r => (y < x → K tgt L r u) ∧ (¬ y < x → K (pc + 3) L r u)
  | _ => False
theorem mx_ok_icmp_gt {off : Int} {tgt : Nat} (hdg : decode cc pc = .ok (.if_icmp .gt off, 3)) (ht : (pc : Int) + off = (tgt : Int)) : mx_OkG wd nc G l R cc nL own ret Ts cl pc (mx_icmp_gt tgt pc) := by
  intro p e s m args below meth c D cA ad cells slots Qf ⟨hx, hb, hml, hown, hts, hK, hcs, hG0⟩ Rr hE L st u K h hk ls H locs hl hP hD hS
  unfold mx_icmp_gt at h
  split at h
  · exact lv_icmp_gt hx hb hdg ht (fun q => hk _ _ _ _ (h.1 q) ls H locs hl hP hD hS) (fun q => hk _ _ _ _ (h.2 q) ls H locs hl hP hD hS)
  · exact h.elim
def mx_if_le {σ : Type} (tgt : Nat) (pc : Nat) : mx_TG σ := fun L st u K Rr => match st with
  | .inl x :: r => (x ≤ 0 → K tgt L r u) ∧ (¬ x ≤ 0 → K (pc + 3) L r u)
  | _ => False
theorem mx_ok_if_le {off : Int} {tgt : Nat} (hdg : decode cc pc = .ok (.ifCond .le off, 3)) (ht : (pc : Int) + off = (tgt : Int)) : mx_OkG wd nc G l R cc nL own ret Ts cl pc (mx_if_le tgt pc) := by
  intro p e s m args below meth c D cA ad cells slots Qf ⟨hx, hb, hml, hown, hts, hK, hcs, hG0⟩ Rr hE L st u K h hk ls H locs hl hP hD hS
  unfold mx_if_le at h
  split at h
  · exact lv_if_le hx hb hdg ht (fun q => hk _ _ _ _ (h.1 q) ls H locs hl hP hD hS) (fun q => hk _ _ _ _ (h.2 q) ls H locs hl hP hD hS)
  · exact h.elim
def mx_icmp_le {σ : Type} (tgt : Nat) (pc : Nat) : mx_TG σ := fun L st u K Rr => match st with
  | .inl y :: .inl x :: r => (x ≤ y → K tgt L r u) ∧ (¬ x ≤ y → K (pc + 3) L r u)
  | _ => False
theorem mx_ok_icmp_le {off : Int} {tgt : Nat} (hdg : decode cc pc = .ok (.if_icmp .le off, 3)) (ht : (pc : Int) + off = (tgt : Int)) : mx_OkG wd nc G l R cc nL own ret Ts cl pc (mx_icmp_le tgt pc) := by
  intro p e s m args below meth c D cA ad cells slots Qf ⟨hx, hb, hml, hown, hts, hK, hcs, hG0⟩ Rr hE L st u K h hk ls H locs hl hP hD hS
  unfold mx_icmp_le at h
  split at h
  · exact lv_icmp_le hx hb hdg ht (fun q => hk _ _ _ _ (h.1 q) ls H locs hl hP hD hS) (fun q => hk _ _ _ _ (h.2 q) ls H locs hl hP hD hS)
  · exact h.elim
def mx_goto {σ : Type} (tgt : Nat) (pc : Nat) : mx_TG σ := fun L st u K Rr => K tgt L st u
theorem mx_ok_goto {off : Int} {tgt : Nat} (hdg : decode cc pc = .ok (.goto off, 3)) (ht : (pc : Int) + off = (tgt : Int)) : mx_OkG wd nc G l R cc nL own ret Ts cl pc (mx_goto tgt pc) := by
  intro p e s m args below meth c D cA ad cells slots Qf ⟨hx, hb, hml, hown, hts, hK, hcs, hG0⟩ Rr hE L st u K h hk ls H locs hl hP hD hS
  exact lv_goto hx hb hdg ht (hk _ _ _ _ h ls H locs hl hP hD hS)
def mx_swT (x : Int32) (K : Nat → Prop) (df : Nat) : List (Int32 × Nat) → Prop
  | [] => K df
  | q :: r => (x = q.1 → K q.2) ∧ (¬ x = q.1 → mx_swT x K df r)
theorem mx_sw_hit {x : Int32} {K : Nat → Prop} {df : Nat} : ∀ {l : List (Int32 × Nat)}, mx_swT x K df l → (∃ (i : Nat) (q : Int32 × Nat), l[i]? = some q ∧ x = q.1 ∧ K q.2) ∨ ((∀ q ∈ l, ¬ x = q.1) ∧ K df)
  | [], h => Or.inr ⟨fun q hq => (List.not_mem_nil hq).elim, h⟩
  | q :: r, h => by
    by_cases hq : x = q.1
    · exact Or.inl ⟨0, q, rfl, hq, h.1 hq⟩
    · rcases mx_sw_hit (h.2 hq) with ⟨i, q2, h1, h2, h3⟩ | ⟨h1, h2⟩
      · exact Or.inl ⟨i + 1, q2, by simpa using h1, h2, h3⟩
      · refine Or.inr ⟨fun q2 h3 => ?_, h2⟩
        rcases List.mem_cons.mp h3 with rfl | h4
        · exact hq
        · exact h1 q2 h4
def mx_tck (pc : Nat) (lo hi : Int) (offs : Array Int) (l : List (Int32 × Nat)) : Bool :=
  decide ((l.length : Int) = hi - lo + 1) && (List.range l.length).all (fun i => match l[i]?, offs[i]? with
    | some q, some o => decide (q.1.toInt = lo + i) && decide ((pc : Int) + o = (q.2 : Int))
    | _, _ => false)
theorem mx_tck_at {pc : Nat} {lo hi : Int} {offs : Array Int} {l : List (Int32 × Nat)} (h : mx_tck pc lo hi offs l = true) {i : Nat} {q : Int32 × Nat} (hq : l[i]? = some q) : q.1.toInt = lo + i ∧ ∃ o, offs[i]? = some o ∧ (pc : Int) + o = (q.2 : Int) := by
  unfold mx_tck at h
  rw [Bool.and_eq_true] at h
  have hl := (List.getElem?_eq_some_iff.mp hq).1
  have h1 := List.all_eq_true.mp h.2 i (List.mem_range.mpr hl)
  rw [hq] at h1
  cases ho : offs[i]? with
  | none => rw [ho] at h1; simp at h1
  | some o =>
    rw [ho] at h1
    simp only [Bool.and_eq_true, decide_eq_true_eq] at h1
    exact ⟨h1.1, o, rfl, h1.2⟩

def mx_tsw {σ : Type} (df : Nat) (l : List (Int32 × Nat)) (pc : Nat) : mx_TG σ := fun L st u K Rr => match st with
  | .inl x :: r => mx_swT x (fun t => K t L r u) df l
  | _ => False
theorem mx_ok_tsw {dflt lo hi : Int} {offs : Array Int} {len df : Nat} {l0 : List (Int32 × Nat)} (hdg : decode cc pc = .ok (.tableswitch dflt lo hi offs, len)) (hd : (pc : Int) + dflt = (df : Int)) (hc : mx_tck pc lo hi offs l0 = true) : mx_OkG wd nc G l R cc nL own ret Ts cl pc (mx_tsw df l0 pc) := by
  intro p e s m args below meth c D cA ad cells slots Qf ⟨hx, hb, hml, hown, hts, hK, hcs, hG0⟩ Rr hE L st u K h hk ls H locs hl hP hD hS
  unfold mx_tsw at h
  split at h
  · rename_i x r
    have hlen : ((l0.length : Nat) : Int) = hi - lo + 1 := by
      unfold mx_tck at hc
      rw [Bool.and_eq_true] at hc
      exact of_decide_eq_true hc.1
    rcases mx_sw_hit h with ⟨i, q, h1, h2, h3⟩ | ⟨h1, h2⟩
    · obtain ⟨e1, o, e2, e3⟩ := mx_tck_at hc h1
      have hl1 := (List.getElem?_eq_some_iff.mp h1).1
      have hxi : x.toInt = lo + i := by rw [h2]; exact e1
      exact lv_tableIn hx hb hdg (by omega) (by omega) (by rw [show (x.toInt - lo).toNat = i by omega]; exact e2) e3 (hk _ _ _ _ h3 ls H locs hl hP hD hS)
    · refine lv_tableOut hx hb hdg ?_ hd (hk _ _ _ _ h2 ls H locs hl hP hD hS)
      by_cases g1 : x.toInt < lo
      · exact Or.inl g1
      · by_cases g2 : hi < x.toInt
        · exact Or.inr g2
        · exfalso
          have hlt : (x.toInt - lo).toNat < l0.length := by omega
          have e0 := List.getElem?_eq_getElem hlt
          obtain ⟨e1, -⟩ := mx_tck_at hc e0
          exact h1 _ (List.getElem_mem hlt) (Int32.toInt_inj.mp (by rw [e1]; omega))
  · exact h.elim
def mx_lck (pc : Nat) : List (Int × Int) → List (Int32 × Nat) → Bool
  | [], [] => true
  | a :: r, q :: t => decide (q.1.toInt = a.1) && decide ((pc : Int) + a.2 = (q.2 : Int)) && mx_lck pc r t
  | _, _ => false
theorem mx_lsw {x : Int32} {K : Nat → Prop} {df pc : Nat} {dflt : Int} (hd : (pc : Int) + dflt = (df : Int)) : ∀ {ps : List (Int × Int)} {l : List (Int32 × Nat)}, mx_lck pc ps l = true → mx_swT x K df l → ∃ (tgt : Nat), (pc : Int) + Op.lookupswitch.offset ps dflt x.toInt = (tgt : Int) ∧ K tgt
  | [], [], _, h => ⟨df, hd, h⟩
  | a :: r, q :: t, hc, h => by
    simp only [mx_lck, Bool.and_eq_true, decide_eq_true_eq] at hc
    by_cases hq : x = q.1
    · refine ⟨q.2, ?_, h.1 hq⟩
      rw [hq, Op.lookupswitch.offset_cons, if_pos hc.1.1.symm]
      exact hc.1.2
    · obtain ⟨tgt, h1, h2⟩ := mx_lsw hd hc.2 (h.2 hq)
      refine ⟨tgt, ?_, h2⟩
      rw [lv_osw hq hc.1.1]
      exact h1
  | [], _ :: _, hc, _ => by simp [mx_lck] at hc
  | _ :: _, [], hc, _ => by simp [mx_lck] at hc

def mx_lsw0 {σ : Type} (df : Nat) (l : List (Int32 × Nat)) (pc : Nat) : mx_TG σ := fun L st u K Rr => match st with
  | .inl x :: r => mx_swT x (fun t => K t L r u) df l
  | _ => False
theorem mx_ok_lsw0 {dflt : Int} {ps : Array (Int × Int)} {len df : Nat} {l0 : List (Int32 × Nat)} (hdg : decode cc pc = .ok (.lookupswitch dflt ps, len)) (hs : (ps.toList.zip (ps.toList.drop 1)).all (fun (a, next) => a.1 < next.1) = true) (hd : (pc : Int) + dflt = (df : Int)) (hc : mx_lck pc ps.toList l0 = true) : mx_OkG wd nc G l R cc nL own ret Ts cl pc (mx_lsw0 df l0 pc) := by
  intro p e s m args below meth c D cA ad cells slots Qf ⟨hx, hb, hml, hown, hts, hK, hcs, hG0⟩ Rr hE L st u K h hk ls H locs hl hP hD hS
  unfold mx_lsw0 at h
  split at h
  · rename_i x r
    obtain ⟨tgt, h1, h2⟩ := mx_lsw hd hc h
    exact lv_lookup hx hb hdg hs rfl h1 (hk _ _ _ _ h2 ls H locs hl hP hD hS)
  · exact h.elim
def mx_slot (sk : mx_K) (k ci j : Nat) : Option (Option Nat) := match sk[k]? with
  | some (.inl q) => bif Nat.beq q.1 ci then q.2[j]? else none
  | _ => none
theorem mx_slot_at {sk : mx_K} {k ci j : Nat} {o : Option Nat} (h : mx_slot sk k ci j = some o) : ∃ fs : List (Option Nat), sk[k]? = some (.inl (ci, fs)) ∧ fs[j]? = some o := by
  unfold mx_slot at h
  split at h
  · rename_i q hq
    cases hb : Nat.beq q.1 ci with
    | true =>
      rw [hb] at h
      have e := Nat.eq_of_beq_eq_true hb
      obtain ⟨a, fs⟩ := q
      dsimp only at e
      subst e
      exact ⟨fs, hq, h⟩
    | false => rw [hb] at h; cases h
  · cases h
def mx_len (sk : mx_K) (k : Nat) : Option Nat := match sk[k]? with
  | some (.inr n) => some n
  | _ => none
theorem mx_len_at {sk : mx_K} {k n : Nat} (h : mx_len sk k = some n) : sk[k]? = some (.inr n) := by
  unfold mx_len at h
  split at h
  · rename_i q hq
    rw [hq, Option.some.inj h]
  · cases h
/-- what the tables say of a field: class ci of the list, place j, pool number -/
def mx_Fd (Ts : List Cond) (cl : List vw_C) (own : String) (ci j index : Nat) : Prop := ∃ (C : String) (T : u_T) (N : Nat), cl[ci]? = some (C, T, N) ∧ j < N ∧ (∀ w ∈ u_ws C T N, w ∈ Ts) ∧ Cond.fieldLink own index (T j).1 (T j).2.1 (T j).2.2.1 ∈ Ts
/-- and for a write of it: its type, not final, the class's names apart -/
def mx_Fw (cl : List vw_C) (ci j : Nat) (ty : FieldType) : Prop := ∃ (C : String) (T : u_T) (N : Nat) (ty0 : Nat → FieldType), cl[ci]? = some (C, T, N) ∧ (∀ k, k < N → parseFieldDescriptor (T k).2.2.1 = some (ty0 k)) ∧ (∀ a, a < N → ∀ b, b < N → a ≠ b → (T a).2.1 ≠ (T b).2.1) ∧ (T j).2.2.2 = false ∧ parseFieldDescriptor (T j).2.2.1 = some ty

def mx_getf (sk : mx_K) (ci j : Nat) (pc : Nat) : mx_T := fun L st u K Rr => match st with
  | .inr (.inr k) :: r => match mx_slot sk k ci j with
    | some (some k') => K (pc + 3) L (.inr (.inr k') :: r) u
    | some none => K (pc + 3) L (.inl (mx_gf u k j) :: r) u
    | none => False
  | _ => False
theorem mx_ok_getf {ci j index : Nat} (hF : mx_Fd Ts cl own ci j index) (hdg : decode cc pc = .ok (.getfield index, 3)) : mx_OkG (mx_wd sk) sk.length G l R cc nL own ret Ts cl pc (mx_getf sk ci j pc) := by
  intro p e s m args below meth c D cA ad cells slots Qf ⟨hx, hb, hml, hown, hts, hK, hcs, hG0⟩ Rr hE L st u K h hk ls H locs hl hP hD hS
  have hP : va_P D cl (mx_w ad cA u 0 sk) H := hP
  have hD : va_D (mx_A ad sk.length s.heap.size) (mx_w ad cA u 0 sk) := hD
  obtain ⟨C, T, N, hc, hj, hin, hln⟩ := hF
  unfold mx_getf at h
  split at h
  · rename_i k r
    split at h
    · rename_i k' hsl
      obtain ⟨fs, h1, h2⟩ := mx_slot_at hsl
      exact va_get hx hb hts hin hown hK hP k (mx_w_at ad cA u sk h1) hc j hj (hts _ hln) (fun _ h9 => h9) (mx_fs_ref ad _ fs 0 j k' h2) hdg (hk _ _ _ _ h ls H locs hl hP hD hS)
    · rename_i hsl
      obtain ⟨fs, h1, h2⟩ := mx_slot_at hsl
      exact va_get hx hb hts hin hown hK hP k (mx_w_at ad cA u sk h1) hc j hj (hts _ hln) (fun _ h9 => h9) (v := .int (mx_gf u k j)) ((mx_fs_int ad _ fs 0 j h2).trans (by rw [Nat.zero_add]; rfl)) hdg (hk _ _ _ _ h ls H locs hl hP hD hS)
    · exact h.elim
  · exact h.elim
def mx_putf (sk : mx_K) (ci j : Nat) (pc : Nat) : mx_T := fun L st u K Rr => match st with
  | .inl v :: .inr (.inr k) :: r => mx_slot sk k ci j = some none ∧ K (pc + 3) L r (mx_sf u k j v)
  | _ => False
theorem mx_ok_putf {ci j index : Nat} (hF : mx_Fd Ts cl own ci j index) (hw : mx_Fw cl ci j .int) (hdg : decode cc pc = .ok (.putfield index, 3)) : mx_OkG (mx_wd sk) sk.length G l R cc nL own ret Ts cl pc (mx_putf sk ci j pc) := by
  intro p e s m args below meth c D cA ad cells slots Qf ⟨hx, hb, hml, hown, hts, hK, hcs, hG0⟩ Rr hE L st u K h hk ls H locs hl hP hD hS
  have hP : va_P D cl (mx_w ad cA u 0 sk) H := hP
  have hD : va_D (mx_A ad sk.length s.heap.size) (mx_w ad cA u 0 sk) := hD
  obtain ⟨C, T, N, hc, hj, hin, hln⟩ := hF
  obtain ⟨C', T', N', ty0, hc', hty, hnm, hfin, hd⟩ := hw
  rw [hc] at hc'
  cases hc'
  unfold mx_putf at h
  split at h
  · rename_i v k r
    obtain ⟨fs, h1, h2⟩ := mx_slot_at h.1
    have hlj := (List.getElem?_eq_some_iff.mp h2).1
    refine va_put hx hb hts hin ty0 hty hnm hown hK hP hD hS k (mx_w_at ad cA u sk h1) hc j hj (hts _ hln) (fun _ h9 => h9) hfin (v := .int v) hd rfl rfl (by rw [mx_fs_len]; exact hlj) hdg (fun H1 locs1 hP1 hD1 hS1 => ?_)
    have e := mx_w_sf ad cA u sk v h1 h2
    exact hk _ _ _ _ h.2 ls H1 locs1 hl (show va_P D cl (mx_w ad cA (mx_sf u k j v) 0 sk) H1 by rw [← e]; exact hP1) (show va_D _ (mx_w ad cA (mx_sf u k j v) 0 sk) by rw [← e]; exact hD1) hS1
  · exact h.elim
def mx_putz (sk : mx_K) (ci j : Nat) (pc : Nat) : mx_T := fun L st u K Rr => match st with
  | .inl v :: .inr (.inr k) :: r => mx_slot sk k ci j = some none ∧ (v = 0 ∨ v = 1) ∧ K (pc + 3) L r (mx_sf u k j v)
  | _ => False
theorem mx_ok_putz {ci j index : Nat} (hF : mx_Fd Ts cl own ci j index) (hw : mx_Fw cl ci j .boolean) (hdg : decode cc pc = .ok (.putfield index, 3)) : mx_OkG (mx_wd sk) sk.length G l R cc nL own ret Ts cl pc (mx_putz sk ci j pc) := by
  intro p e s m args below meth c D cA ad cells slots Qf ⟨hx, hb, hml, hown, hts, hK, hcs, hG0⟩ Rr hE L st u K h hk ls H locs hl hP hD hS
  have hP : va_P D cl (mx_w ad cA u 0 sk) H := hP
  have hD : va_D (mx_A ad sk.length s.heap.size) (mx_w ad cA u 0 sk) := hD
  obtain ⟨C, T, N, hc, hj, hin, hln⟩ := hF
  obtain ⟨C', T', N', ty0, hc', hty, hnm, hfin, hd⟩ := hw
  rw [hc] at hc'
  cases hc'
  unfold mx_putz at h
  split at h
  · rename_i v k r
    obtain ⟨fs, h1, h2⟩ := mx_slot_at h.1
    have hlj := (List.getElem?_eq_some_iff.mp h2).1
    refine va_put hx hb hts hin ty0 hty hnm hown hK hP hD hS k (mx_w_at ad cA u sk h1) hc j hj (hts _ hln) (fun _ h9 => h9) hfin (v := .int v) hd (by rcases h.2.1 with e | e <;> rw [e] <;> rfl) (by rcases h.2.1 with e | e <;> rw [e] <;> rfl) (by rw [mx_fs_len]; exact hlj) hdg (fun H1 locs1 hP1 hD1 hS1 => ?_)
    have e := mx_w_sf ad cA u sk v h1 h2
    exact hk _ _ _ _ h.2.2 ls H1 locs1 hl (show va_P D cl (mx_w ad cA (mx_sf u k j v) 0 sk) H1 by rw [← e]; exact hP1) (show va_D _ (mx_w ad cA (mx_sf u k j v) 0 sk) by rw [← e]; exact hD1) hS1
  · exact h.elim
def mx_iald (sk : mx_K) (pc : Nat) : mx_T := fun L st u K Rr => match st with
  | .inl i :: .inr (.inr k) :: r => match mx_len sk k with
    | some n => vp_in i n ∧ K (pc + 1) L (.inl (mx_ga u k i.toNatClampNeg) :: r) u
    | none => False
  | _ => False
theorem mx_ok_iald (hdg : decode cc pc = .ok (.iaload, 1)) : mx_OkG (mx_wd sk) sk.length G l R cc nL own ret Ts cl pc (mx_iald sk pc) := by
  intro p e s m args below meth c D cA ad cells slots Qf ⟨hx, hb, hml, hown, hts, hK, hcs, hG0⟩ Rr hE L st u K h hk ls H locs hl hP hD hS
  have hP : va_P D cl (mx_w ad cA u 0 sk) H := hP
  have hD : va_D (mx_A ad sk.length s.heap.size) (mx_w ad cA u 0 sk) := hD
  unfold mx_iald at h
  split at h
  · rename_i i k r
    split at h
    · rename_i n hn
      exact va_iald hx hb hK hP k 0 (mx_w_at ad cA u sk (mx_len_at hn)) rfl h.1 hdg (hk _ _ _ _ h.2 ls H locs hl hP hD hS)
    · exact h.elim
  · exact h.elim
def mx_iast (sk : mx_K) (pc : Nat) : mx_T := fun L st u K Rr => match st with
  | .inl x :: .inl i :: .inr (.inr k) :: r => match mx_len sk k with
    | some n => vp_in i n ∧ K (pc + 1) L r (mx_sa u k i.toNatClampNeg x)
    | none => False
  | _ => False
theorem mx_ok_iast (hdg : decode cc pc = .ok (.iastore, 1)) : mx_OkG (mx_wd sk) sk.length G l R cc nL own ret Ts cl pc (mx_iast sk pc) := by
  intro p e s m args below meth c D cA ad cells slots Qf ⟨hx, hb, hml, hown, hts, hK, hcs, hG0⟩ Rr hE L st u K h hk ls H locs hl hP hD hS
  have hP : va_P D cl (mx_w ad cA u 0 sk) H := hP
  have hD : va_D (mx_A ad sk.length s.heap.size) (mx_w ad cA u 0 sk) := hD
  unfold mx_iast at h
  split at h
  · rename_i x i k r
    split at h
    · rename_i n hn
      refine va_iast hx hb hK hP hD hS k 0 (mx_w_at ad cA u sk (mx_len_at hn)) rfl h.1 hdg (fun H1 locs1 hP1 hD1 hS1 => ?_)
      have e := mx_w_sa ad cA u sk (i := i.toNatClampNeg) x (mx_len_at hn)
      exact hk _ _ _ _ h.2 ls H1 locs1 hl (show va_P D cl (mx_w ad cA (mx_sa u k i.toNatClampNeg x) 0 sk) H1 by rw [← e]; exact hP1) (show va_D _ (mx_w ad cA (mx_sa u k i.toNatClampNeg x) 0 sk) by rw [← e]; exact hD1) hS1
    · exact h.elim
  · exact h.elim
def mx_alen (sk : mx_K) (pc : Nat) : mx_T := fun L st u K Rr => match st with
  | .inr (.inr k) :: r => match mx_len sk k with
    | some n => K (pc + 1) L (.inl (nI n) :: r) u
    | none => False
  | _ => False
theorem mx_ok_alen (hdg : decode cc pc = .ok (.arraylength, 1)) : mx_OkG (mx_wd sk) sk.length G l R cc nL own ret Ts cl pc (mx_alen sk pc) := by
  intro p e s m args below meth c D cA ad cells slots Qf ⟨hx, hb, hml, hown, hts, hK, hcs, hG0⟩ Rr hE L st u K h hk ls H locs hl hP hD hS
  have hP : va_P D cl (mx_w ad cA u 0 sk) H := hP
  have hD : va_D (mx_A ad sk.length s.heap.size) (mx_w ad cA u 0 sk) := hD
  unfold mx_alen at h
  split at h
  · rename_i k r
    split at h
    · rename_i n hn
      exact va_alen hx hb hK hP k 0 (mx_w_at ad cA u sk (mx_len_at hn)) rfl rfl hdg (hk _ _ _ _ h ls H locs hl hP hD hS)
    · exact h.elim
  · exact h.elim
def mx_iret {σ : Type} (pc : Nat) : mx_TG σ := fun L st u K Rr => match st with
  | [.inl v] => Rr (some (.inl v)) u
  | _ => False
theorem mx_ok_iret (hdg : decode cc pc = .ok (.ireturn, 1)) (hrt : ret = some .int) : mx_OkG wd nc G l R cc nL own ret Ts cl pc (mx_iret pc) := by
  intro p e s m args below meth c D cA ad cells slots Qf ⟨hx, hb, hml, hown, hts, hK, hcs, hG0⟩ Rr hE L st u K h hk ls H locs hl hP hD hS
  unfold mx_iret at h
  split at h
  · rename_i v
    exact hE pc (some (.inl v)) u ls H locs (Or.inl ⟨hdg, v, rfl, Or.inl hrt⟩) h hP hS
  · exact h.elim
def mx_zret {σ : Type} (pc : Nat) : mx_TG σ := fun L st u K Rr => match st with
  | [.inl v] => (v = 0 ∨ v = 1) ∧ Rr (some (.inl v)) u
  | _ => False
theorem mx_ok_zret (hdg : decode cc pc = .ok (.ireturn, 1)) (hrt : ret = some .boolean) : mx_OkG wd nc G l R cc nL own ret Ts cl pc (mx_zret pc) := by
  intro p e s m args below meth c D cA ad cells slots Qf ⟨hx, hb, hml, hown, hts, hK, hcs, hG0⟩ Rr hE L st u K h hk ls H locs hl hP hD hS
  unfold mx_zret at h
  split at h
  · rename_i v
    exact hE pc (some (.inl v)) u ls H locs (Or.inl ⟨hdg, v, rfl, Or.inr ⟨hrt, h.1⟩⟩) h.2 hP hS
  · exact h.elim
def mx_vret {σ : Type} (pc : Nat) : mx_TG σ := fun L st u K Rr => match st with
  | [] => Rr none u
  | _ => False
theorem mx_ok_vret (hdg : decode cc pc = .ok (.return_, 1)) (hrt : ret = none) : mx_OkG wd nc G l R cc nL own ret Ts cl pc (mx_vret pc) := by
  intro p e s m args below meth c D cA ad cells slots Qf ⟨hx, hb, hml, hown, hts, hK, hcs, hG0⟩ Rr hE L st u K h hk ls H locs hl hP hD hS
  unfold mx_vret at h
  split at h
  · exact hE pc none u ls H locs (Or.inr ⟨hdg, rfl, hrt⟩) h hP hS
  · exact h.elim
def mx_mmax {σ : Type} (pc : Nat) : mx_TG σ := fun L st u K Rr => match st with
  | .inl y :: .inl x :: r => decide ((r.map mx_cat).sum ≤ 8) = true ∧ K (pc + 3) L (.inl (if x < y then y else x) :: r) u
  | _ => False
theorem mx_ok_mmax {index : Nat} (hln : Cond.methodLink own index Lib.Math.max.name ∈ Ts) (hst : Cond.static Lib.Math.max.name ∈ Ts) (hin : Cond.initialized "java/lang/Math" ∈ Ts) (hcd : Cond.code Lib.Math.max.name Lib.Math.max.code 2 (some .int) ∈ Ts) (hRf : 1 ≤ R.frames) (hRl : 21 ≤ R.locals) (hdg : decode cc pc = .ok (.invokestatic index, 3)) : mx_OkG wd nc G l R cc nL own ret Ts cl pc (mx_mmax pc) := by
  intro p e s m args below meth c D cA ad cells slots Qf ⟨hx, hb, hml, hown, hts, hK, hcs, hG0⟩ Rr hE L st u K h hk ls H locs hl hP hD hS
  unfold mx_mmax at h
  split at h
  · rename_i y x r
    have h8 : (r.map mx_cat).sum ≤ 8 := of_decide_eq_true h.1
    have h9 : ((r.map (mx_c ad)).map fun v => v.category).sum ≤ 8 := by
      rw [List.map_map]
      rw [show ((fun v : Value => v.category) ∘ mx_c ad) = mx_cat from funext (mx_cat_eq ad)]
      exact h8
    exact va_mmax hx hb (hml.trans hl.1.symm) hown (hts _ hln) (hts _ hst) (hts _ hin) (hts _ hcd) hRf (by omega) hcs.1 hcs.2 hdg (hk _ _ _ _ h.2 ls H locs hl hP hD hS)
  · exact h.elim
def mx_mmin {σ : Type} (pc : Nat) : mx_TG σ := fun L st u K Rr => match st with
  | .inl y :: .inl x :: r => decide ((r.map mx_cat).sum ≤ 8) = true ∧ K (pc + 3) L (.inl (if y < x then y else x) :: r) u
  | _ => False
theorem mx_ok_mmin {index : Nat} (hln : Cond.methodLink own index Lib.Math.min.name ∈ Ts) (hst : Cond.static Lib.Math.min.name ∈ Ts) (hin : Cond.initialized "java/lang/Math" ∈ Ts) (hcd : Cond.code Lib.Math.min.name Lib.Math.min.code 2 (some .int) ∈ Ts) (hRf : 1 ≤ R.frames) (hRl : 21 ≤ R.locals) (hdg : decode cc pc = .ok (.invokestatic index, 3)) : mx_OkG wd nc G l R cc nL own ret Ts cl pc (mx_mmin pc) := by
  intro p e s m args below meth c D cA ad cells slots Qf ⟨hx, hb, hml, hown, hts, hK, hcs, hG0⟩ Rr hE L st u K h hk ls H locs hl hP hD hS
  unfold mx_mmin at h
  split at h
  · rename_i y x r
    have h8 : (r.map mx_cat).sum ≤ 8 := of_decide_eq_true h.1
    have h9 : ((r.map (mx_c ad)).map fun v => v.category).sum ≤ 8 := by
      rw [List.map_map]
      rw [show ((fun v : Value => v.category) ∘ mx_c ad) = mx_cat from funext (mx_cat_eq ad)]
      exact h8
    exact va_mmin hx hb (hml.trans hl.1.symm) hown (hts _ hln) (hts _ hst) (hts _ hin) (hts _ hcd) hRf (by omega) hcs.1 hcs.2 hdg (hk _ _ _ _ h.2 ls H locs hl hP hD hS)
  · exact h.elim
end MXO
/-- a method's contract: where pre holds of its arguments and the world, it answers fn, and leaves fn's world -/
def mx_Qc (cl : List vw_C) (sk : mx_K) (D : va_G) (cA : ClassId) (ad : Nat → Nat) (sz : Nat) (z : Option mx_V × mx_S) : Array Value → State → Outcome → State → Prop := fun _ st oc t =>
  (oc = .returned (z.1.map (mx_c ad)) ∧ va_P D cl (mx_w ad cA z.2 0 sk) t.heap) ∧ va_F (mx_A ad sk.length sz) st t
def mx_Pc (cl : List vw_C) (sk : mx_K) (D : va_G) (cA : ClassId) (ad : Nat → Nat) (sz : Nat) (as : List mx_V) (u : mx_S) : Array Value → State → Prop :=
  va_Pc (as.map (mx_c ad)) (fun U => U.heap.size = sz ∧ va_P D cl (mx_w ad cA u 0 sk) U.heap ∧ va_K D cl [(cA, .int)] U ∧ va_D (mx_A ad sk.length sz) (mx_w ad cA u 0 sk))
def mx_Ct (l : Launch) (Ts : List Cond) (cl : List vw_C) (sk : mx_K) (rm : Room) (y : MethodName) (bytes : ByteArray) (maxL : Nat) (rt : Option FieldType) (pre : List mx_V → mx_S → Prop) (fn : mx_F) : Prop :=
  ∀ (D : va_G) (cA : ClassId) (ad : Nat → Nat) (sz : Nat) (as : List mx_V) (u : mx_S), pre as u → Met l y (Cond.code y bytes maxL rt :: Ts) rm (mx_Pc cl sk D cA ad sz as u) (mx_Qc cl sk D cA ad sz (fn as u)) 0 0 (mx_A ad sk.length sz)
def mx_fit (n : Nat) (st : List mx_V) : Bool := Nat.ble n st.length && Nat.ble ((st.drop n).map mx_cat).sum 8
theorem mx_fit_len {n : Nat} {st : List mx_V} (h : mx_fit n st = true) : n ≤ st.length := by
  unfold mx_fit at h
  rw [Bool.and_eq_true] at h
  exact Nat.le_of_ble_eq_true h.1
theorem mx_fit_room {n : Nat} {st : List mx_V} (ad : Nat → Nat) (h : mx_fit n st = true) : (((st.drop n).map (mx_c ad)).map fun v => v.category).sum ≤ 8 := by
  unfold mx_fit at h
  rw [Bool.and_eq_true] at h
  rw [List.map_map]
  rw [show ((fun v : Value => v.category) ∘ mx_c ad) = mx_cat from funext (mx_cat_eq ad)]
  exact Nat.le_of_ble_eq_true h.2
theorem mx_blind (cl : List vw_C) (sk : mx_K) (D : va_G) (cA : ClassId) (ad : Nat → Nat) (sz : Nat) (as : List mx_V) (u : mx_S) : FrameBlind (mx_Pc cl sk D cA ad sz as u) := by
  intro a U g mk q
  obtain ⟨q0, q1, qP, qK, qD⟩ := q
  exact ⟨q0, q1, qP, va_K.moved (u := U) (U := U.calling g mk a) (Vm.Alike.refl U.vm) qK, qD⟩
def mx_invS (n : Nat) (pre : List mx_V → mx_S → Prop) (fn : mx_F) (pc : Nat) : mx_T := fun L st u K _ =>
  mx_fit n st = true ∧ pre (st.take n).reverse u ∧ K (pc + 3) L ((fn (st.take n).reverse u).1.toList ++ st.drop n) (fn (st.take n).reverse u).2
def mx_isO (sk : mx_K) (ci : Nat) (v : Option mx_V) : Bool := match v with
  | some (.inr (.inr k)) => match sk[k]? with
    | some (.inl q) => Nat.beq q.1 ci
    | _ => false
  | _ => false
theorem mx_isO_at {sk : mx_K} {ci : Nat} {v : Option mx_V} (h : mx_isO sk ci v = true) : ∃ (k : Nat) (fs : List (Option Nat)), v = some (.inr (.inr k)) ∧ sk[k]? = some (.inl (ci, fs)) := by
  unfold mx_isO at h
  split at h
  · rename_i k
    split at h
    · rename_i q hq
      have e := Nat.eq_of_beq_eq_true h
      obtain ⟨a, fs⟩ := q
      dsimp only at e
      subst e
      exact ⟨k, fs, rfl, hq⟩
    · cases h
  · cases h
def mx_invV (sk : mx_K) (ci n : Nat) (pre : List mx_V → mx_S → Prop) (fn : mx_F) (pc : Nat) : mx_T := fun L st u K _ =>
  (mx_fit (n + 1) st && mx_isO sk ci (st.take (n + 1)).reverse.head?) = true ∧ pre (st.take (n + 1)).reverse u ∧ K (pc + 3) L ((fn (st.take (n + 1)).reverse u).1.toList ++ st.drop (n + 1)) (fn (st.take (n + 1)).reverse u).2
/-- what the tables say of a call: link, code, the class is initialized, the names, the number of parameters, the room -/
def mx_Cl (Ts : List Cond) (own : String) (index : Nat) (R rm : Room) (y : MethodName) (bytes : ByteArray) (maxL : Nat) (rt : Option FieldType) (n : Nat) : Prop :=
  Cond.methodLink own index y ∈ Ts ∧ Cond.code y bytes maxL rt ∈ Ts ∧ Cond.initialized y.cls ∈ Ts ∧ (y.cls ≠ "java/lang/invoke/MethodHandle" ∧ y.cls ≠ "java/lang/invoke/VarHandle" ∧ (parseMethodDescriptor y.desc).map (fun d => d.parameters.length) = some n) ∧ (rm.frames + 1 ≤ R.frames ∧ 8 + (maxL + 11) + rm.locals ≤ R.locals) ∧ rm.cells = 0 ∧ rm.slots = 0
theorem mx_good {Ts : List Cond} (hG : GoodIn Ts Ts) {y : MethodName} {bytes : ByteArray} {maxL : Nat} {rt : Option FieldType} (h : Cond.code y bytes maxL rt ∈ Ts) : GoodIn Ts (Cond.code y bytes maxL rt :: Ts) := by
  intro w hw
  rcases List.mem_cons.mp hw with rfl | h1
  · exact hG _ h
  · exact hG _ h1
section MXC
variable {l : Launch} {R rm : Room} {cc bytes : ByteArray} {nL maxL n index : Nat} {own : String} {ret rt : Option FieldType} {Ts : List Cond} {cl : List vw_C} {sk : mx_K} {pc : Nat} {y : MethodName} {pre : List mx_V → mx_S → Prop} {fn : mx_F}
/-- behind a call: the callee's world, the frame -/
theorem mx_behind {p : Program} {e : Env} {s : State} {m : MethodId} {args : Array Value} {below : List Frame} {meth : Method} {c : Code} {D : va_G} {cA : ClassId} {ad : Nat → Nat} {cells slots : Nat} {Qf : State → Prop} {ls : Array Slot} {H : Heap} {locs : List Loc} {L : List (Nat × mx_V)} {st rest : List mx_V} {u : mx_S} {z : Option mx_V × mx_S} {a : Array Value}
    (hl : lv_has ls nL (L.map (mx_lc ad))) (hD : va_D (mx_A ad sk.length s.heap.size) (mx_w ad cA u 0 sk)) (hS : va_S (mx_A ad sk.length s.heap.size) s.heap H locs)
    (hr : va_Run p l e R s m args below meth c H locs cells slots 0 0 (F0 m pc ls (st.map (mx_c ad))) (rest.map (mx_c ad)) (mx_Qc cl sk D cA ad H.size z a) (mx_A ad sk.length H.size))
    (hk : mx_AtG (mx_wd sk) sk.length l R cells slots nL cl p e s m args below meth c D cA ad Qf (pc + 3) L (z.1.toList ++ rest) z.2) : W p l e R s m args below meth c H locs cells slots Qf (F0 m pc ls (st.map (mx_c ad))) := by
  intro T hT X
  obtain ⟨v, st₀, t, T', L', h0, X', hL, e1, e2, ⟨⟨hv, hP1⟩, hz, hkk⟩, go⟩ := hr T hT X
  rw [h0] at hz hkk
  have hv : v = z.1.map (mx_c ad) := by
    injection hv
  have hA : ∀ q, mx_A ad sk.length H.size q → mx_A ad sk.length s.heap.size q := by
    intro q hq
    rcases hq with h | h
    · exact Or.inl h
    · exact Or.inr (Nat.le_trans hS.1 h)
  have hS' : va_S (mx_A ad sk.length s.heap.size) s.heap T'.heap (locs ++ L') := by
    refine ⟨Nat.le_trans hS.1 (by rw [e1]; exact hz), fun q h1 h2 => ?_, fun q hq => ?_⟩
    · rw [e1, hkk q (Nat.lt_of_lt_of_le h1 hS.1) (fun z => h2 (hA q z))]
      exact hS.2.1 q h1 h2
    · rcases List.mem_append.mp hq with h | h
      · exact hS.2.2 q h
      · exact hA _ (hL q h)
  have hst : v.toList ++ rest.map (mx_c ad) = (z.1.toList ++ rest).map (mx_c ad) := by
    rw [hv, List.map_append]
    cases z.1 <;> rfl
  obtain ⟨t2, a1, b1⟩ := hk ls T'.heap (locs ++ L') hl (by rw [e1]; exact hP1) (mx_D _ hD) hS' T' rfl X'
  refine ⟨t2, go t2 ?_, b1⟩
  show Steps _ _ _ (T'.setTop (F0 m (pc + 3) ls (v.toList ++ rest.map (mx_c ad)))) _
  rw [hst]
  exact a1
theorem mx_ok_invS (hG : GoodIn Ts Ts) (hct : mx_Ct l Ts cl sk rm y bytes maxL rt pre fn) (hC : mx_Cl Ts own index R rm y bytes maxL rt n) (hst : Cond.static y ∈ Ts) (hdg : decode cc pc = .ok (.invokestatic index, 3)) : mx_Ok l R cc nL own ret Ts cl sk pc (mx_invS n pre fn pc) := by
  intro p e s m args below meth c D cA ad cells slots Qf ⟨hx, hb, hml, hown, hts, hK, hcs, hG0⟩ Rr hE L st u K h hk ls H locs hl hP hD hS
  have hP : va_P D cl (mx_w ad cA u 0 sk) H := hP
  have hD : va_D (mx_A ad sk.length s.heap.size) (mx_w ad cA u 0 sk) := hD
  obtain ⟨c1, c2, c3, c4, c5, c6, c7⟩ := hC
  obtain ⟨h1, h2, h3⟩ := h
  have hlen : (st.take n).length = n := by rw [List.length_take]; exact Nat.min_eq_left (mx_fit_len h1)
  refine mx_behind (nL := nL) (cl := cl) (sk := sk) (D := D) (cA := cA) (L := L) (rest := st.drop n) (a := ((st.take n).reverse.map (mx_c ad)).toArray) hl hD hS ?_ (hk _ _ _ _ h3)
  exact va_runS (As := (st.take n).reverse.map (mx_c ad)) (rest := (st.drop n).map (mx_c ad)) ⟨hx, hb, hml, hown, hts⟩ (hct D cA ad H.size _ u h2) ⟨callB_of n hts (mx_good hG c2) rfl c6 c7 (hts _ c3) (hts _ c1) c4 c5, hts _ hst⟩
    ⟨mx_blind cl sk D cA ad H.size _ u, fun U hU hW => ⟨rfl, by rw [hU], by rw [hU]; exact hP, va_K.moved hW.alike hK, mx_Dz _ hD⟩⟩ rfl (by rw [List.length_map, List.length_reverse, hlen]) hl.1
    (by show st.map (mx_c ad) = _; rw [← List.map_reverse, List.reverse_reverse, ← List.map_append, List.take_append_drop]) (lv_room (mx_fit_room ad h1)) hdg hcs
theorem mx_ok_invV {C : String} {T : u_T} {N ci : Nat} (hG : GoodIn Ts Ts) (hct : mx_Ct l Ts cl sk rm y bytes maxL rt pre fn) (hC : mx_Cl Ts own index R rm y bytes maxL rt n) (hin : Cond.instanceMethod y ∈ Ts) (hse : Cond.selects C y y ∈ Ts) (hcl : cl[ci]? = some (C, T, N)) (hdg : decode cc pc = .ok (.invokevirtual index, 3)) : mx_Ok l R cc nL own ret Ts cl sk pc (mx_invV sk ci n pre fn pc) := by
  intro p e s m args below meth c D cA ad cells slots Qf ⟨hx, hb, hml, hown, hts, hK, hcs, hG0⟩ Rr hE L st u K h hk ls H locs hl hP hD hS
  have hP : va_P D cl (mx_w ad cA u 0 sk) H := hP
  have hD : va_D (mx_A ad sk.length s.heap.size) (mx_w ad cA u 0 sk) := hD
  obtain ⟨c1, c2, c3, c4, c5, c6, c7⟩ := hC
  obtain ⟨h1, h2, h3⟩ := h
  rw [Bool.and_eq_true] at h1
  have hlen : (st.take (n + 1)).length = n + 1 := by rw [List.length_take]; exact Nat.min_eq_left (mx_fit_len h1.1)
  obtain ⟨k, fs, e1, e2⟩ := mx_isO_at h1.2
  obtain ⟨as, has⟩ : ∃ as, (st.take (n + 1)).reverse = .inr (.inr k) :: as := by
    cases hq : (st.take (n + 1)).reverse with
    | nil => rw [hq] at e1; cases e1
    | cons a b =>
      rw [hq] at e1
      cases e1
      exact ⟨b, rfl⟩
  have hal : as.length = n := by
    have := congrArg List.length has
    rw [List.length_reverse, hlen] at this
    simp at this
    omega
  refine mx_behind (nL := nL) (cl := cl) (sk := sk) (D := D) (cA := cA) (L := L) (rest := st.drop (n + 1)) (a := (Value.ref (ad k) :: as.map (mx_c ad)).toArray) hl hD hS ?_ (hk _ _ _ _ h3)
  have hct' := hct D cA ad H.size _ u h2
  rw [has] at hct' ⊢
  exact va_runV (C := C) (b := ad k) (As := as.map (mx_c ad)) (rest := (st.drop (n + 1)).map (mx_c ad)) ⟨hx, hb, hml, hown, hts⟩ hct' ⟨callB_of n hts (mx_good hG c2) rfl c6 c7 (hts _ c3) (hts _ c1) c4 c5, hts _ hin, hts _ hse⟩
    ⟨mx_blind cl sk D cA ad H.size _ u, va_recv hK hP hcl (mx_w_at ad cA u sk e2), fun U hU hW => ⟨rfl, by rw [hU], by rw [hU]; exact hP, va_K.moved hW.alike hK, mx_Dz _ hD⟩⟩ rfl (by rw [List.length_map, hal]) hl.1
    (by
      show st.map (mx_c ad) = _
      have e3 : st.take (n + 1) = as.reverse ++ [.inr (.inr k)] := by
        have := congrArg List.reverse has
        rw [List.reverse_reverse, List.reverse_cons] at this
        exact this
      have e4 : st = as.reverse ++ .inr (.inr k) :: st.drop (n + 1) := by
        calc st = st.take (n + 1) ++ st.drop (n + 1) := (List.take_append_drop _ _).symm
          _ = _ := by rw [e3]; simp
      calc st.map (mx_c ad) = (as.reverse ++ .inr (.inr k) :: st.drop (n + 1)).map (mx_c ad) := by rw [← e4]
        _ = _ := by simp [mx_c]) (lv_room (mx_fit_room ad h1.1)) hdg hcs
end MXC
/-- the program of a method: its places and transformers -/
def mx_find {σ : Type} : List (Nat × mx_TG σ) → Nat → Option (mx_TG σ)
  | [], _ => none
  | q :: r, pc => bif Nat.beq q.1 pc then some q.2 else mx_find r pc
theorem mx_find_mem {σ : Type} : ∀ {tb : List (Nat × mx_TG σ)} {pc : Nat} {T : mx_TG σ}, mx_find tb pc = some T → (pc, T) ∈ tb
  | [], _, _, h => by simp [mx_find] at h
  | q :: r, pc, T, h => by
    unfold mx_find at h
    cases hq : Nat.beq q.1 pc with
    | true =>
      rw [hq] at h
      have e := Nat.eq_of_beq_eq_true hq
      have e2 : q.2 = T := Option.some.inj h
      subst e
      subst e2
      exact List.mem_cons_self
    | false =>
      rw [hq] at h
      exact List.mem_cons_of_mem _ (mx_find_mem h)
def mx_in : List Nat → Nat → Bool
  | [], _ => false
  | a :: r, x => bif Nat.beq a x then true else mx_in r x
/-- n steps, or up to one of the places 'cut' -/
def mx_sg {σ : Type} (tb : List (Nat × mx_TG σ)) (Rr : mx_RG σ) (cut : List Nat) (E : mx_PG σ) : Nat → mx_PG σ
  | 0 => E
  | n + 1 => fun pc L st u => match mx_find tb pc with
    | some T => T L st u (fun pc' L' st' u' => bif mx_in cut pc' then E pc' L' st' u' else mx_sg tb Rr cut E n pc' L' st' u') Rr
    | none => False
/-- what is to be shown of a method: every predicate that stretches of it keep holds -/
def mx_VC {σ : Type} (tb : List (Nat × mx_TG σ)) (Rr : mx_RG σ) : mx_PG σ := fun pc L st u => ∀ At : mx_PG σ, (∀ (n : Nat) (cut : List Nat) (pc : Nat) (L : List (Nat × mx_V)) (st : List mx_V) (u : σ), mx_sg tb Rr cut At n pc L st u → At pc L st u) → (∀ (ks : List Nat) (pc : Nat) (L : List (Nat × mx_V)) (st : List mx_V) (u : σ), At pc (ks.filterMap (fun k => L[k]?)) st u → At pc L st u) → At pc L st u
theorem mx_abs {a b c : Prop} (ha : a) (hb : b) (h : (a → ¬ b) := by first | exact fun x y => absurd x y | exact fun x y => absurd y x) : c := absurd hb (h ha)
def mx_rI (u : mx_S) (z : Int32) : Option mx_V × mx_S := (some (.inl z), u)
def mx_rB (z : Int32 × mx_S) : Option mx_V × mx_S := (some (.inl z.1), z.2)
def mx_L0 : Nat → List mx_V → List (Nat × mx_V)
  | _, [] => []
  | i, v :: r => (i, v) :: mx_L0 (i + mx_cat v) r
theorem mx_L0_eq (ad : Nat → Nat) : ∀ (as : List mx_V) (i : Nat), lv_args i (as.map (mx_c ad)) = (mx_L0 i as).map (mx_lc ad)
  | [], _ => rfl
  | v :: r, i => by
    show (i, mx_c ad v) :: lv_args (if (mx_c ad v).category = 2 then i + 2 else i + 1) (r.map (mx_c ad)) = (i, mx_c ad v) :: (mx_L0 (i + mx_cat v) r).map (mx_lc ad)
    rw [show (if (mx_c ad v).category = 2 then i + 2 else i + 1) = i + mx_cat v by rcases v with x | y | k <;> rfl, mx_L0_eq ad r]
def mx_wid (as : List mx_V) : Nat := (as.map mx_cat).sum
theorem mx_sl_len (ad : Nat → Nat) : ∀ as : List mx_V, (lg_sl (as.map (mx_c ad))).length = mx_wid as
  | [] => rfl
  | v :: r => by
    have h := mx_sl_len ad r
    unfold lg_sl at h ⊢
    unfold mx_wid at h ⊢
    rw [List.map_cons, List.flatMap_cons, List.length_append, h, List.map_cons, List.sum_cons]
    rcases v with x | y | k <;> rfl
/-- stretches of a program whose instructions keep to their transformers -/
theorem mx_run {σ : Type} {wd : mx_WG σ} {nc : Nat} {G : State → (Nat → Nat) → Prop} {l : Launch} {R : Room} {cc : ByteArray} {nL : Nat} {own : String} {ret : Option FieldType} {Ts : List Cond} {cl : List vw_C} {p : Program} {e : Env} {s : State} {m : MethodId} {args : Array Value} {below : List Frame} {meth : Method} {c : Code} {D : va_G} {cA : ClassId} {ad : Nat → Nat} {cells slots : Nat} {Qf : State → Prop} {Rr : mx_RG σ} {tb : List (Nat × mx_TG σ)}
    (hOk : ∀ q ∈ tb, mx_OkG wd nc G l R cc nL own ret Ts cl q.1 q.2) (hCx : mx_Cx G R cells slots cc nL own ret Ts cl p s m args meth c D cA ad) (hE : mx_EndG wd nc l R cells slots cc ret cl p e s m args below meth c D cA ad Qf Rr) {pc : Nat} {L : List (Nat × mx_V)} {st : List mx_V} {u : σ} (h : mx_VC tb Rr pc L st u) : mx_AtG wd nc l R cells slots nL cl p e s m args below meth c D cA ad Qf pc L st u := by
  refine h _ ?_ ?_
  · intro n cut
    induction n with
    | zero => exact fun pc L st u h => h
    | succ n ih =>
      intro pc L st u h
      unfold mx_sg at h
      split at h
      · rename_i T hT
        refine hOk _ (mx_find_mem hT) p e s m args below meth c D cA ad cells slots Qf hCx _ hE L st u _ h ?_
        intro pc' L' st' u' h'
        cases hc : mx_in cut pc' with
        | true => rw [hc] at h'; exact h'
        | false => rw [hc] at h'; exact ih _ _ _ _ h'
      · exact h.elim
  · intro ks pc L st u h ls H locs hl
    refine h ls H locs ⟨hl.1, hl.2.1, fun q hq => hl.2.2 q ?_⟩
    obtain ⟨a, ha, rfl⟩ := List.mem_map.mp hq
    obtain ⟨k, -, hk⟩ := List.mem_filterMap.mp ha
    exact List.mem_map.mpr ⟨a, List.mem_of_getElem? hk, rfl⟩
theorem mx_ct_of {l : Launch} {Ts : List Cond} {cl : List vw_C} {sk : mx_K} {rm : Room} {y : MethodName} {cc : ByteArray} {nL : Nat} {ret : Option FieldType} {pre : List mx_V → mx_S → Prop} {fn : mx_F} (tb : List (Nat × mx_T)) (hy : plainName y.cls = true)
    (hOk : ∀ q ∈ tb, mx_Ok l rm cc nL y.cls ret Ts cl sk q.1 q.2) (hlen : ∀ (as : List mx_V) (u : mx_S), pre as u → mx_wid as ≤ nL) (hvc : ∀ (as : List mx_V) (u : mx_S), pre as u → mx_VC tb (fun v u' => (v, u') = fn as u) 0 (mx_L0 0 as) [] u) : mx_Ct l Ts cl sk rm y cc nL ret pre fn := by
  intro D cA ad sz as u hpre
  refine Met.ofW (cc := cc) (maxL := nL) (ret := ret) hy rfl ?_
  intro p e s m args below meth c s₁ B hml hv
  obtain ⟨rfl, hsz, hP, hK, hD⟩ := hv
  subst hsz
  have hx := B.exec
  have hb := B.bytes
  have hr := B.returns
  have hlk := B.notSynchronized
  have hts0 := atoms_spec (ws := Cond.code y cc nL ret :: Ts) B.pre
  have hts : ∀ w ∈ Ts, w.before (as.map (mx_c ad)).toArray s = true := fun w hw => hts0 w (List.mem_cons_of_mem _ hw)
  have hown : s.vm.findClass y.cls = some m.cls := findClass_of_methodNamed B.named
  have hCx : mx_Cx (fun _ _ => True) rm 0 0 cc nL y.cls ret Ts cl p s m (as.map (mx_c ad)).toArray meth c D cA ad := ⟨hx, hb, hml, hown, hts, hK, ⟨Nat.zero_le _, Nat.zero_le _⟩, trivial⟩
  have hl := lv_entry (as.map (mx_c ad)) (n := nL) (by rw [mx_sl_len]; exact hlen as u hpre)
  rw [mx_L0_eq] at hl
  rw [lg_entry_eq]
  have hQ : ∀ (v : Option mx_V) (u' : mx_S) (H : Heap) (locs : List Loc) (t : State), (v, u') = fn as u → va_P D cl (mx_w ad cA u' 0 sk) H → va_S (mx_A ad sk.length s.heap.size) s.heap H locs → t.heap = H → mx_Qc cl sk D cA ad s.heap.size (fn as u) (as.map (mx_c ad)).toArray s (.returned (v.map (mx_c ad))) t := by
    intro v u' H locs t h hP hS ht
    rw [← h]
    exact ⟨⟨rfl, by rw [ht]; exact hP⟩, hS.F ht⟩
  have hE : mx_EndG (mx_wd sk) sk.length l rm 0 0 cc ret cl p e s m (as.map (mx_c ad)).toArray below meth c D cA ad (MQ below (mx_Qc cl sk D cA ad s.heap.size (fn as u)) (as.map (mx_c ad)).toArray s 0 0 (mx_A ad sk.length s.heap.size)) (fun v u' => (v, u') = fn as u) := by
    intro pc v u' ls H locs hk h hP hS
    rcases hk with ⟨hdg, x, rfl, hk | ⟨hk, h01⟩⟩ | ⟨hdg, rfl, hk⟩
    · exact W.iret hx hb (by rw [hr, hk]) (fun t ht hW => hQ (some (.inl x)) u' H locs t h hP hS ht) hS.2.2 hdg hlk
    · exact W.zret hx hb (by rw [hr, hk]) (by rcases h01 with e1 | e1 <;> rw [e1] <;> rfl) (fun t ht hW => hQ (some (.inl x)) u' H locs t h hP hS ht) hS.2.2 hdg hlk
    · exact W.vret hx hb (by rw [hr, hk]) (fun t ht hW => hQ none u' H locs t h hP hS ht) hS.2.2 hdg hlk
  exact mx_run hOk hCx hE (hvc as u hpre) _ _ [] hl hP hD va_S.rf

def kx (np nd : Nat) : mx_K := [.inl (0, [some 1, some 2, some 3, some 4, some 8, none, none, none, none, none, none, none]), .inr np, .inr nd, .inr 32, .inl (1, [some 5, some 6, some 7, none]), .inr 18, .inr 18, .inr 18, .inl (2, [some 9, some 10, none]), .inr 12, .inr 12]
def km : mx_K := [.inl (3, [none, none, none, some 1, some 2, some 3, none, none, none, none, none, none, none, none, some 4, some 5, some 6, none, some 7, some 8, none, some 9, some 10]), .inr 256, .inr 256, .inr 32, .inr 64, .inr 64, .inr 64, .inr 32, .inr 32, .inr 8, .inr 8]
theorem fd_xm_13 : mx_Fd vw_T vw_cl "WideMachine" 0 0 13 := ⟨_, _, _, rfl, by decide, ui_0, vm_42⟩
theorem fd_xm_17 : mx_Fd vw_T vw_cl "WideMachine" 0 1 17 := ⟨_, _, _, rfl, by decide, ui_0, vm_43⟩
theorem fd_xm_20 : mx_Fd vw_T vw_cl "WideMachine" 0 2 20 := ⟨_, _, _, rfl, by decide, ui_0, vm_49⟩
theorem fd_xq_19 : mx_Fd vw_T vw_cl "WideMachine$Writes" 1 3 19 := ⟨_, _, _, rfl, by decide, ui_1, vm_50⟩
theorem fd_xq_16 : mx_Fd vw_T vw_cl "WideMachine$Writes" 1 2 16 := ⟨_, _, _, rfl, by decide, ui_1, vm_51⟩
theorem fd_xq_9 : mx_Fd vw_T vw_cl "WideMachine$Writes" 1 0 9 := ⟨_, _, _, rfl, by decide, ui_1, vm_52⟩
theorem fd_xq_13 : mx_Fd vw_T vw_cl "WideMachine$Writes" 1 1 13 := ⟨_, _, _, rfl, by decide, ui_1, vm_53⟩
theorem fd_xm_26 : mx_Fd vw_T vw_cl "WideMachine" 0 3 26 := ⟨_, _, _, rfl, by decide, ui_0, vm_54⟩
theorem fd_xm_41 : mx_Fd vw_T vw_cl "WideMachine" 0 5 41 := ⟨_, _, _, rfl, by decide, ui_0, vm_64⟩
theorem fd_xb_16 : mx_Fd vw_T vw_cl "WideMachine$Branches" 2 2 16 := ⟨_, _, _, rfl, by decide, ui_2, vm_69⟩
theorem fd_xb_13 : mx_Fd vw_T vw_cl "WideMachine$Branches" 2 1 13 := ⟨_, _, _, rfl, by decide, ui_2, vm_70⟩
theorem fd_xb_9 : mx_Fd vw_T vw_cl "WideMachine$Branches" 2 0 9 := ⟨_, _, _, rfl, by decide, ui_2, vm_71⟩
theorem fd_xm_33 : mx_Fd vw_T vw_cl "WideMachine" 0 4 33 := ⟨_, _, _, rfl, by decide, ui_0, vm_72⟩
theorem fd_xm_48 : mx_Fd vw_T vw_cl "WideMachine" 0 6 48 := ⟨_, _, _, rfl, by decide, ui_0, vm_86⟩
theorem fd_xm_68 : mx_Fd vw_T vw_cl "WideMachine" 0 10 68 := ⟨_, _, _, rfl, by decide, ui_0, vm_87⟩
theorem fd_xm_64 : mx_Fd vw_T vw_cl "WideMachine" 0 11 64 := ⟨_, _, _, rfl, by decide, ui_0, vm_88⟩
theorem fd_xm_57 : mx_Fd vw_T vw_cl "WideMachine" 2 2 57 := ⟨_, _, _, rfl, by decide, ui_2, vm_89⟩
theorem fd_xm_61 : mx_Fd vw_T vw_cl "WideMachine" 0 9 61 := ⟨_, _, _, rfl, by decide, ui_0, vm_94⟩
theorem fd_xm_58 : mx_Fd vw_T vw_cl "WideMachine" 0 8 58 := ⟨_, _, _, rfl, by decide, ui_0, vm_230⟩
theorem fd_xm_51 : mx_Fd vw_T vw_cl "WideMachine" 0 7 51 := ⟨_, _, _, rfl, by decide, ui_0, vm_258⟩
theorem fd_xm_54 : mx_Fd vw_T vw_cl "WideMachine" 1 3 54 := ⟨_, _, _, rfl, by decide, ui_1, vm_287⟩
theorem fd_xm_71 : mx_Fd vw_T vw_cl "WideMachine" 1 0 71 := ⟨_, _, _, rfl, by decide, ui_1, vm_288⟩
theorem fd_xm_74 : mx_Fd vw_T vw_cl "WideMachine" 1 1 74 := ⟨_, _, _, rfl, by decide, ui_1, vm_289⟩
theorem fd_xm_77 : mx_Fd vw_T vw_cl "WideMachine" 1 2 77 := ⟨_, _, _, rfl, by decide, ui_1, vm_290⟩
theorem fd_mm_47 : mx_Fd vw_T vw_cl "WideMachineModel" 3 0 47 := ⟨_, _, _, rfl, by decide, ui_3, vm_302⟩
theorem fd_mm_40 : mx_Fd vw_T vw_cl "WideMachineModel" 3 1 40 := ⟨_, _, _, rfl, by decide, ui_3, vm_303⟩
theorem fd_mm_7 : mx_Fd vw_T vw_cl "WideMachineModel" 3 3 7 := ⟨_, _, _, rfl, by decide, ui_3, vm_304⟩
theorem fd_mm_44 : mx_Fd vw_T vw_cl "WideMachineModel" 3 2 44 := ⟨_, _, _, rfl, by decide, ui_3, vm_305⟩
theorem fd_mm_13 : mx_Fd vw_T vw_cl "WideMachineModel" 3 4 13 := ⟨_, _, _, rfl, by decide, ui_3, vm_306⟩
theorem fd_mm_16 : mx_Fd vw_T vw_cl "WideMachineModel" 3 5 16 := ⟨_, _, _, rfl, by decide, ui_3, vm_307⟩
theorem fd_mm_50 : mx_Fd vw_T vw_cl "WideMachineModel" 3 6 50 := ⟨_, _, _, rfl, by decide, ui_3, vm_308⟩
theorem fd_mm_53 : mx_Fd vw_T vw_cl "WideMachineModel" 3 7 53 := ⟨_, _, _, rfl, by decide, ui_3, vm_309⟩
theorem fd_mm_56 : mx_Fd vw_T vw_cl "WideMachineModel" 3 8 56 := ⟨_, _, _, rfl, by decide, ui_3, vm_310⟩
theorem fd_mm_59 : mx_Fd vw_T vw_cl "WideMachineModel" 3 13 59 := ⟨_, _, _, rfl, by decide, ui_3, vm_311⟩
theorem fd_mm_62 : mx_Fd vw_T vw_cl "WideMachineModel" 3 17 62 := ⟨_, _, _, rfl, by decide, ui_3, vm_312⟩
theorem fd_mm_65 : mx_Fd vw_T vw_cl "WideMachineModel" 3 9 65 := ⟨_, _, _, rfl, by decide, ui_3, vm_313⟩
theorem fd_mm_68 : mx_Fd vw_T vw_cl "WideMachineModel" 3 10 68 := ⟨_, _, _, rfl, by decide, ui_3, vm_314⟩
theorem fd_mm_71 : mx_Fd vw_T vw_cl "WideMachineModel" 3 11 71 := ⟨_, _, _, rfl, by decide, ui_3, vm_315⟩
theorem fd_mm_75 : mx_Fd vw_T vw_cl "WideMachineModel" 3 12 75 := ⟨_, _, _, rfl, by decide, ui_3, vm_316⟩
theorem fd_mm_19 : mx_Fd vw_T vw_cl "WideMachineModel" 3 14 19 := ⟨_, _, _, rfl, by decide, ui_3, vm_317⟩
theorem fd_mm_22 : mx_Fd vw_T vw_cl "WideMachineModel" 3 15 22 := ⟨_, _, _, rfl, by decide, ui_3, vm_318⟩
theorem fd_mm_25 : mx_Fd vw_T vw_cl "WideMachineModel" 3 16 25 := ⟨_, _, _, rfl, by decide, ui_3, vm_319⟩
theorem fd_mm_31 : mx_Fd vw_T vw_cl "WideMachineModel" 3 19 31 := ⟨_, _, _, rfl, by decide, ui_3, vm_320⟩
theorem fd_mm_28 : mx_Fd vw_T vw_cl "WideMachineModel" 3 18 28 := ⟨_, _, _, rfl, by decide, ui_3, vm_321⟩
theorem fd_mm_34 : mx_Fd vw_T vw_cl "WideMachineModel" 3 21 34 := ⟨_, _, _, rfl, by decide, ui_3, vm_381⟩
theorem fd_mm_150 : mx_Fd vw_T vw_cl "WideMachineModel" 3 20 150 := ⟨_, _, _, rfl, by decide, ui_3, vm_382⟩
theorem fd_mm_37 : mx_Fd vw_T vw_cl "WideMachineModel" 3 22 37 := ⟨_, _, _, rfl, by decide, ui_3, vm_383⟩
theorem fw_1_3 : mx_Fw vw_cl 1 3 .int := ⟨_, _, _, ft_1, rfl, fo_1, fn_1, rfl, by decide +kernel⟩
theorem fw_0_5 : mx_Fw vw_cl 0 5 .int := ⟨_, _, _, ft_0, rfl, fo_0, fn_0, rfl, by decide +kernel⟩
theorem fw_2_2 : mx_Fw vw_cl 2 2 .int := ⟨_, _, _, ft_2, rfl, fo_2, fn_2, rfl, by decide +kernel⟩
theorem fw_0_6 : mx_Fw vw_cl 0 6 .int := ⟨_, _, _, ft_0, rfl, fo_0, fn_0, rfl, by decide +kernel⟩
theorem fw_0_10 : mx_Fw vw_cl 0 10 .int := ⟨_, _, _, ft_0, rfl, fo_0, fn_0, rfl, by decide +kernel⟩
theorem fw_0_11 : mx_Fw vw_cl 0 11 .boolean := ⟨_, _, _, ft_0, rfl, fo_0, fn_0, rfl, by decide +kernel⟩
theorem fw_0_9 : mx_Fw vw_cl 0 9 .int := ⟨_, _, _, ft_0, rfl, fo_0, fn_0, rfl, by decide +kernel⟩
theorem fw_0_8 : mx_Fw vw_cl 0 8 .int := ⟨_, _, _, ft_0, rfl, fo_0, fn_0, rfl, by decide +kernel⟩
theorem fw_0_7 : mx_Fw vw_cl 0 7 .int := ⟨_, _, _, ft_0, rfl, fo_0, fn_0, rfl, by decide +kernel⟩
theorem fw_3_0 : mx_Fw vw_cl 3 0 .int := ⟨_, _, _, ft_3, rfl, fo_3, fn_3, rfl, by decide +kernel⟩
theorem fw_3_12 : mx_Fw vw_cl 3 12 .int := ⟨_, _, _, ft_3, rfl, fo_3, fn_3, rfl, by decide +kernel⟩
theorem fw_3_11 : mx_Fw vw_cl 3 11 .boolean := ⟨_, _, _, ft_3, rfl, fo_3, fn_3, rfl, by decide +kernel⟩
theorem fw_3_6 : mx_Fw vw_cl 3 6 .int := ⟨_, _, _, ft_3, rfl, fo_3, fn_3, rfl, by decide +kernel⟩
theorem fw_3_9 : mx_Fw vw_cl 3 9 .int := ⟨_, _, _, ft_3, rfl, fo_3, fn_3, rfl, by decide +kernel⟩
theorem fw_3_13 : mx_Fw vw_cl 3 13 .int := ⟨_, _, _, ft_3, rfl, fo_3, fn_3, rfl, by decide +kernel⟩
theorem fw_3_17 : mx_Fw vw_cl 3 17 .int := ⟨_, _, _, ft_3, rfl, fo_3, fn_3, rfl, by decide +kernel⟩
theorem fw_3_7 : mx_Fw vw_cl 3 7 .int := ⟨_, _, _, ft_3, rfl, fo_3, fn_3, rfl, by decide +kernel⟩
theorem fw_3_10 : mx_Fw vw_cl 3 10 .int := ⟨_, _, _, ft_3, rfl, fo_3, fn_3, rfl, by decide +kernel⟩
theorem fw_3_20 : mx_Fw vw_cl 3 20 .int := ⟨_, _, _, ft_3, rfl, fo_3, fn_3, rfl, by decide +kernel⟩
theorem fw_3_8 : mx_Fw vw_cl 3 8 .int := ⟨_, _, _, ft_3, rfl, fo_3, fn_3, rfl, by decide +kernel⟩
end
