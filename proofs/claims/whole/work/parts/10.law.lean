def vw_L : List Cond := [
  .methodLink "WideMachineLaw" 21 y_xm_word,
  .code y_xm_word b_xm_word 3 (some .boolean),
  .initialized "WideMachine",
  .instanceMethod y_xm_word,
  .selects "WideMachine" y_xm_word y_xm_word,
  .methodLink "WideMachineLaw" 25 y_mm_word,
  .code y_mm_word b_mm_word 3 (some .boolean),
  .initialized "WideMachineModel",
  .instanceMethod y_mm_word,
  .selects "WideMachineModel" y_mm_word y_mm_word,
  .methodLink "WideMachineLaw" 26 y_xm_poke,
  .code y_xm_poke b_xm_poke 3 (some .boolean),
  .instanceMethod y_xm_poke,
  .selects "WideMachine" y_xm_poke y_xm_poke,
  .methodLink "WideMachineLaw" 29 y_mm_poke,
  .code y_mm_poke b_mm_poke 3 (some .boolean),
  .instanceMethod y_mm_poke,
  .selects "WideMachineModel" y_mm_poke y_mm_poke,
  .methodLink "WideMachineLaw" 30 y_xm_peek,
  .code y_xm_peek b_xm_peek 2 (some .int),
  .instanceMethod y_xm_peek,
  .selects "WideMachine" y_xm_peek y_xm_peek,
  .methodLink "WideMachineLaw" 34 y_mm_peek,
  .code y_mm_peek b_mm_peek 2 (some .int),
  .instanceMethod y_mm_peek,
  .selects "WideMachineModel" y_mm_peek y_mm_peek,
  .methodLink "WideMachineLaw" 35 y_xm_set,
  .code y_xm_set b_xm_set 3 (some .boolean),
  .instanceMethod y_xm_set,
  .selects "WideMachine" y_xm_set y_xm_set,
  .methodLink "WideMachineLaw" 38 y_mm_set,
  .code y_mm_set b_mm_set 3 (some .boolean),
  .instanceMethod y_mm_set,
  .selects "WideMachineModel" y_mm_set y_mm_set,
  .methodLink "WideMachineLaw" 39 y_xm_get,
  .code y_xm_get b_xm_get 2 (some .int),
  .instanceMethod y_xm_get,
  .selects "WideMachine" y_xm_get y_xm_get,
  .methodLink "WideMachineLaw" 42 y_mm_get,
  .code y_mm_get b_mm_get 2 (some .int),
  .instanceMethod y_mm_get,
  .selects "WideMachineModel" y_mm_get y_mm_get,
  .methodLink "WideMachineLaw" 43 y_xm_run,
  .code y_xm_run b_xm_run 3 (some .int),
  .instanceMethod y_xm_run,
  .selects "WideMachine" y_xm_run y_xm_run,
  .methodLink "WideMachineLaw" 46 y_mm_run,
  .code y_mm_run b_mm_run 3 (some .int),
  .instanceMethod y_mm_run,
  .selects "WideMachineModel" y_mm_run y_mm_run,
  .methodLink "WideMachineLaw" 47 y_xm_about,
  .code y_xm_about b_xm_about 2 (some .int),
  .instanceMethod y_xm_about,
  .selects "WideMachine" y_xm_about y_xm_about,
  .methodLink "WideMachineLaw" 50 y_mm_about,
  .code y_mm_about b_mm_about 2 (some .int),
  .instanceMethod y_mm_about,
  .selects "WideMachineModel" y_mm_about y_mm_about,
  .methodLink "WideMachineLaw" 51 y_xm_due,
  .code y_xm_due b_xm_due 3 (some .int),
  .instanceMethod y_xm_due,
  .selects "WideMachine" y_xm_due y_xm_due,
  .methodLink "WideMachineLaw" 55 y_mm_due,
  .code y_mm_due b_mm_due 3 (some .int),
  .instanceMethod y_mm_due,
  .selects "WideMachineModel" y_mm_due y_mm_due,
  .methodLink "WideMachineLaw" 56 y_xm_raise,
  .code y_xm_raise b_xm_raise 2 (some .boolean),
  .instanceMethod y_xm_raise,
  .selects "WideMachine" y_xm_raise y_xm_raise,
  .methodLink "WideMachineLaw" 60 y_mm_raise,
  .code y_mm_raise b_mm_raise 2 (some .boolean),
  .instanceMethod y_mm_raise,
  .selects "WideMachineModel" y_mm_raise y_mm_raise,
  .methodLink "WideMachineLaw" 61 y_xm_letIn,
  .code y_xm_letIn b_xm_letIn 2 none,
  .instanceMethod y_xm_letIn,
  .selects "WideMachine" y_xm_letIn y_xm_letIn,
  .methodLink "WideMachineLaw" 65 y_mm_letIn,
  .code y_mm_letIn b_mm_letIn 2 none,
  .instanceMethod y_mm_letIn,
  .selects "WideMachineModel" y_mm_letIn y_mm_letIn,
  .methodLink "WideMachineLaw" 66 y_xm_start,
  .code y_xm_start b_xm_start 2 (some .boolean),
  .instanceMethod y_xm_start,
  .selects "WideMachine" y_xm_start y_xm_start,
  .methodLink "WideMachineLaw" 69 y_mm_start,
  .code y_mm_start b_mm_start 2 (some .boolean),
  .instanceMethod y_mm_start,
  .selects "WideMachineModel" y_mm_start y_mm_start]
theorem vl_0 : Cond.methodLink "WideMachineLaw" 21 y_xm_word ∈ vw_L ++ vw_T := List.mem_append_left _ (List.mem_of_getElem? (i := 0) rfl)
theorem vl_1 : Cond.code y_xm_word b_xm_word 3 (some .boolean) ∈ vw_L ++ vw_T := List.mem_append_left _ (List.mem_of_getElem? (i := 1) rfl)
theorem vl_2 : Cond.initialized "WideMachine" ∈ vw_L ++ vw_T := List.mem_append_left _ (List.mem_of_getElem? (i := 2) rfl)
theorem vl_3 : Cond.instanceMethod y_xm_word ∈ vw_L ++ vw_T := List.mem_append_left _ (List.mem_of_getElem? (i := 3) rfl)
theorem vl_4 : Cond.selects "WideMachine" y_xm_word y_xm_word ∈ vw_L ++ vw_T := List.mem_append_left _ (List.mem_of_getElem? (i := 4) rfl)
theorem vl_5 : Cond.methodLink "WideMachineLaw" 25 y_mm_word ∈ vw_L ++ vw_T := List.mem_append_left _ (List.mem_of_getElem? (i := 5) rfl)
theorem vl_6 : Cond.code y_mm_word b_mm_word 3 (some .boolean) ∈ vw_L ++ vw_T := List.mem_append_left _ (List.mem_of_getElem? (i := 6) rfl)
theorem vl_7 : Cond.initialized "WideMachineModel" ∈ vw_L ++ vw_T := List.mem_append_left _ (List.mem_of_getElem? (i := 7) rfl)
theorem vl_8 : Cond.instanceMethod y_mm_word ∈ vw_L ++ vw_T := List.mem_append_left _ (List.mem_of_getElem? (i := 8) rfl)
theorem vl_9 : Cond.selects "WideMachineModel" y_mm_word y_mm_word ∈ vw_L ++ vw_T := List.mem_append_left _ (List.mem_of_getElem? (i := 9) rfl)
theorem vl_10 : Cond.methodLink "WideMachineLaw" 26 y_xm_poke ∈ vw_L ++ vw_T := List.mem_append_left _ (List.mem_of_getElem? (i := 10) rfl)
theorem vl_11 : Cond.code y_xm_poke b_xm_poke 3 (some .boolean) ∈ vw_L ++ vw_T := List.mem_append_left _ (List.mem_of_getElem? (i := 11) rfl)
theorem vl_12 : Cond.instanceMethod y_xm_poke ∈ vw_L ++ vw_T := List.mem_append_left _ (List.mem_of_getElem? (i := 12) rfl)
theorem vl_13 : Cond.selects "WideMachine" y_xm_poke y_xm_poke ∈ vw_L ++ vw_T := List.mem_append_left _ (List.mem_of_getElem? (i := 13) rfl)
theorem vl_14 : Cond.methodLink "WideMachineLaw" 29 y_mm_poke ∈ vw_L ++ vw_T := List.mem_append_left _ (List.mem_of_getElem? (i := 14) rfl)
theorem vl_15 : Cond.code y_mm_poke b_mm_poke 3 (some .boolean) ∈ vw_L ++ vw_T := List.mem_append_left _ (List.mem_of_getElem? (i := 15) rfl)
theorem vl_16 : Cond.instanceMethod y_mm_poke ∈ vw_L ++ vw_T := List.mem_append_left _ (List.mem_of_getElem? (i := 16) rfl)
theorem vl_17 : Cond.selects "WideMachineModel" y_mm_poke y_mm_poke ∈ vw_L ++ vw_T := List.mem_append_left _ (List.mem_of_getElem? (i := 17) rfl)
theorem vl_18 : Cond.methodLink "WideMachineLaw" 30 y_xm_peek ∈ vw_L ++ vw_T := List.mem_append_left _ (List.mem_of_getElem? (i := 18) rfl)
theorem vl_19 : Cond.code y_xm_peek b_xm_peek 2 (some .int) ∈ vw_L ++ vw_T := List.mem_append_left _ (List.mem_of_getElem? (i := 19) rfl)
theorem vl_20 : Cond.instanceMethod y_xm_peek ∈ vw_L ++ vw_T := List.mem_append_left _ (List.mem_of_getElem? (i := 20) rfl)
theorem vl_21 : Cond.selects "WideMachine" y_xm_peek y_xm_peek ∈ vw_L ++ vw_T := List.mem_append_left _ (List.mem_of_getElem? (i := 21) rfl)
theorem vl_22 : Cond.methodLink "WideMachineLaw" 34 y_mm_peek ∈ vw_L ++ vw_T := List.mem_append_left _ (List.mem_of_getElem? (i := 22) rfl)
theorem vl_23 : Cond.code y_mm_peek b_mm_peek 2 (some .int) ∈ vw_L ++ vw_T := List.mem_append_left _ (List.mem_of_getElem? (i := 23) rfl)
theorem vl_24 : Cond.instanceMethod y_mm_peek ∈ vw_L ++ vw_T := List.mem_append_left _ (List.mem_of_getElem? (i := 24) rfl)
theorem vl_25 : Cond.selects "WideMachineModel" y_mm_peek y_mm_peek ∈ vw_L ++ vw_T := List.mem_append_left _ (List.mem_of_getElem? (i := 25) rfl)
theorem vl_26 : Cond.methodLink "WideMachineLaw" 35 y_xm_set ∈ vw_L ++ vw_T := List.mem_append_left _ (List.mem_of_getElem? (i := 26) rfl)
theorem vl_27 : Cond.code y_xm_set b_xm_set 3 (some .boolean) ∈ vw_L ++ vw_T := List.mem_append_left _ (List.mem_of_getElem? (i := 27) rfl)
theorem vl_28 : Cond.instanceMethod y_xm_set ∈ vw_L ++ vw_T := List.mem_append_left _ (List.mem_of_getElem? (i := 28) rfl)
theorem vl_29 : Cond.selects "WideMachine" y_xm_set y_xm_set ∈ vw_L ++ vw_T := List.mem_append_left _ (List.mem_of_getElem? (i := 29) rfl)
theorem vl_30 : Cond.methodLink "WideMachineLaw" 38 y_mm_set ∈ vw_L ++ vw_T := List.mem_append_left _ (List.mem_of_getElem? (i := 30) rfl)
theorem vl_31 : Cond.code y_mm_set b_mm_set 3 (some .boolean) ∈ vw_L ++ vw_T := List.mem_append_left _ (List.mem_of_getElem? (i := 31) rfl)
theorem vl_32 : Cond.instanceMethod y_mm_set ∈ vw_L ++ vw_T := List.mem_append_left _ (List.mem_of_getElem? (i := 32) rfl)
theorem vl_33 : Cond.selects "WideMachineModel" y_mm_set y_mm_set ∈ vw_L ++ vw_T := List.mem_append_left _ (List.mem_of_getElem? (i := 33) rfl)
theorem vl_34 : Cond.methodLink "WideMachineLaw" 39 y_xm_get ∈ vw_L ++ vw_T := List.mem_append_left _ (List.mem_of_getElem? (i := 34) rfl)
theorem vl_35 : Cond.code y_xm_get b_xm_get 2 (some .int) ∈ vw_L ++ vw_T := List.mem_append_left _ (List.mem_of_getElem? (i := 35) rfl)
theorem vl_36 : Cond.instanceMethod y_xm_get ∈ vw_L ++ vw_T := List.mem_append_left _ (List.mem_of_getElem? (i := 36) rfl)
theorem vl_37 : Cond.selects "WideMachine" y_xm_get y_xm_get ∈ vw_L ++ vw_T := List.mem_append_left _ (List.mem_of_getElem? (i := 37) rfl)
theorem vl_38 : Cond.methodLink "WideMachineLaw" 42 y_mm_get ∈ vw_L ++ vw_T := List.mem_append_left _ (List.mem_of_getElem? (i := 38) rfl)
theorem vl_39 : Cond.code y_mm_get b_mm_get 2 (some .int) ∈ vw_L ++ vw_T := List.mem_append_left _ (List.mem_of_getElem? (i := 39) rfl)
theorem vl_40 : Cond.instanceMethod y_mm_get ∈ vw_L ++ vw_T := List.mem_append_left _ (List.mem_of_getElem? (i := 40) rfl)
theorem vl_41 : Cond.selects "WideMachineModel" y_mm_get y_mm_get ∈ vw_L ++ vw_T := List.mem_append_left _ (List.mem_of_getElem? (i := 41) rfl)
theorem vl_42 : Cond.methodLink "WideMachineLaw" 43 y_xm_run ∈ vw_L ++ vw_T := List.mem_append_left _ (List.mem_of_getElem? (i := 42) rfl)
theorem vl_43 : Cond.code y_xm_run b_xm_run 3 (some .int) ∈ vw_L ++ vw_T := List.mem_append_left _ (List.mem_of_getElem? (i := 43) rfl)
theorem vl_44 : Cond.instanceMethod y_xm_run ∈ vw_L ++ vw_T := List.mem_append_left _ (List.mem_of_getElem? (i := 44) rfl)
theorem vl_45 : Cond.selects "WideMachine" y_xm_run y_xm_run ∈ vw_L ++ vw_T := List.mem_append_left _ (List.mem_of_getElem? (i := 45) rfl)
theorem vl_46 : Cond.methodLink "WideMachineLaw" 46 y_mm_run ∈ vw_L ++ vw_T := List.mem_append_left _ (List.mem_of_getElem? (i := 46) rfl)
theorem vl_47 : Cond.code y_mm_run b_mm_run 3 (some .int) ∈ vw_L ++ vw_T := List.mem_append_left _ (List.mem_of_getElem? (i := 47) rfl)
theorem vl_48 : Cond.instanceMethod y_mm_run ∈ vw_L ++ vw_T := List.mem_append_left _ (List.mem_of_getElem? (i := 48) rfl)
theorem vl_49 : Cond.selects "WideMachineModel" y_mm_run y_mm_run ∈ vw_L ++ vw_T := List.mem_append_left _ (List.mem_of_getElem? (i := 49) rfl)
theorem vl_50 : Cond.methodLink "WideMachineLaw" 47 y_xm_about ∈ vw_L ++ vw_T := List.mem_append_left _ (List.mem_of_getElem? (i := 50) rfl)
theorem vl_51 : Cond.code y_xm_about b_xm_about 2 (some .int) ∈ vw_L ++ vw_T := List.mem_append_left _ (List.mem_of_getElem? (i := 51) rfl)
theorem vl_52 : Cond.instanceMethod y_xm_about ∈ vw_L ++ vw_T := List.mem_append_left _ (List.mem_of_getElem? (i := 52) rfl)
theorem vl_53 : Cond.selects "WideMachine" y_xm_about y_xm_about ∈ vw_L ++ vw_T := List.mem_append_left _ (List.mem_of_getElem? (i := 53) rfl)
theorem vl_54 : Cond.methodLink "WideMachineLaw" 50 y_mm_about ∈ vw_L ++ vw_T := List.mem_append_left _ (List.mem_of_getElem? (i := 54) rfl)
theorem vl_55 : Cond.code y_mm_about b_mm_about 2 (some .int) ∈ vw_L ++ vw_T := List.mem_append_left _ (List.mem_of_getElem? (i := 55) rfl)
theorem vl_56 : Cond.instanceMethod y_mm_about ∈ vw_L ++ vw_T := List.mem_append_left _ (List.mem_of_getElem? (i := 56) rfl)
theorem vl_57 : Cond.selects "WideMachineModel" y_mm_about y_mm_about ∈ vw_L ++ vw_T := List.mem_append_left _ (List.mem_of_getElem? (i := 57) rfl)
theorem vl_58 : Cond.methodLink "WideMachineLaw" 51 y_xm_due ∈ vw_L ++ vw_T := List.mem_append_left _ (List.mem_of_getElem? (i := 58) rfl)
theorem vl_59 : Cond.code y_xm_due b_xm_due 3 (some .int) ∈ vw_L ++ vw_T := List.mem_append_left _ (List.mem_of_getElem? (i := 59) rfl)
theorem vl_60 : Cond.instanceMethod y_xm_due ∈ vw_L ++ vw_T := List.mem_append_left _ (List.mem_of_getElem? (i := 60) rfl)
theorem vl_61 : Cond.selects "WideMachine" y_xm_due y_xm_due ∈ vw_L ++ vw_T := List.mem_append_left _ (List.mem_of_getElem? (i := 61) rfl)
theorem vl_62 : Cond.methodLink "WideMachineLaw" 55 y_mm_due ∈ vw_L ++ vw_T := List.mem_append_left _ (List.mem_of_getElem? (i := 62) rfl)
theorem vl_63 : Cond.code y_mm_due b_mm_due 3 (some .int) ∈ vw_L ++ vw_T := List.mem_append_left _ (List.mem_of_getElem? (i := 63) rfl)
theorem vl_64 : Cond.instanceMethod y_mm_due ∈ vw_L ++ vw_T := List.mem_append_left _ (List.mem_of_getElem? (i := 64) rfl)
theorem vl_65 : Cond.selects "WideMachineModel" y_mm_due y_mm_due ∈ vw_L ++ vw_T := List.mem_append_left _ (List.mem_of_getElem? (i := 65) rfl)
theorem vl_66 : Cond.methodLink "WideMachineLaw" 56 y_xm_raise ∈ vw_L ++ vw_T := List.mem_append_left _ (List.mem_of_getElem? (i := 66) rfl)
theorem vl_67 : Cond.code y_xm_raise b_xm_raise 2 (some .boolean) ∈ vw_L ++ vw_T := List.mem_append_left _ (List.mem_of_getElem? (i := 67) rfl)
theorem vl_68 : Cond.instanceMethod y_xm_raise ∈ vw_L ++ vw_T := List.mem_append_left _ (List.mem_of_getElem? (i := 68) rfl)
theorem vl_69 : Cond.selects "WideMachine" y_xm_raise y_xm_raise ∈ vw_L ++ vw_T := List.mem_append_left _ (List.mem_of_getElem? (i := 69) rfl)
theorem vl_70 : Cond.methodLink "WideMachineLaw" 60 y_mm_raise ∈ vw_L ++ vw_T := List.mem_append_left _ (List.mem_of_getElem? (i := 70) rfl)
theorem vl_71 : Cond.code y_mm_raise b_mm_raise 2 (some .boolean) ∈ vw_L ++ vw_T := List.mem_append_left _ (List.mem_of_getElem? (i := 71) rfl)
theorem vl_72 : Cond.instanceMethod y_mm_raise ∈ vw_L ++ vw_T := List.mem_append_left _ (List.mem_of_getElem? (i := 72) rfl)
theorem vl_73 : Cond.selects "WideMachineModel" y_mm_raise y_mm_raise ∈ vw_L ++ vw_T := List.mem_append_left _ (List.mem_of_getElem? (i := 73) rfl)
theorem vl_74 : Cond.methodLink "WideMachineLaw" 61 y_xm_letIn ∈ vw_L ++ vw_T := List.mem_append_left _ (List.mem_of_getElem? (i := 74) rfl)
theorem vl_75 : Cond.code y_xm_letIn b_xm_letIn 2 none ∈ vw_L ++ vw_T := List.mem_append_left _ (List.mem_of_getElem? (i := 75) rfl)
theorem vl_76 : Cond.instanceMethod y_xm_letIn ∈ vw_L ++ vw_T := List.mem_append_left _ (List.mem_of_getElem? (i := 76) rfl)
theorem vl_77 : Cond.selects "WideMachine" y_xm_letIn y_xm_letIn ∈ vw_L ++ vw_T := List.mem_append_left _ (List.mem_of_getElem? (i := 77) rfl)
theorem vl_78 : Cond.methodLink "WideMachineLaw" 65 y_mm_letIn ∈ vw_L ++ vw_T := List.mem_append_left _ (List.mem_of_getElem? (i := 78) rfl)
theorem vl_79 : Cond.code y_mm_letIn b_mm_letIn 2 none ∈ vw_L ++ vw_T := List.mem_append_left _ (List.mem_of_getElem? (i := 79) rfl)
theorem vl_80 : Cond.instanceMethod y_mm_letIn ∈ vw_L ++ vw_T := List.mem_append_left _ (List.mem_of_getElem? (i := 80) rfl)
theorem vl_81 : Cond.selects "WideMachineModel" y_mm_letIn y_mm_letIn ∈ vw_L ++ vw_T := List.mem_append_left _ (List.mem_of_getElem? (i := 81) rfl)
theorem vl_82 : Cond.methodLink "WideMachineLaw" 66 y_xm_start ∈ vw_L ++ vw_T := List.mem_append_left _ (List.mem_of_getElem? (i := 82) rfl)
theorem vl_83 : Cond.code y_xm_start b_xm_start 2 (some .boolean) ∈ vw_L ++ vw_T := List.mem_append_left _ (List.mem_of_getElem? (i := 83) rfl)
theorem vl_84 : Cond.instanceMethod y_xm_start ∈ vw_L ++ vw_T := List.mem_append_left _ (List.mem_of_getElem? (i := 84) rfl)
theorem vl_85 : Cond.selects "WideMachine" y_xm_start y_xm_start ∈ vw_L ++ vw_T := List.mem_append_left _ (List.mem_of_getElem? (i := 85) rfl)
theorem vl_86 : Cond.methodLink "WideMachineLaw" 69 y_mm_start ∈ vw_L ++ vw_T := List.mem_append_left _ (List.mem_of_getElem? (i := 86) rfl)
theorem vl_87 : Cond.code y_mm_start b_mm_start 2 (some .boolean) ∈ vw_L ++ vw_T := List.mem_append_left _ (List.mem_of_getElem? (i := 87) rfl)
theorem vl_88 : Cond.instanceMethod y_mm_start ∈ vw_L ++ vw_T := List.mem_append_left _ (List.mem_of_getElem? (i := 88) rfl)
theorem vl_89 : Cond.selects "WideMachineModel" y_mm_start y_mm_start ∈ vw_L ++ vw_T := List.mem_append_left _ (List.mem_of_getElem? (i := 89) rfl)
theorem vw_LG : ∀ w ∈ vw_L, (w.onTables && w.keeps) = true := List.all_eq_true.mp (by decide +kernel : vw_L.all (fun w => w.onTables && w.keeps) = true)
theorem ml_good {y : MethodName} {bytes : ByteArray} {maxL : Nat} {rt : Option FieldType} (h : Cond.code y bytes maxL rt ∈ vw_L ++ vw_T) : GoodIn (vw_L ++ vw_T) (Cond.code y bytes maxL rt :: vw_T) := by
  intro w hw
  rcases List.mem_cons.mp hw with rfl | h1
  · refine ⟨h, Or.inl rfl⟩
  · exact ⟨List.mem_append_right _ h1, (vw_G w h1).2⟩
noncomputable def tb_law (np nd Ln : Nat) (xs : Nat → Int32) : List (Nat × mx_TG ml_S) := [
  (38, mx_iload_n 3 38),
  (39, mx_aload_n 0 39),
  (40, ml_slen Ln 40),
  (41, mx_iconst 3 41),
  (42, mx_isub 42),
  (43, mx_icmp_gt 425 43),
  (46, mx_aload_n 0 46),
  (47, mx_iload_n 3 47),
  (48, ml_sld Ln xs 48),
  (49, mx_bipush 15 49),
  (51, mx_iand 51),
  (52, mx_tsw 419 [(0, 112), (1, 145), (2, 178), (3, 201), (4, 234), (5, 257), (6, 280), (7, 303), (8, 336), (9, 359), (10, 396)] 52),
  (112, mx_aload_n 1 112),
  (113, mx_aload_n 0 113),
  (114, mx_iload_n 3 114),
  (115, mx_iconst 1 115),
  (116, mx_iadd 116),
  (117, ml_sld Ln xs 117),
  (118, mx_aload_n 0 118),
  (119, mx_iload_n 3 119),
  (120, mx_iconst 2 120),
  (121, mx_iadd 121),
  (122, ml_sld Ln xs 122),
  (123, ml_invX 2 (pre_xm_word np nd) (fn_xm_word np nd) 123),
  (126, mx_aload_n 2 126),
  (127, mx_aload_n 0 127),
  (128, mx_iload_n 3 128),
  (129, mx_iconst 1 129),
  (130, mx_iadd 130),
  (131, ml_sld Ln xs 131),
  (132, mx_aload_n 0 132),
  (133, mx_iload_n 3 133),
  (134, mx_iconst 2 134),
  (135, mx_iadd 135),
  (136, ml_sld Ln xs 136),
  (137, ml_invM 2 pre_mm_word fn_mm_word 137),
  (140, mx_icmp_eq 419 140),
  (143, mx_iconst 0 143),
  (144, mx_zret 144),
  (145, mx_aload_n 1 145),
  (146, mx_aload_n 0 146),
  (147, mx_iload_n 3 147),
  (148, mx_iconst 1 148),
  (149, mx_iadd 149),
  (150, ml_sld Ln xs 150),
  (151, mx_aload_n 0 151),
  (152, mx_iload_n 3 152),
  (153, mx_iconst 2 153),
  (154, mx_iadd 154),
  (155, ml_sld Ln xs 155),
  (156, ml_invX 2 (pre_xm_poke np nd) (fn_xm_poke np nd) 156),
  (159, mx_aload_n 2 159),
  (160, mx_aload_n 0 160),
  (161, mx_iload_n 3 161),
  (162, mx_iconst 1 162),
  (163, mx_iadd 163),
  (164, ml_sld Ln xs 164),
  (165, mx_aload_n 0 165),
  (166, mx_iload_n 3 166),
  (167, mx_iconst 2 167),
  (168, mx_iadd 168),
  (169, ml_sld Ln xs 169),
  (170, ml_invM 2 pre_mm_poke fn_mm_poke 170),
  (173, mx_icmp_eq 419 173),
  (176, mx_iconst 0 176),
  (177, mx_zret 177),
  (178, mx_aload_n 1 178),
  (179, mx_aload_n 0 179),
  (180, mx_iload_n 3 180),
  (181, mx_iconst 1 181),
  (182, mx_iadd 182),
  (183, ml_sld Ln xs 183),
  (184, ml_invX 1 (pre_xm_peek np nd) (fn_xm_peek np nd) 184),
  (187, mx_aload_n 2 187),
  (188, mx_aload_n 0 188),
  (189, mx_iload_n 3 189),
  (190, mx_iconst 1 190),
  (191, mx_iadd 191),
  (192, ml_sld Ln xs 192),
  (193, ml_invM 1 pre_mm_peek fn_mm_peek 193),
  (196, mx_icmp_eq 419 196),
  (199, mx_iconst 0 199),
  (200, mx_zret 200),
  (201, mx_aload_n 1 201),
  (202, mx_aload_n 0 202),
  (203, mx_iload_n 3 203),
  (204, mx_iconst 1 204),
  (205, mx_iadd 205),
  (206, ml_sld Ln xs 206),
  (207, mx_aload_n 0 207),
  (208, mx_iload_n 3 208),
  (209, mx_iconst 2 209),
  (210, mx_iadd 210),
  (211, ml_sld Ln xs 211),
  (212, ml_invX 2 (pre_xm_set np nd) (fn_xm_set np nd) 212),
  (215, mx_aload_n 2 215),
  (216, mx_aload_n 0 216),
  (217, mx_iload_n 3 217),
  (218, mx_iconst 1 218),
  (219, mx_iadd 219),
  (220, ml_sld Ln xs 220),
  (221, mx_aload_n 0 221),
  (222, mx_iload_n 3 222),
  (223, mx_iconst 2 223),
  (224, mx_iadd 224),
  (225, ml_sld Ln xs 225),
  (226, ml_invM 2 pre_mm_set fn_mm_set 226),
  (229, mx_icmp_eq 419 229),
  (232, mx_iconst 0 232),
  (233, mx_zret 233),
  (234, mx_aload_n 1 234),
  (235, mx_aload_n 0 235),
  (236, mx_iload_n 3 236),
  (237, mx_iconst 1 237),
  (238, mx_iadd 238),
  (239, ml_sld Ln xs 239),
  (240, ml_invX 1 (pre_xm_get np nd) (fn_xm_get np nd) 240),
  (243, mx_aload_n 2 243),
  (244, mx_aload_n 0 244),
  (245, mx_iload_n 3 245),
  (246, mx_iconst 1 246),
  (247, mx_iadd 247),
  (248, ml_sld Ln xs 248),
  (249, ml_invM 1 pre_mm_get fn_mm_get 249),
  (252, mx_icmp_eq 419 252),
  (255, mx_iconst 0 255),
  (256, mx_zret 256),
  (257, mx_aload_n 1 257),
  (258, mx_aload_n 0 258),
  (259, mx_iload_n 3 259),
  (260, mx_iconst 1 260),
  (261, mx_iadd 261),
  (262, ml_sld Ln xs 262),
  (263, ml_invX 1 (pre_xm_run np nd) (fn_xm_run np nd) 263),
  (266, mx_aload_n 2 266),
  (267, mx_aload_n 0 267),
  (268, mx_iload_n 3 268),
  (269, mx_iconst 1 269),
  (270, mx_iadd 270),
  (271, ml_sld Ln xs 271),
  (272, ml_invM 1 pre_mm_run fn_mm_run 272),
  (275, mx_icmp_eq 419 275),
  (278, mx_iconst 0 278),
  (279, mx_zret 279),
  (280, mx_aload_n 1 280),
  (281, mx_aload_n 0 281),
  (282, mx_iload_n 3 282),
  (283, mx_iconst 1 283),
  (284, mx_iadd 284),
  (285, ml_sld Ln xs 285),
  (286, ml_invX 1 (pre_xm_about np nd) (fn_xm_about np nd) 286),
  (289, mx_aload_n 2 289),
  (290, mx_aload_n 0 290),
  (291, mx_iload_n 3 291),
  (292, mx_iconst 1 292),
  (293, mx_iadd 293),
  (294, ml_sld Ln xs 294),
  (295, ml_invM 1 pre_mm_about fn_mm_about 295),
  (298, mx_icmp_eq 419 298),
  (301, mx_iconst 0 301),
  (302, mx_zret 302),
  (303, mx_aload_n 1 303),
  (304, mx_aload_n 0 304),
  (305, mx_iload_n 3 305),
  (306, mx_iconst 1 306),
  (307, mx_iadd 307),
  (308, ml_sld Ln xs 308),
  (309, mx_aload_n 0 309),
  (310, mx_iload_n 3 310),
  (311, mx_iconst 2 311),
  (312, mx_iadd 312),
  (313, ml_sld Ln xs 313),
  (314, ml_invX 2 (pre_xm_due np nd) (fn_xm_due np nd) 314),
  (317, mx_aload_n 2 317),
  (318, mx_aload_n 0 318),
  (319, mx_iload_n 3 319),
  (320, mx_iconst 1 320),
  (321, mx_iadd 321),
  (322, ml_sld Ln xs 322),
  (323, mx_aload_n 0 323),
  (324, mx_iload_n 3 324),
  (325, mx_iconst 2 325),
  (326, mx_iadd 326),
  (327, ml_sld Ln xs 327),
  (328, ml_invM 2 pre_mm_due fn_mm_due 328),
  (331, mx_icmp_eq 419 331),
  (334, mx_iconst 0 334),
  (335, mx_zret 335),
  (336, mx_aload_n 1 336),
  (337, mx_aload_n 0 337),
  (338, mx_iload_n 3 338),
  (339, mx_iconst 1 339),
  (340, mx_iadd 340),
  (341, ml_sld Ln xs 341),
  (342, ml_invX 1 (pre_xm_raise np nd) (fn_xm_raise np nd) 342),
  (345, mx_aload_n 2 345),
  (346, mx_aload_n 0 346),
  (347, mx_iload_n 3 347),
  (348, mx_iconst 1 348),
  (349, mx_iadd 349),
  (350, ml_sld Ln xs 350),
  (351, ml_invM 1 pre_mm_raise fn_mm_raise 351),
  (354, mx_icmp_eq 419 354),
  (357, mx_iconst 0 357),
  (358, mx_zret 358),
  (359, mx_aload_n 1 359),
  (360, mx_aload_n 0 360),
  (361, mx_iload_n 3 361),
  (362, mx_iconst 1 362),
  (363, mx_iadd 363),
  (364, ml_sld Ln xs 364),
  (365, mx_if_eq 372 365),
  (368, mx_iconst 1 368),
  (369, mx_goto 373 369),
  (372, mx_iconst 0 372),
  (373, ml_invX 1 (pre_xm_letIn np nd) (fn_xm_letIn np nd) 373),
  (376, mx_aload_n 2 376),
  (377, mx_aload_n 0 377),
  (378, mx_iload_n 3 378),
  (379, mx_iconst 1 379),
  (380, mx_iadd 380),
  (381, ml_sld Ln xs 381),
  (382, mx_if_eq 389 382),
  (385, mx_iconst 1 385),
  (386, mx_goto 390 386),
  (389, mx_iconst 0 389),
  (390, ml_invM 1 pre_mm_letIn fn_mm_letIn 390),
  (393, mx_goto 419 393),
  (396, mx_aload_n 1 396),
  (397, mx_aload_n 0 397),
  (398, mx_iload_n 3 398),
  (399, mx_iconst 1 399),
  (400, mx_iadd 400),
  (401, ml_sld Ln xs 401),
  (402, ml_invX 1 (pre_xm_start np nd) (fn_xm_start np nd) 402),
  (405, mx_aload_n 2 405),
  (406, mx_aload_n 0 406),
  (407, mx_iload_n 3 407),
  (408, mx_iconst 1 408),
  (409, mx_iadd 409),
  (410, ml_sld Ln xs 410),
  (411, ml_invM 1 pre_mm_start fn_mm_start 411),
  (414, mx_icmp_eq 419 414),
  (417, mx_iconst 0 417),
  (418, mx_zret 418),
  (419, mx_iinc 3 3 419),
  (422, mx_goto 38 422),
  (425, mx_iconst 1 425),
  (426, mx_zret 426)]
set_option maxRecDepth 100000 in
set_option maxHeartbeats 4000000 in
theorem ok_law (l : Launch) (np nd Ln : Nat) (xs : Nat → Int32) : ∀ q ∈ tb_law np nd Ln xs, mx_OkG (ml_wd np nd) 22 (ml_G Ln xs) l room_1 code 4 "WideMachineLaw" (some .boolean) (vw_L ++ vw_T) vw_cl q.1 q.2 := by
  refine List.forall_mem_cons.mpr ⟨mx_ok_iload_n (show decode code 38 = .ok (.iload_n 3, 1) by decide +kernel) rfl, ?_⟩
  refine List.forall_mem_cons.mpr ⟨mx_ok_aload_n (show decode code 39 = .ok (.aload_n 0, 1) by decide +kernel) rfl, ?_⟩
  refine List.forall_mem_cons.mpr ⟨ml_ok_slen (show decode code 40 = .ok (.arraylength, 1) by decide +kernel), ?_⟩
  refine List.forall_mem_cons.mpr ⟨mx_ok_iconst (show decode code 41 = .ok (.iconst 3, 1) by decide +kernel) (by decide), ?_⟩
  refine List.forall_mem_cons.mpr ⟨mx_ok_isub (show decode code 42 = .ok (.isub, 1) by decide +kernel), ?_⟩
  refine List.forall_mem_cons.mpr ⟨mx_ok_icmp_gt (show decode code 43 = .ok (.if_icmp .gt 382, 3) by decide +kernel) (by decide), ?_⟩
  refine List.forall_mem_cons.mpr ⟨mx_ok_aload_n (show decode code 46 = .ok (.aload_n 0, 1) by decide +kernel) rfl, ?_⟩
  refine List.forall_mem_cons.mpr ⟨mx_ok_iload_n (show decode code 47 = .ok (.iload_n 3, 1) by decide +kernel) rfl, ?_⟩
  refine List.forall_mem_cons.mpr ⟨ml_ok_sld (show decode code 48 = .ok (.iaload, 1) by decide +kernel), ?_⟩
  refine List.forall_mem_cons.mpr ⟨mx_ok_bipush (show decode code 49 = .ok (.bipush 15, 2) by decide +kernel) (by decide), ?_⟩
  refine List.forall_mem_cons.mpr ⟨mx_ok_iand (show decode code 51 = .ok (.iand, 1) by decide +kernel), ?_⟩
  refine List.forall_mem_cons.mpr ⟨mx_ok_tsw (show decode code 52 = .ok (.tableswitch 367 0 10 #[60, 93, 126, 149, 182, 205, 228, 251, 284, 307, 344], 60) by decide +kernel) (by decide) (by decide), ?_⟩
  refine List.forall_mem_cons.mpr ⟨mx_ok_aload_n (show decode code 112 = .ok (.aload_n 1, 1) by decide +kernel) rfl, ?_⟩
  refine List.forall_mem_cons.mpr ⟨mx_ok_aload_n (show decode code 113 = .ok (.aload_n 0, 1) by decide +kernel) rfl, ?_⟩
  refine List.forall_mem_cons.mpr ⟨mx_ok_iload_n (show decode code 114 = .ok (.iload_n 3, 1) by decide +kernel) rfl, ?_⟩
  refine List.forall_mem_cons.mpr ⟨mx_ok_iconst (show decode code 115 = .ok (.iconst 1, 1) by decide +kernel) (by decide), ?_⟩
  refine List.forall_mem_cons.mpr ⟨mx_ok_iadd (show decode code 116 = .ok (.iadd, 1) by decide +kernel), ?_⟩
  refine List.forall_mem_cons.mpr ⟨ml_ok_sld (show decode code 117 = .ok (.iaload, 1) by decide +kernel), ?_⟩
  refine List.forall_mem_cons.mpr ⟨mx_ok_aload_n (show decode code 118 = .ok (.aload_n 0, 1) by decide +kernel) rfl, ?_⟩
  refine List.forall_mem_cons.mpr ⟨mx_ok_iload_n (show decode code 119 = .ok (.iload_n 3, 1) by decide +kernel) rfl, ?_⟩
  refine List.forall_mem_cons.mpr ⟨mx_ok_iconst (show decode code 120 = .ok (.iconst 2, 1) by decide +kernel) (by decide), ?_⟩
  refine List.forall_mem_cons.mpr ⟨mx_ok_iadd (show decode code 121 = .ok (.iadd, 1) by decide +kernel), ?_⟩
  refine List.forall_mem_cons.mpr ⟨ml_ok_sld (show decode code 122 = .ok (.iaload, 1) by decide +kernel), ?_⟩
  refine List.forall_mem_cons.mpr ⟨ml_ok_invX (ct_xm_word l np nd) ⟨ml_good vl_1, vl_0, vl_2, ⟨by decide +kernel, by decide +kernel, by decide +kernel⟩, ⟨by decide, by decide⟩, rfl, rfl, vl_3, vl_4⟩ rfl rfl (show decode code 123 = .ok (.invokevirtual 21, 3) by decide +kernel), ?_⟩
  refine List.forall_mem_cons.mpr ⟨mx_ok_aload_n (show decode code 126 = .ok (.aload_n 2, 1) by decide +kernel) rfl, ?_⟩
  refine List.forall_mem_cons.mpr ⟨mx_ok_aload_n (show decode code 127 = .ok (.aload_n 0, 1) by decide +kernel) rfl, ?_⟩
  refine List.forall_mem_cons.mpr ⟨mx_ok_iload_n (show decode code 128 = .ok (.iload_n 3, 1) by decide +kernel) rfl, ?_⟩
  refine List.forall_mem_cons.mpr ⟨mx_ok_iconst (show decode code 129 = .ok (.iconst 1, 1) by decide +kernel) (by decide), ?_⟩
  refine List.forall_mem_cons.mpr ⟨mx_ok_iadd (show decode code 130 = .ok (.iadd, 1) by decide +kernel), ?_⟩
  refine List.forall_mem_cons.mpr ⟨ml_ok_sld (show decode code 131 = .ok (.iaload, 1) by decide +kernel), ?_⟩
  refine List.forall_mem_cons.mpr ⟨mx_ok_aload_n (show decode code 132 = .ok (.aload_n 0, 1) by decide +kernel) rfl, ?_⟩
  refine List.forall_mem_cons.mpr ⟨mx_ok_iload_n (show decode code 133 = .ok (.iload_n 3, 1) by decide +kernel) rfl, ?_⟩
  refine List.forall_mem_cons.mpr ⟨mx_ok_iconst (show decode code 134 = .ok (.iconst 2, 1) by decide +kernel) (by decide), ?_⟩
  refine List.forall_mem_cons.mpr ⟨mx_ok_iadd (show decode code 135 = .ok (.iadd, 1) by decide +kernel), ?_⟩
  refine List.forall_mem_cons.mpr ⟨ml_ok_sld (show decode code 136 = .ok (.iaload, 1) by decide +kernel), ?_⟩
  refine List.forall_mem_cons.mpr ⟨ml_ok_invM (ct_mm_word l) ⟨ml_good vl_6, vl_5, vl_7, ⟨by decide +kernel, by decide +kernel, by decide +kernel⟩, ⟨by decide, by decide⟩, rfl, rfl, vl_8, vl_9⟩ rfl rfl (show decode code 137 = .ok (.invokevirtual 25, 3) by decide +kernel), ?_⟩
  refine List.forall_mem_cons.mpr ⟨mx_ok_icmp_eq (show decode code 140 = .ok (.if_icmp .eq 279, 3) by decide +kernel) (by decide), ?_⟩
  refine List.forall_mem_cons.mpr ⟨mx_ok_iconst (show decode code 143 = .ok (.iconst 0, 1) by decide +kernel) (by decide), ?_⟩
  refine List.forall_mem_cons.mpr ⟨mx_ok_zret (show decode code 144 = .ok (.ireturn, 1) by decide +kernel) rfl, ?_⟩
  refine List.forall_mem_cons.mpr ⟨mx_ok_aload_n (show decode code 145 = .ok (.aload_n 1, 1) by decide +kernel) rfl, ?_⟩
  refine List.forall_mem_cons.mpr ⟨mx_ok_aload_n (show decode code 146 = .ok (.aload_n 0, 1) by decide +kernel) rfl, ?_⟩
  refine List.forall_mem_cons.mpr ⟨mx_ok_iload_n (show decode code 147 = .ok (.iload_n 3, 1) by decide +kernel) rfl, ?_⟩
  refine List.forall_mem_cons.mpr ⟨mx_ok_iconst (show decode code 148 = .ok (.iconst 1, 1) by decide +kernel) (by decide), ?_⟩
  refine List.forall_mem_cons.mpr ⟨mx_ok_iadd (show decode code 149 = .ok (.iadd, 1) by decide +kernel), ?_⟩
  refine List.forall_mem_cons.mpr ⟨ml_ok_sld (show decode code 150 = .ok (.iaload, 1) by decide +kernel), ?_⟩
  refine List.forall_mem_cons.mpr ⟨mx_ok_aload_n (show decode code 151 = .ok (.aload_n 0, 1) by decide +kernel) rfl, ?_⟩
  refine List.forall_mem_cons.mpr ⟨mx_ok_iload_n (show decode code 152 = .ok (.iload_n 3, 1) by decide +kernel) rfl, ?_⟩
  refine List.forall_mem_cons.mpr ⟨mx_ok_iconst (show decode code 153 = .ok (.iconst 2, 1) by decide +kernel) (by decide), ?_⟩
  refine List.forall_mem_cons.mpr ⟨mx_ok_iadd (show decode code 154 = .ok (.iadd, 1) by decide +kernel), ?_⟩
  refine List.forall_mem_cons.mpr ⟨ml_ok_sld (show decode code 155 = .ok (.iaload, 1) by decide +kernel), ?_⟩
  refine List.forall_mem_cons.mpr ⟨ml_ok_invX (ct_xm_poke l np nd) ⟨ml_good vl_11, vl_10, vl_2, ⟨by decide +kernel, by decide +kernel, by decide +kernel⟩, ⟨by decide, by decide⟩, rfl, rfl, vl_12, vl_13⟩ rfl rfl (show decode code 156 = .ok (.invokevirtual 26, 3) by decide +kernel), ?_⟩
  refine List.forall_mem_cons.mpr ⟨mx_ok_aload_n (show decode code 159 = .ok (.aload_n 2, 1) by decide +kernel) rfl, ?_⟩
  refine List.forall_mem_cons.mpr ⟨mx_ok_aload_n (show decode code 160 = .ok (.aload_n 0, 1) by decide +kernel) rfl, ?_⟩
  refine List.forall_mem_cons.mpr ⟨mx_ok_iload_n (show decode code 161 = .ok (.iload_n 3, 1) by decide +kernel) rfl, ?_⟩
  refine List.forall_mem_cons.mpr ⟨mx_ok_iconst (show decode code 162 = .ok (.iconst 1, 1) by decide +kernel) (by decide), ?_⟩
  refine List.forall_mem_cons.mpr ⟨mx_ok_iadd (show decode code 163 = .ok (.iadd, 1) by decide +kernel), ?_⟩
  refine List.forall_mem_cons.mpr ⟨ml_ok_sld (show decode code 164 = .ok (.iaload, 1) by decide +kernel), ?_⟩
  refine List.forall_mem_cons.mpr ⟨mx_ok_aload_n (show decode code 165 = .ok (.aload_n 0, 1) by decide +kernel) rfl, ?_⟩
  refine List.forall_mem_cons.mpr ⟨mx_ok_iload_n (show decode code 166 = .ok (.iload_n 3, 1) by decide +kernel) rfl, ?_⟩
  refine List.forall_mem_cons.mpr ⟨mx_ok_iconst (show decode code 167 = .ok (.iconst 2, 1) by decide +kernel) (by decide), ?_⟩
  refine List.forall_mem_cons.mpr ⟨mx_ok_iadd (show decode code 168 = .ok (.iadd, 1) by decide +kernel), ?_⟩
  refine List.forall_mem_cons.mpr ⟨ml_ok_sld (show decode code 169 = .ok (.iaload, 1) by decide +kernel), ?_⟩
  refine List.forall_mem_cons.mpr ⟨ml_ok_invM (ct_mm_poke l) ⟨ml_good vl_15, vl_14, vl_7, ⟨by decide +kernel, by decide +kernel, by decide +kernel⟩, ⟨by decide, by decide⟩, rfl, rfl, vl_16, vl_17⟩ rfl rfl (show decode code 170 = .ok (.invokevirtual 29, 3) by decide +kernel), ?_⟩
  refine List.forall_mem_cons.mpr ⟨mx_ok_icmp_eq (show decode code 173 = .ok (.if_icmp .eq 246, 3) by decide +kernel) (by decide), ?_⟩
  refine List.forall_mem_cons.mpr ⟨mx_ok_iconst (show decode code 176 = .ok (.iconst 0, 1) by decide +kernel) (by decide), ?_⟩
  refine List.forall_mem_cons.mpr ⟨mx_ok_zret (show decode code 177 = .ok (.ireturn, 1) by decide +kernel) rfl, ?_⟩
  refine List.forall_mem_cons.mpr ⟨mx_ok_aload_n (show decode code 178 = .ok (.aload_n 1, 1) by decide +kernel) rfl, ?_⟩
  refine List.forall_mem_cons.mpr ⟨mx_ok_aload_n (show decode code 179 = .ok (.aload_n 0, 1) by decide +kernel) rfl, ?_⟩
  refine List.forall_mem_cons.mpr ⟨mx_ok_iload_n (show decode code 180 = .ok (.iload_n 3, 1) by decide +kernel) rfl, ?_⟩
  refine List.forall_mem_cons.mpr ⟨mx_ok_iconst (show decode code 181 = .ok (.iconst 1, 1) by decide +kernel) (by decide), ?_⟩
  refine List.forall_mem_cons.mpr ⟨mx_ok_iadd (show decode code 182 = .ok (.iadd, 1) by decide +kernel), ?_⟩
  refine List.forall_mem_cons.mpr ⟨ml_ok_sld (show decode code 183 = .ok (.iaload, 1) by decide +kernel), ?_⟩
  refine List.forall_mem_cons.mpr ⟨ml_ok_invX (ct_xm_peek l np nd) ⟨ml_good vl_19, vl_18, vl_2, ⟨by decide +kernel, by decide +kernel, by decide +kernel⟩, ⟨by decide, by decide⟩, rfl, rfl, vl_20, vl_21⟩ rfl rfl (show decode code 184 = .ok (.invokevirtual 30, 3) by decide +kernel), ?_⟩
  refine List.forall_mem_cons.mpr ⟨mx_ok_aload_n (show decode code 187 = .ok (.aload_n 2, 1) by decide +kernel) rfl, ?_⟩
  refine List.forall_mem_cons.mpr ⟨mx_ok_aload_n (show decode code 188 = .ok (.aload_n 0, 1) by decide +kernel) rfl, ?_⟩
  refine List.forall_mem_cons.mpr ⟨mx_ok_iload_n (show decode code 189 = .ok (.iload_n 3, 1) by decide +kernel) rfl, ?_⟩
  refine List.forall_mem_cons.mpr ⟨mx_ok_iconst (show decode code 190 = .ok (.iconst 1, 1) by decide +kernel) (by decide), ?_⟩
  refine List.forall_mem_cons.mpr ⟨mx_ok_iadd (show decode code 191 = .ok (.iadd, 1) by decide +kernel), ?_⟩
  refine List.forall_mem_cons.mpr ⟨ml_ok_sld (show decode code 192 = .ok (.iaload, 1) by decide +kernel), ?_⟩
  refine List.forall_mem_cons.mpr ⟨ml_ok_invM (ct_mm_peek l) ⟨ml_good vl_23, vl_22, vl_7, ⟨by decide +kernel, by decide +kernel, by decide +kernel⟩, ⟨by decide, by decide⟩, rfl, rfl, vl_24, vl_25⟩ rfl rfl (show decode code 193 = .ok (.invokevirtual 34, 3) by decide +kernel), ?_⟩
  refine List.forall_mem_cons.mpr ⟨mx_ok_icmp_eq (show decode code 196 = .ok (.if_icmp .eq 223, 3) by decide +kernel) (by decide), ?_⟩
  refine List.forall_mem_cons.mpr ⟨mx_ok_iconst (show decode code 199 = .ok (.iconst 0, 1) by decide +kernel) (by decide), ?_⟩
  refine List.forall_mem_cons.mpr ⟨mx_ok_zret (show decode code 200 = .ok (.ireturn, 1) by decide +kernel) rfl, ?_⟩
  refine List.forall_mem_cons.mpr ⟨mx_ok_aload_n (show decode code 201 = .ok (.aload_n 1, 1) by decide +kernel) rfl, ?_⟩
  refine List.forall_mem_cons.mpr ⟨mx_ok_aload_n (show decode code 202 = .ok (.aload_n 0, 1) by decide +kernel) rfl, ?_⟩
  refine List.forall_mem_cons.mpr ⟨mx_ok_iload_n (show decode code 203 = .ok (.iload_n 3, 1) by decide +kernel) rfl, ?_⟩
  refine List.forall_mem_cons.mpr ⟨mx_ok_iconst (show decode code 204 = .ok (.iconst 1, 1) by decide +kernel) (by decide), ?_⟩
  refine List.forall_mem_cons.mpr ⟨mx_ok_iadd (show decode code 205 = .ok (.iadd, 1) by decide +kernel), ?_⟩
  refine List.forall_mem_cons.mpr ⟨ml_ok_sld (show decode code 206 = .ok (.iaload, 1) by decide +kernel), ?_⟩
  refine List.forall_mem_cons.mpr ⟨mx_ok_aload_n (show decode code 207 = .ok (.aload_n 0, 1) by decide +kernel) rfl, ?_⟩
  refine List.forall_mem_cons.mpr ⟨mx_ok_iload_n (show decode code 208 = .ok (.iload_n 3, 1) by decide +kernel) rfl, ?_⟩
  refine List.forall_mem_cons.mpr ⟨mx_ok_iconst (show decode code 209 = .ok (.iconst 2, 1) by decide +kernel) (by decide), ?_⟩
  refine List.forall_mem_cons.mpr ⟨mx_ok_iadd (show decode code 210 = .ok (.iadd, 1) by decide +kernel), ?_⟩
  refine List.forall_mem_cons.mpr ⟨ml_ok_sld (show decode code 211 = .ok (.iaload, 1) by decide +kernel), ?_⟩
  refine List.forall_mem_cons.mpr ⟨ml_ok_invX (ct_xm_set l np nd) ⟨ml_good vl_27, vl_26, vl_2, ⟨by decide +kernel, by decide +kernel, by decide +kernel⟩, ⟨by decide, by decide⟩, rfl, rfl, vl_28, vl_29⟩ rfl rfl (show decode code 212 = .ok (.invokevirtual 35, 3) by decide +kernel), ?_⟩
  refine List.forall_mem_cons.mpr ⟨mx_ok_aload_n (show decode code 215 = .ok (.aload_n 2, 1) by decide +kernel) rfl, ?_⟩
  refine List.forall_mem_cons.mpr ⟨mx_ok_aload_n (show decode code 216 = .ok (.aload_n 0, 1) by decide +kernel) rfl, ?_⟩
  refine List.forall_mem_cons.mpr ⟨mx_ok_iload_n (show decode code 217 = .ok (.iload_n 3, 1) by decide +kernel) rfl, ?_⟩
  refine List.forall_mem_cons.mpr ⟨mx_ok_iconst (show decode code 218 = .ok (.iconst 1, 1) by decide +kernel) (by decide), ?_⟩
  refine List.forall_mem_cons.mpr ⟨mx_ok_iadd (show decode code 219 = .ok (.iadd, 1) by decide +kernel), ?_⟩
  refine List.forall_mem_cons.mpr ⟨ml_ok_sld (show decode code 220 = .ok (.iaload, 1) by decide +kernel), ?_⟩
  refine List.forall_mem_cons.mpr ⟨mx_ok_aload_n (show decode code 221 = .ok (.aload_n 0, 1) by decide +kernel) rfl, ?_⟩
  refine List.forall_mem_cons.mpr ⟨mx_ok_iload_n (show decode code 222 = .ok (.iload_n 3, 1) by decide +kernel) rfl, ?_⟩
  refine List.forall_mem_cons.mpr ⟨mx_ok_iconst (show decode code 223 = .ok (.iconst 2, 1) by decide +kernel) (by decide), ?_⟩
  refine List.forall_mem_cons.mpr ⟨mx_ok_iadd (show decode code 224 = .ok (.iadd, 1) by decide +kernel), ?_⟩
  refine List.forall_mem_cons.mpr ⟨ml_ok_sld (show decode code 225 = .ok (.iaload, 1) by decide +kernel), ?_⟩
  refine List.forall_mem_cons.mpr ⟨ml_ok_invM (ct_mm_set l) ⟨ml_good vl_31, vl_30, vl_7, ⟨by decide +kernel, by decide +kernel, by decide +kernel⟩, ⟨by decide, by decide⟩, rfl, rfl, vl_32, vl_33⟩ rfl rfl (show decode code 226 = .ok (.invokevirtual 38, 3) by decide +kernel), ?_⟩
  refine List.forall_mem_cons.mpr ⟨mx_ok_icmp_eq (show decode code 229 = .ok (.if_icmp .eq 190, 3) by decide +kernel) (by decide), ?_⟩
  refine List.forall_mem_cons.mpr ⟨mx_ok_iconst (show decode code 232 = .ok (.iconst 0, 1) by decide +kernel) (by decide), ?_⟩
  refine List.forall_mem_cons.mpr ⟨mx_ok_zret (show decode code 233 = .ok (.ireturn, 1) by decide +kernel) rfl, ?_⟩
  refine List.forall_mem_cons.mpr ⟨mx_ok_aload_n (show decode code 234 = .ok (.aload_n 1, 1) by decide +kernel) rfl, ?_⟩
  refine List.forall_mem_cons.mpr ⟨mx_ok_aload_n (show decode code 235 = .ok (.aload_n 0, 1) by decide +kernel) rfl, ?_⟩
  refine List.forall_mem_cons.mpr ⟨mx_ok_iload_n (show decode code 236 = .ok (.iload_n 3, 1) by decide +kernel) rfl, ?_⟩
  refine List.forall_mem_cons.mpr ⟨mx_ok_iconst (show decode code 237 = .ok (.iconst 1, 1) by decide +kernel) (by decide), ?_⟩
  refine List.forall_mem_cons.mpr ⟨mx_ok_iadd (show decode code 238 = .ok (.iadd, 1) by decide +kernel), ?_⟩
  refine List.forall_mem_cons.mpr ⟨ml_ok_sld (show decode code 239 = .ok (.iaload, 1) by decide +kernel), ?_⟩
  refine List.forall_mem_cons.mpr ⟨ml_ok_invX (ct_xm_get l np nd) ⟨ml_good vl_35, vl_34, vl_2, ⟨by decide +kernel, by decide +kernel, by decide +kernel⟩, ⟨by decide, by decide⟩, rfl, rfl, vl_36, vl_37⟩ rfl rfl (show decode code 240 = .ok (.invokevirtual 39, 3) by decide +kernel), ?_⟩
  refine List.forall_mem_cons.mpr ⟨mx_ok_aload_n (show decode code 243 = .ok (.aload_n 2, 1) by decide +kernel) rfl, ?_⟩
  refine List.forall_mem_cons.mpr ⟨mx_ok_aload_n (show decode code 244 = .ok (.aload_n 0, 1) by decide +kernel) rfl, ?_⟩
  refine List.forall_mem_cons.mpr ⟨mx_ok_iload_n (show decode code 245 = .ok (.iload_n 3, 1) by decide +kernel) rfl, ?_⟩
  refine List.forall_mem_cons.mpr ⟨mx_ok_iconst (show decode code 246 = .ok (.iconst 1, 1) by decide +kernel) (by decide), ?_⟩
  refine List.forall_mem_cons.mpr ⟨mx_ok_iadd (show decode code 247 = .ok (.iadd, 1) by decide +kernel), ?_⟩
  refine List.forall_mem_cons.mpr ⟨ml_ok_sld (show decode code 248 = .ok (.iaload, 1) by decide +kernel), ?_⟩
  refine List.forall_mem_cons.mpr ⟨ml_ok_invM (ct_mm_get l) ⟨ml_good vl_39, vl_38, vl_7, ⟨by decide +kernel, by decide +kernel, by decide +kernel⟩, ⟨by decide, by decide⟩, rfl, rfl, vl_40, vl_41⟩ rfl rfl (show decode code 249 = .ok (.invokevirtual 42, 3) by decide +kernel), ?_⟩
  refine List.forall_mem_cons.mpr ⟨mx_ok_icmp_eq (show decode code 252 = .ok (.if_icmp .eq 167, 3) by decide +kernel) (by decide), ?_⟩
  refine List.forall_mem_cons.mpr ⟨mx_ok_iconst (show decode code 255 = .ok (.iconst 0, 1) by decide +kernel) (by decide), ?_⟩
  refine List.forall_mem_cons.mpr ⟨mx_ok_zret (show decode code 256 = .ok (.ireturn, 1) by decide +kernel) rfl, ?_⟩
  refine List.forall_mem_cons.mpr ⟨mx_ok_aload_n (show decode code 257 = .ok (.aload_n 1, 1) by decide +kernel) rfl, ?_⟩
  refine List.forall_mem_cons.mpr ⟨mx_ok_aload_n (show decode code 258 = .ok (.aload_n 0, 1) by decide +kernel) rfl, ?_⟩
  refine List.forall_mem_cons.mpr ⟨mx_ok_iload_n (show decode code 259 = .ok (.iload_n 3, 1) by decide +kernel) rfl, ?_⟩
  refine List.forall_mem_cons.mpr ⟨mx_ok_iconst (show decode code 260 = .ok (.iconst 1, 1) by decide +kernel) (by decide), ?_⟩
  refine List.forall_mem_cons.mpr ⟨mx_ok_iadd (show decode code 261 = .ok (.iadd, 1) by decide +kernel), ?_⟩
  refine List.forall_mem_cons.mpr ⟨ml_ok_sld (show decode code 262 = .ok (.iaload, 1) by decide +kernel), ?_⟩
  refine List.forall_mem_cons.mpr ⟨ml_ok_invX (ct_xm_run l np nd) ⟨ml_good vl_43, vl_42, vl_2, ⟨by decide +kernel, by decide +kernel, by decide +kernel⟩, ⟨by decide, by decide⟩, rfl, rfl, vl_44, vl_45⟩ rfl rfl (show decode code 263 = .ok (.invokevirtual 43, 3) by decide +kernel), ?_⟩
  refine List.forall_mem_cons.mpr ⟨mx_ok_aload_n (show decode code 266 = .ok (.aload_n 2, 1) by decide +kernel) rfl, ?_⟩
  refine List.forall_mem_cons.mpr ⟨mx_ok_aload_n (show decode code 267 = .ok (.aload_n 0, 1) by decide +kernel) rfl, ?_⟩
  refine List.forall_mem_cons.mpr ⟨mx_ok_iload_n (show decode code 268 = .ok (.iload_n 3, 1) by decide +kernel) rfl, ?_⟩
  refine List.forall_mem_cons.mpr ⟨mx_ok_iconst (show decode code 269 = .ok (.iconst 1, 1) by decide +kernel) (by decide), ?_⟩
  refine List.forall_mem_cons.mpr ⟨mx_ok_iadd (show decode code 270 = .ok (.iadd, 1) by decide +kernel), ?_⟩
  refine List.forall_mem_cons.mpr ⟨ml_ok_sld (show decode code 271 = .ok (.iaload, 1) by decide +kernel), ?_⟩
  refine List.forall_mem_cons.mpr ⟨ml_ok_invM (ct_mm_run l) ⟨ml_good vl_47, vl_46, vl_7, ⟨by decide +kernel, by decide +kernel, by decide +kernel⟩, ⟨by decide, by decide⟩, rfl, rfl, vl_48, vl_49⟩ rfl rfl (show decode code 272 = .ok (.invokevirtual 46, 3) by decide +kernel), ?_⟩
  refine List.forall_mem_cons.mpr ⟨mx_ok_icmp_eq (show decode code 275 = .ok (.if_icmp .eq 144, 3) by decide +kernel) (by decide), ?_⟩
  refine List.forall_mem_cons.mpr ⟨mx_ok_iconst (show decode code 278 = .ok (.iconst 0, 1) by decide +kernel) (by decide), ?_⟩
  refine List.forall_mem_cons.mpr ⟨mx_ok_zret (show decode code 279 = .ok (.ireturn, 1) by decide +kernel) rfl, ?_⟩
  refine List.forall_mem_cons.mpr ⟨mx_ok_aload_n (show decode code 280 = .ok (.aload_n 1, 1) by decide +kernel) rfl, ?_⟩
  refine List.forall_mem_cons.mpr ⟨mx_ok_aload_n (show decode code 281 = .ok (.aload_n 0, 1) by decide +kernel) rfl, ?_⟩
  refine List.forall_mem_cons.mpr ⟨mx_ok_iload_n (show decode code 282 = .ok (.iload_n 3, 1) by decide +kernel) rfl, ?_⟩
  refine List.forall_mem_cons.mpr ⟨mx_ok_iconst (show decode code 283 = .ok (.iconst 1, 1) by decide +kernel) (by decide), ?_⟩
  refine List.forall_mem_cons.mpr ⟨mx_ok_iadd (show decode code 284 = .ok (.iadd, 1) by decide +kernel), ?_⟩
  refine List.forall_mem_cons.mpr ⟨ml_ok_sld (show decode code 285 = .ok (.iaload, 1) by decide +kernel), ?_⟩
  refine List.forall_mem_cons.mpr ⟨ml_ok_invX (ct_xm_about l np nd) ⟨ml_good vl_51, vl_50, vl_2, ⟨by decide +kernel, by decide +kernel, by decide +kernel⟩, ⟨by decide, by decide⟩, rfl, rfl, vl_52, vl_53⟩ rfl rfl (show decode code 286 = .ok (.invokevirtual 47, 3) by decide +kernel), ?_⟩
  refine List.forall_mem_cons.mpr ⟨mx_ok_aload_n (show decode code 289 = .ok (.aload_n 2, 1) by decide +kernel) rfl, ?_⟩
  refine List.forall_mem_cons.mpr ⟨mx_ok_aload_n (show decode code 290 = .ok (.aload_n 0, 1) by decide +kernel) rfl, ?_⟩
  refine List.forall_mem_cons.mpr ⟨mx_ok_iload_n (show decode code 291 = .ok (.iload_n 3, 1) by decide +kernel) rfl, ?_⟩
  refine List.forall_mem_cons.mpr ⟨mx_ok_iconst (show decode code 292 = .ok (.iconst 1, 1) by decide +kernel) (by decide), ?_⟩
  refine List.forall_mem_cons.mpr ⟨mx_ok_iadd (show decode code 293 = .ok (.iadd, 1) by decide +kernel), ?_⟩
  refine List.forall_mem_cons.mpr ⟨ml_ok_sld (show decode code 294 = .ok (.iaload, 1) by decide +kernel), ?_⟩
  refine List.forall_mem_cons.mpr ⟨ml_ok_invM (ct_mm_about l) ⟨ml_good vl_55, vl_54, vl_7, ⟨by decide +kernel, by decide +kernel, by decide +kernel⟩, ⟨by decide, by decide⟩, rfl, rfl, vl_56, vl_57⟩ rfl rfl (show decode code 295 = .ok (.invokevirtual 50, 3) by decide +kernel), ?_⟩
  refine List.forall_mem_cons.mpr ⟨mx_ok_icmp_eq (show decode code 298 = .ok (.if_icmp .eq 121, 3) by decide +kernel) (by decide), ?_⟩
  refine List.forall_mem_cons.mpr ⟨mx_ok_iconst (show decode code 301 = .ok (.iconst 0, 1) by decide +kernel) (by decide), ?_⟩
  refine List.forall_mem_cons.mpr ⟨mx_ok_zret (show decode code 302 = .ok (.ireturn, 1) by decide +kernel) rfl, ?_⟩
  refine List.forall_mem_cons.mpr ⟨mx_ok_aload_n (show decode code 303 = .ok (.aload_n 1, 1) by decide +kernel) rfl, ?_⟩
  refine List.forall_mem_cons.mpr ⟨mx_ok_aload_n (show decode code 304 = .ok (.aload_n 0, 1) by decide +kernel) rfl, ?_⟩
  refine List.forall_mem_cons.mpr ⟨mx_ok_iload_n (show decode code 305 = .ok (.iload_n 3, 1) by decide +kernel) rfl, ?_⟩
  refine List.forall_mem_cons.mpr ⟨mx_ok_iconst (show decode code 306 = .ok (.iconst 1, 1) by decide +kernel) (by decide), ?_⟩
  refine List.forall_mem_cons.mpr ⟨mx_ok_iadd (show decode code 307 = .ok (.iadd, 1) by decide +kernel), ?_⟩
  refine List.forall_mem_cons.mpr ⟨ml_ok_sld (show decode code 308 = .ok (.iaload, 1) by decide +kernel), ?_⟩
  refine List.forall_mem_cons.mpr ⟨mx_ok_aload_n (show decode code 309 = .ok (.aload_n 0, 1) by decide +kernel) rfl, ?_⟩
  refine List.forall_mem_cons.mpr ⟨mx_ok_iload_n (show decode code 310 = .ok (.iload_n 3, 1) by decide +kernel) rfl, ?_⟩
  refine List.forall_mem_cons.mpr ⟨mx_ok_iconst (show decode code 311 = .ok (.iconst 2, 1) by decide +kernel) (by decide), ?_⟩
  refine List.forall_mem_cons.mpr ⟨mx_ok_iadd (show decode code 312 = .ok (.iadd, 1) by decide +kernel), ?_⟩
  refine List.forall_mem_cons.mpr ⟨ml_ok_sld (show decode code 313 = .ok (.iaload, 1) by decide +kernel), ?_⟩
  refine List.forall_mem_cons.mpr ⟨ml_ok_invX (ct_xm_due l np nd) ⟨ml_good vl_59, vl_58, vl_2, ⟨by decide +kernel, by decide +kernel, by decide +kernel⟩, ⟨by decide, by decide⟩, rfl, rfl, vl_60, vl_61⟩ rfl rfl (show decode code 314 = .ok (.invokevirtual 51, 3) by decide +kernel), ?_⟩
  refine List.forall_mem_cons.mpr ⟨mx_ok_aload_n (show decode code 317 = .ok (.aload_n 2, 1) by decide +kernel) rfl, ?_⟩
  refine List.forall_mem_cons.mpr ⟨mx_ok_aload_n (show decode code 318 = .ok (.aload_n 0, 1) by decide +kernel) rfl, ?_⟩
  refine List.forall_mem_cons.mpr ⟨mx_ok_iload_n (show decode code 319 = .ok (.iload_n 3, 1) by decide +kernel) rfl, ?_⟩
  refine List.forall_mem_cons.mpr ⟨mx_ok_iconst (show decode code 320 = .ok (.iconst 1, 1) by decide +kernel) (by decide), ?_⟩
  refine List.forall_mem_cons.mpr ⟨mx_ok_iadd (show decode code 321 = .ok (.iadd, 1) by decide +kernel), ?_⟩
  refine List.forall_mem_cons.mpr ⟨ml_ok_sld (show decode code 322 = .ok (.iaload, 1) by decide +kernel), ?_⟩
  refine List.forall_mem_cons.mpr ⟨mx_ok_aload_n (show decode code 323 = .ok (.aload_n 0, 1) by decide +kernel) rfl, ?_⟩
  refine List.forall_mem_cons.mpr ⟨mx_ok_iload_n (show decode code 324 = .ok (.iload_n 3, 1) by decide +kernel) rfl, ?_⟩
  refine List.forall_mem_cons.mpr ⟨mx_ok_iconst (show decode code 325 = .ok (.iconst 2, 1) by decide +kernel) (by decide), ?_⟩
  refine List.forall_mem_cons.mpr ⟨mx_ok_iadd (show decode code 326 = .ok (.iadd, 1) by decide +kernel), ?_⟩
  refine List.forall_mem_cons.mpr ⟨ml_ok_sld (show decode code 327 = .ok (.iaload, 1) by decide +kernel), ?_⟩
  refine List.forall_mem_cons.mpr ⟨ml_ok_invM (ct_mm_due l) ⟨ml_good vl_63, vl_62, vl_7, ⟨by decide +kernel, by decide +kernel, by decide +kernel⟩, ⟨by decide, by decide⟩, rfl, rfl, vl_64, vl_65⟩ rfl rfl (show decode code 328 = .ok (.invokevirtual 55, 3) by decide +kernel), ?_⟩
  refine List.forall_mem_cons.mpr ⟨mx_ok_icmp_eq (show decode code 331 = .ok (.if_icmp .eq 88, 3) by decide +kernel) (by decide), ?_⟩
  refine List.forall_mem_cons.mpr ⟨mx_ok_iconst (show decode code 334 = .ok (.iconst 0, 1) by decide +kernel) (by decide), ?_⟩
  refine List.forall_mem_cons.mpr ⟨mx_ok_zret (show decode code 335 = .ok (.ireturn, 1) by decide +kernel) rfl, ?_⟩
  refine List.forall_mem_cons.mpr ⟨mx_ok_aload_n (show decode code 336 = .ok (.aload_n 1, 1) by decide +kernel) rfl, ?_⟩
  refine List.forall_mem_cons.mpr ⟨mx_ok_aload_n (show decode code 337 = .ok (.aload_n 0, 1) by decide +kernel) rfl, ?_⟩
  refine List.forall_mem_cons.mpr ⟨mx_ok_iload_n (show decode code 338 = .ok (.iload_n 3, 1) by decide +kernel) rfl, ?_⟩
  refine List.forall_mem_cons.mpr ⟨mx_ok_iconst (show decode code 339 = .ok (.iconst 1, 1) by decide +kernel) (by decide), ?_⟩
  refine List.forall_mem_cons.mpr ⟨mx_ok_iadd (show decode code 340 = .ok (.iadd, 1) by decide +kernel), ?_⟩
  refine List.forall_mem_cons.mpr ⟨ml_ok_sld (show decode code 341 = .ok (.iaload, 1) by decide +kernel), ?_⟩
  refine List.forall_mem_cons.mpr ⟨ml_ok_invX (ct_xm_raise l np nd) ⟨ml_good vl_67, vl_66, vl_2, ⟨by decide +kernel, by decide +kernel, by decide +kernel⟩, ⟨by decide, by decide⟩, rfl, rfl, vl_68, vl_69⟩ rfl rfl (show decode code 342 = .ok (.invokevirtual 56, 3) by decide +kernel), ?_⟩
  refine List.forall_mem_cons.mpr ⟨mx_ok_aload_n (show decode code 345 = .ok (.aload_n 2, 1) by decide +kernel) rfl, ?_⟩
  refine List.forall_mem_cons.mpr ⟨mx_ok_aload_n (show decode code 346 = .ok (.aload_n 0, 1) by decide +kernel) rfl, ?_⟩
  refine List.forall_mem_cons.mpr ⟨mx_ok_iload_n (show decode code 347 = .ok (.iload_n 3, 1) by decide +kernel) rfl, ?_⟩
  refine List.forall_mem_cons.mpr ⟨mx_ok_iconst (show decode code 348 = .ok (.iconst 1, 1) by decide +kernel) (by decide), ?_⟩
  refine List.forall_mem_cons.mpr ⟨mx_ok_iadd (show decode code 349 = .ok (.iadd, 1) by decide +kernel), ?_⟩
  refine List.forall_mem_cons.mpr ⟨ml_ok_sld (show decode code 350 = .ok (.iaload, 1) by decide +kernel), ?_⟩
  refine List.forall_mem_cons.mpr ⟨ml_ok_invM (ct_mm_raise l) ⟨ml_good vl_71, vl_70, vl_7, ⟨by decide +kernel, by decide +kernel, by decide +kernel⟩, ⟨by decide, by decide⟩, rfl, rfl, vl_72, vl_73⟩ rfl rfl (show decode code 351 = .ok (.invokevirtual 60, 3) by decide +kernel), ?_⟩
  refine List.forall_mem_cons.mpr ⟨mx_ok_icmp_eq (show decode code 354 = .ok (.if_icmp .eq 65, 3) by decide +kernel) (by decide), ?_⟩
  refine List.forall_mem_cons.mpr ⟨mx_ok_iconst (show decode code 357 = .ok (.iconst 0, 1) by decide +kernel) (by decide), ?_⟩
  refine List.forall_mem_cons.mpr ⟨mx_ok_zret (show decode code 358 = .ok (.ireturn, 1) by decide +kernel) rfl, ?_⟩
  refine List.forall_mem_cons.mpr ⟨mx_ok_aload_n (show decode code 359 = .ok (.aload_n 1, 1) by decide +kernel) rfl, ?_⟩
  refine List.forall_mem_cons.mpr ⟨mx_ok_aload_n (show decode code 360 = .ok (.aload_n 0, 1) by decide +kernel) rfl, ?_⟩
  refine List.forall_mem_cons.mpr ⟨mx_ok_iload_n (show decode code 361 = .ok (.iload_n 3, 1) by decide +kernel) rfl, ?_⟩
  refine List.forall_mem_cons.mpr ⟨mx_ok_iconst (show decode code 362 = .ok (.iconst 1, 1) by decide +kernel) (by decide), ?_⟩
  refine List.forall_mem_cons.mpr ⟨mx_ok_iadd (show decode code 363 = .ok (.iadd, 1) by decide +kernel), ?_⟩
  refine List.forall_mem_cons.mpr ⟨ml_ok_sld (show decode code 364 = .ok (.iaload, 1) by decide +kernel), ?_⟩
  refine List.forall_mem_cons.mpr ⟨mx_ok_if_eq (show decode code 365 = .ok (.ifCond .eq 7, 3) by decide +kernel) (by decide), ?_⟩
  refine List.forall_mem_cons.mpr ⟨mx_ok_iconst (show decode code 368 = .ok (.iconst 1, 1) by decide +kernel) (by decide), ?_⟩
  refine List.forall_mem_cons.mpr ⟨mx_ok_goto (show decode code 369 = .ok (.goto 4, 3) by decide +kernel) (by decide), ?_⟩
  refine List.forall_mem_cons.mpr ⟨mx_ok_iconst (show decode code 372 = .ok (.iconst 0, 1) by decide +kernel) (by decide), ?_⟩
  refine List.forall_mem_cons.mpr ⟨ml_ok_invX (ct_xm_letIn l np nd) ⟨ml_good vl_75, vl_74, vl_2, ⟨by decide +kernel, by decide +kernel, by decide +kernel⟩, ⟨by decide, by decide⟩, rfl, rfl, vl_76, vl_77⟩ rfl rfl (show decode code 373 = .ok (.invokevirtual 61, 3) by decide +kernel), ?_⟩
  refine List.forall_mem_cons.mpr ⟨mx_ok_aload_n (show decode code 376 = .ok (.aload_n 2, 1) by decide +kernel) rfl, ?_⟩
  refine List.forall_mem_cons.mpr ⟨mx_ok_aload_n (show decode code 377 = .ok (.aload_n 0, 1) by decide +kernel) rfl, ?_⟩
  refine List.forall_mem_cons.mpr ⟨mx_ok_iload_n (show decode code 378 = .ok (.iload_n 3, 1) by decide +kernel) rfl, ?_⟩
  refine List.forall_mem_cons.mpr ⟨mx_ok_iconst (show decode code 379 = .ok (.iconst 1, 1) by decide +kernel) (by decide), ?_⟩
  refine List.forall_mem_cons.mpr ⟨mx_ok_iadd (show decode code 380 = .ok (.iadd, 1) by decide +kernel), ?_⟩
  refine List.forall_mem_cons.mpr ⟨ml_ok_sld (show decode code 381 = .ok (.iaload, 1) by decide +kernel), ?_⟩
  refine List.forall_mem_cons.mpr ⟨mx_ok_if_eq (show decode code 382 = .ok (.ifCond .eq 7, 3) by decide +kernel) (by decide), ?_⟩
  refine List.forall_mem_cons.mpr ⟨mx_ok_iconst (show decode code 385 = .ok (.iconst 1, 1) by decide +kernel) (by decide), ?_⟩
  refine List.forall_mem_cons.mpr ⟨mx_ok_goto (show decode code 386 = .ok (.goto 4, 3) by decide +kernel) (by decide), ?_⟩
  refine List.forall_mem_cons.mpr ⟨mx_ok_iconst (show decode code 389 = .ok (.iconst 0, 1) by decide +kernel) (by decide), ?_⟩
  refine List.forall_mem_cons.mpr ⟨ml_ok_invM (ct_mm_letIn l) ⟨ml_good vl_79, vl_78, vl_7, ⟨by decide +kernel, by decide +kernel, by decide +kernel⟩, ⟨by decide, by decide⟩, rfl, rfl, vl_80, vl_81⟩ rfl rfl (show decode code 390 = .ok (.invokevirtual 65, 3) by decide +kernel), ?_⟩
  refine List.forall_mem_cons.mpr ⟨mx_ok_goto (show decode code 393 = .ok (.goto 26, 3) by decide +kernel) (by decide), ?_⟩
  refine List.forall_mem_cons.mpr ⟨mx_ok_aload_n (show decode code 396 = .ok (.aload_n 1, 1) by decide +kernel) rfl, ?_⟩
  refine List.forall_mem_cons.mpr ⟨mx_ok_aload_n (show decode code 397 = .ok (.aload_n 0, 1) by decide +kernel) rfl, ?_⟩
  refine List.forall_mem_cons.mpr ⟨mx_ok_iload_n (show decode code 398 = .ok (.iload_n 3, 1) by decide +kernel) rfl, ?_⟩
  refine List.forall_mem_cons.mpr ⟨mx_ok_iconst (show decode code 399 = .ok (.iconst 1, 1) by decide +kernel) (by decide), ?_⟩
  refine List.forall_mem_cons.mpr ⟨mx_ok_iadd (show decode code 400 = .ok (.iadd, 1) by decide +kernel), ?_⟩
  refine List.forall_mem_cons.mpr ⟨ml_ok_sld (show decode code 401 = .ok (.iaload, 1) by decide +kernel), ?_⟩
  refine List.forall_mem_cons.mpr ⟨ml_ok_invX (ct_xm_start l np nd) ⟨ml_good vl_83, vl_82, vl_2, ⟨by decide +kernel, by decide +kernel, by decide +kernel⟩, ⟨by decide, by decide⟩, rfl, rfl, vl_84, vl_85⟩ rfl rfl (show decode code 402 = .ok (.invokevirtual 66, 3) by decide +kernel), ?_⟩
  refine List.forall_mem_cons.mpr ⟨mx_ok_aload_n (show decode code 405 = .ok (.aload_n 2, 1) by decide +kernel) rfl, ?_⟩
  refine List.forall_mem_cons.mpr ⟨mx_ok_aload_n (show decode code 406 = .ok (.aload_n 0, 1) by decide +kernel) rfl, ?_⟩
  refine List.forall_mem_cons.mpr ⟨mx_ok_iload_n (show decode code 407 = .ok (.iload_n 3, 1) by decide +kernel) rfl, ?_⟩
  refine List.forall_mem_cons.mpr ⟨mx_ok_iconst (show decode code 408 = .ok (.iconst 1, 1) by decide +kernel) (by decide), ?_⟩
  refine List.forall_mem_cons.mpr ⟨mx_ok_iadd (show decode code 409 = .ok (.iadd, 1) by decide +kernel), ?_⟩
  refine List.forall_mem_cons.mpr ⟨ml_ok_sld (show decode code 410 = .ok (.iaload, 1) by decide +kernel), ?_⟩
  refine List.forall_mem_cons.mpr ⟨ml_ok_invM (ct_mm_start l) ⟨ml_good vl_87, vl_86, vl_7, ⟨by decide +kernel, by decide +kernel, by decide +kernel⟩, ⟨by decide, by decide⟩, rfl, rfl, vl_88, vl_89⟩ rfl rfl (show decode code 411 = .ok (.invokevirtual 69, 3) by decide +kernel), ?_⟩
  refine List.forall_mem_cons.mpr ⟨mx_ok_icmp_eq (show decode code 414 = .ok (.if_icmp .eq 5, 3) by decide +kernel) (by decide), ?_⟩
  refine List.forall_mem_cons.mpr ⟨mx_ok_iconst (show decode code 417 = .ok (.iconst 0, 1) by decide +kernel) (by decide), ?_⟩
  refine List.forall_mem_cons.mpr ⟨mx_ok_zret (show decode code 418 = .ok (.ireturn, 1) by decide +kernel) rfl, ?_⟩
  refine List.forall_mem_cons.mpr ⟨mx_ok_iinc (show decode code 419 = .ok (.iinc 3 3, 3) by decide +kernel) (by decide) (by decide), ?_⟩
  refine List.forall_mem_cons.mpr ⟨mx_ok_goto (show decode code 422 = .ok (.goto (-384), 3) by decide +kernel) (by decide), ?_⟩
  refine List.forall_mem_cons.mpr ⟨mx_ok_iconst (show decode code 425 = .ok (.iconst 1, 1) by decide +kernel) (by decide), ?_⟩
  refine List.forall_mem_cons.mpr ⟨mx_ok_zret (show decode code 426 = .ok (.ireturn, 1) by decide +kernel) rfl, ?_⟩
  exact fun _ h => absurd h List.not_mem_nil
def sm_word (np nd : Nat) (Rl : mx_S → mx_S → Prop) (ux um : mx_S) : Prop := ∀ a1 a2 : Int32, (q_xm_word np nd a1 a2 ux) ∧ (q_mm_word a1 a2 um) ∧ (xm_word np nd a1 a2 ux) = (mm_word a1 a2 um) ∧ Rl (xm_word_s np nd a1 a2 ux) (mm_word_s a1 a2 um)
def sm_poke (np nd : Nat) (Rl : mx_S → mx_S → Prop) (ux um : mx_S) : Prop := ∀ a1 a2 : Int32, (q_xm_poke np nd a1 a2 ux) ∧ (q_mm_poke a1 a2 um) ∧ (xm_poke np nd a1 a2 ux) = (mm_poke a1 a2 um) ∧ Rl (xm_poke_s np nd a1 a2 ux) (mm_poke_s a1 a2 um)
def sm_peek (np nd : Nat) (Rl : mx_S → mx_S → Prop) (ux um : mx_S) : Prop := ∀ a1 : Int32, (q_xm_peek np nd a1 ux) ∧ (q_mm_peek a1 um) ∧ (xm_peek np nd a1 ux) = (mm_peek a1 um) ∧ Rl ux (mm_peek_s a1 um)
def sm_set (np nd : Nat) (Rl : mx_S → mx_S → Prop) (ux um : mx_S) : Prop := ∀ a1 a2 : Int32, (q_xm_set np nd a1 a2 ux) ∧ (q_mm_set a1 a2 um) ∧ (xm_set a1 a2 ux) = (mm_set a1 a2 um) ∧ Rl (xm_set_s a1 a2 ux) (mm_set_s a1 a2 um)
def sm_get (np nd : Nat) (Rl : mx_S → mx_S → Prop) (ux um : mx_S) : Prop := ∀ a1 : Int32, (q_xm_get np nd a1 ux) ∧ (q_mm_get a1 um) ∧ (xm_get a1 ux) = (mm_get a1 um) ∧ Rl ux (mm_get_s a1 um)
def sm_run (np nd : Nat) (Rl : mx_S → mx_S → Prop) (ux um : mx_S) : Prop := ∀ a1 : Int32, (q_xm_run np nd a1 ux) ∧ (q_mm_run a1 um) ∧ (xm_run np nd a1 ux) = (mm_run a1 um) ∧ Rl (xm_run_s np nd a1 ux) (mm_run_s a1 um)
def sm_about (np nd : Nat) (Rl : mx_S → mx_S → Prop) (ux um : mx_S) : Prop := ∀ a1 : Int32, True ∧ True ∧ (xm_about a1 ux) = (mm_about a1 um) ∧ Rl ux (mm_about_s a1 um)
def sm_due (np nd : Nat) (Rl : mx_S → mx_S → Prop) (ux um : mx_S) : Prop := ∀ a1 a2 : Int32, (q_xm_due np nd a1 a2 ux) ∧ (q_mm_due a1 a2 um) ∧ (xm_due a1 a2 ux) = (mm_due a1 a2 um) ∧ Rl ux (mm_due_s a1 a2 um)
def sm_raise (np nd : Nat) (Rl : mx_S → mx_S → Prop) (ux um : mx_S) : Prop := ∀ a1 : Int32, True ∧ True ∧ (xm_raise a1 ux) = (mm_raise a1 um) ∧ Rl (xm_raise_s a1 ux) (mm_raise_s a1 um)
def sm_letIn (np nd : Nat) (Rl : mx_S → mx_S → Prop) (ux um : mx_S) : Prop := ∀ a1 : Int32, (a1 = 0 ∨ a1 = 1) → (q_xm_letIn np nd a1 ux) ∧ (q_mm_letIn a1 um) ∧ True ∧ Rl (xm_letIn a1 ux) (mm_letIn a1 um)
def sm_start (np nd : Nat) (Rl : mx_S → mx_S → Prop) (ux um : mx_S) : Prop := ∀ a1 : Int32, True ∧ True ∧ (xm_start np nd a1 ux) = (mm_start a1 um) ∧ Rl (xm_start_s np nd a1 ux) (mm_start_s a1 um)
def lw_Sim (np nd : Nat) (Rl : mx_S → mx_S → Prop) : Prop := ∀ ux um : mx_S, Rl ux um → sm_word np nd Rl ux um ∧ sm_poke np nd Rl ux um ∧ sm_peek np nd Rl ux um ∧ sm_set np nd Rl ux um ∧ sm_get np nd Rl ux um ∧ sm_run np nd Rl ux um ∧ sm_about np nd Rl ux um ∧ sm_due np nd Rl ux um ∧ sm_raise np nd Rl ux um ∧ sm_letIn np nd Rl ux um ∧ sm_start np nd Rl ux um
theorem ml_lt {Ln k : Nat} (hLn : Ln ≤ 1538) (hk : k ≤ 4000) (h : ¬ nI Ln - 3 < nI k) : k + 3 ≤ Ln := by
  rw [Int32.lt_iff_toInt_lt, show (3 : Int32) = nI 3 from rfl, pk_sub_toInt (by omega) (by omega), nI_toInt (by omega)] at h
  omega
set_option maxRecDepth 100000 in
set_option maxHeartbeats 4000000 in
theorem ml_step (np nd Ln : Nat) (xs : Nat → Int32) (hLn : Ln ≤ 1538) (Rl : mx_S → mx_S → Prop) (hSim : lw_Sim np nd Rl) (At : mx_PG ml_S)
    (hc : ∀ (n : Nat) (cut : List Nat) (pc : Nat) (L : List (Nat × mx_V)) (st : List mx_V) (u : ml_S), mx_sg (tb_law np nd Ln xs) (fun v _ => v = some (.inl 1)) cut At n pc L st u → At pc L st u)
    (hw : ∀ (ks : List Nat) (pc : Nat) (L : List (Nat × mx_V)) (st : List mx_V) (u : ml_S), At pc (ks.filterMap (fun k => L[k]?)) st u → At pc L st u)
    (k : Nat) (hk : k ≤ 4000) (ux um : mx_S) (hR : Rl ux um) (back : k + 3 ≤ Ln → ∀ ux' um' : mx_S, Rl ux' um' → At 38 [(3, .inl (nI k + 3)), (0, .inr (.inr 22)), (1, .inr (.inr 0)), (2, .inr (.inr 11))] [] (ux', um')) :
    At 38 [(3, .inl (nI k)), (0, .inr (.inr 22)), (1, .inr (.inr 0)), (2, .inr (.inr 11))] [] (ux, um) := by
  obtain ⟨s_word, s_poke, s_peek, s_set, s_get, s_run, s_about, s_due, s_raise, s_letIn, s_start⟩ := hSim ux um hR
  refine hc 200 [38] _ _ _ _ (And.intro rfl (And.intro (fun h43 => And.intro (Or.inr rfl) rfl) (fun h43 => ?_)))
  have hk3 := ml_lt hLn hk h43
  have b0 : vp_in (nI k) Ln := vp_in_nI (by omega) (by omega)
  have b1 : vp_in (nI k + 1) Ln := by
    rw [nI_1]
    exact vp_in_nI (by omega) (by omega)
  have b2 : vp_in (nI k + 2) Ln := by
    rw [show (2 : Int32) = nI 2 from rfl, nI_add]
    exact vp_in_nI (by omega) (by omega)
  exact And.intro rfl (And.intro b0 (
    And.intro (fun z0 => 
     And.intro rfl (And.intro b1 (
     And.intro rfl (And.intro b2 (
     And.intro rfl (And.intro rfl (And.intro ⟨_, _, rfl, (s_word (xs (((nI k) + 1)).toNatClampNeg) (xs (((nI k) + 2)).toNatClampNeg)).1⟩ (
     And.intro rfl (And.intro b1 (
     And.intro rfl (And.intro b2 (
     And.intro rfl (And.intro rfl (And.intro ⟨_, _, rfl, (s_word (xs (((nI k) + 1)).toNatClampNeg) (xs (((nI k) + 2)).toNatClampNeg)).2.1⟩ (And.intro rfl (
     And.intro (fun h140 => 
      hw [0, 1, 2, 3] 38 _ [] ((xm_word_s np nd (xs (((nI k) + 1)).toNatClampNeg) (xs (((nI k) + 2)).toNatClampNeg) ux), (mm_word_s (xs (((nI k) + 1)).toNatClampNeg) (xs (((nI k) + 2)).toNatClampNeg) um)) (back hk3 _ _ (s_word (xs (((nI k) + 1)).toNatClampNeg) (xs (((nI k) + 2)).toNatClampNeg)).2.2.2)) (fun h140 => absurd (s_word (xs (((nI k) + 1)).toNatClampNeg) (xs (((nI k) + 2)).toNatClampNeg)).2.2.1 h140))))))))))))))))) (fun z0 => 
    And.intro (fun z1 => 
     And.intro rfl (And.intro b1 (
     And.intro rfl (And.intro b2 (
     And.intro rfl (And.intro rfl (And.intro ⟨_, _, rfl, (s_poke (xs (((nI k) + 1)).toNatClampNeg) (xs (((nI k) + 2)).toNatClampNeg)).1⟩ (
     And.intro rfl (And.intro b1 (
     And.intro rfl (And.intro b2 (
     And.intro rfl (And.intro rfl (And.intro ⟨_, _, rfl, (s_poke (xs (((nI k) + 1)).toNatClampNeg) (xs (((nI k) + 2)).toNatClampNeg)).2.1⟩ (And.intro rfl (
     And.intro (fun h173 => 
      hw [0, 1, 2, 3] 38 _ [] ((xm_poke_s np nd (xs (((nI k) + 1)).toNatClampNeg) (xs (((nI k) + 2)).toNatClampNeg) ux), (mm_poke_s (xs (((nI k) + 1)).toNatClampNeg) (xs (((nI k) + 2)).toNatClampNeg) um)) (back hk3 _ _ (s_poke (xs (((nI k) + 1)).toNatClampNeg) (xs (((nI k) + 2)).toNatClampNeg)).2.2.2)) (fun h173 => absurd (s_poke (xs (((nI k) + 1)).toNatClampNeg) (xs (((nI k) + 2)).toNatClampNeg)).2.2.1 h173))))))))))))))))) (fun z1 => 
    And.intro (fun z2 => 
     And.intro rfl (And.intro b1 (
     And.intro rfl (And.intro rfl (And.intro ⟨_, rfl, (s_peek (xs (((nI k) + 1)).toNatClampNeg)).1⟩ (
     And.intro rfl (And.intro b1 (
     And.intro rfl (And.intro rfl (And.intro ⟨_, rfl, (s_peek (xs (((nI k) + 1)).toNatClampNeg)).2.1⟩ (And.intro rfl (
     And.intro (fun h196 => 
      hw [0, 1, 2, 3] 38 _ [] (ux, (mm_peek_s (xs (((nI k) + 1)).toNatClampNeg) um)) (back hk3 _ _ (s_peek (xs (((nI k) + 1)).toNatClampNeg)).2.2.2)) (fun h196 => absurd (s_peek (xs (((nI k) + 1)).toNatClampNeg)).2.2.1 h196))))))))))))) (fun z2 => 
    And.intro (fun z3 => 
     And.intro rfl (And.intro b1 (
     And.intro rfl (And.intro b2 (
     And.intro rfl (And.intro rfl (And.intro ⟨_, _, rfl, (s_set (xs (((nI k) + 1)).toNatClampNeg) (xs (((nI k) + 2)).toNatClampNeg)).1⟩ (
     And.intro rfl (And.intro b1 (
     And.intro rfl (And.intro b2 (
     And.intro rfl (And.intro rfl (And.intro ⟨_, _, rfl, (s_set (xs (((nI k) + 1)).toNatClampNeg) (xs (((nI k) + 2)).toNatClampNeg)).2.1⟩ (And.intro rfl (
     And.intro (fun h229 => 
      hw [0, 1, 2, 3] 38 _ [] ((xm_set_s (xs (((nI k) + 1)).toNatClampNeg) (xs (((nI k) + 2)).toNatClampNeg) ux), (mm_set_s (xs (((nI k) + 1)).toNatClampNeg) (xs (((nI k) + 2)).toNatClampNeg) um)) (back hk3 _ _ (s_set (xs (((nI k) + 1)).toNatClampNeg) (xs (((nI k) + 2)).toNatClampNeg)).2.2.2)) (fun h229 => absurd (s_set (xs (((nI k) + 1)).toNatClampNeg) (xs (((nI k) + 2)).toNatClampNeg)).2.2.1 h229))))))))))))))))) (fun z3 => 
    And.intro (fun z4 => 
     And.intro rfl (And.intro b1 (
     And.intro rfl (And.intro rfl (And.intro ⟨_, rfl, (s_get (xs (((nI k) + 1)).toNatClampNeg)).1⟩ (
     And.intro rfl (And.intro b1 (
     And.intro rfl (And.intro rfl (And.intro ⟨_, rfl, (s_get (xs (((nI k) + 1)).toNatClampNeg)).2.1⟩ (And.intro rfl (
     And.intro (fun h252 => 
      hw [0, 1, 2, 3] 38 _ [] (ux, (mm_get_s (xs (((nI k) + 1)).toNatClampNeg) um)) (back hk3 _ _ (s_get (xs (((nI k) + 1)).toNatClampNeg)).2.2.2)) (fun h252 => absurd (s_get (xs (((nI k) + 1)).toNatClampNeg)).2.2.1 h252))))))))))))) (fun z4 => 
    And.intro (fun z5 => 
     And.intro rfl (And.intro b1 (
     And.intro rfl (And.intro rfl (And.intro ⟨_, rfl, (s_run (xs (((nI k) + 1)).toNatClampNeg)).1⟩ (
     And.intro rfl (And.intro b1 (
     And.intro rfl (And.intro rfl (And.intro ⟨_, rfl, (s_run (xs (((nI k) + 1)).toNatClampNeg)).2.1⟩ (And.intro rfl (
     And.intro (fun h275 => 
      hw [0, 1, 2, 3] 38 _ [] ((xm_run_s np nd (xs (((nI k) + 1)).toNatClampNeg) ux), (mm_run_s (xs (((nI k) + 1)).toNatClampNeg) um)) (back hk3 _ _ (s_run (xs (((nI k) + 1)).toNatClampNeg)).2.2.2)) (fun h275 => absurd (s_run (xs (((nI k) + 1)).toNatClampNeg)).2.2.1 h275))))))))))))) (fun z5 => 
    And.intro (fun z6 => 
     And.intro rfl (And.intro b1 (
     And.intro rfl (And.intro rfl (And.intro ⟨_, rfl, trivial⟩ (
     And.intro rfl (And.intro b1 (
     And.intro rfl (And.intro rfl (And.intro ⟨_, rfl, trivial⟩ (And.intro rfl (
     And.intro (fun h298 => 
      hw [0, 1, 2, 3] 38 _ [] (ux, (mm_about_s (xs (((nI k) + 1)).toNatClampNeg) um)) (back hk3 _ _ (s_about (xs (((nI k) + 1)).toNatClampNeg)).2.2.2)) (fun h298 => absurd (s_about (xs (((nI k) + 1)).toNatClampNeg)).2.2.1 h298))))))))))))) (fun z6 => 
    And.intro (fun z7 => 
     And.intro rfl (And.intro b1 (
     And.intro rfl (And.intro b2 (
     And.intro rfl (And.intro rfl (And.intro ⟨_, _, rfl, (s_due (xs (((nI k) + 1)).toNatClampNeg) (xs (((nI k) + 2)).toNatClampNeg)).1⟩ (
     And.intro rfl (And.intro b1 (
     And.intro rfl (And.intro b2 (
     And.intro rfl (And.intro rfl (And.intro ⟨_, _, rfl, (s_due (xs (((nI k) + 1)).toNatClampNeg) (xs (((nI k) + 2)).toNatClampNeg)).2.1⟩ (And.intro rfl (
     And.intro (fun h331 => 
      hw [0, 1, 2, 3] 38 _ [] (ux, (mm_due_s (xs (((nI k) + 1)).toNatClampNeg) (xs (((nI k) + 2)).toNatClampNeg) um)) (back hk3 _ _ (s_due (xs (((nI k) + 1)).toNatClampNeg) (xs (((nI k) + 2)).toNatClampNeg)).2.2.2)) (fun h331 => absurd (s_due (xs (((nI k) + 1)).toNatClampNeg) (xs (((nI k) + 2)).toNatClampNeg)).2.2.1 h331))))))))))))))))) (fun z7 => 
    And.intro (fun z8 => 
     And.intro rfl (And.intro b1 (
     And.intro rfl (And.intro rfl (And.intro ⟨_, rfl, trivial⟩ (
     And.intro rfl (And.intro b1 (
     And.intro rfl (And.intro rfl (And.intro ⟨_, rfl, trivial⟩ (And.intro rfl (
     And.intro (fun h354 => 
      hw [0, 1, 2, 3] 38 _ [] ((xm_raise_s (xs (((nI k) + 1)).toNatClampNeg) ux), (mm_raise_s (xs (((nI k) + 1)).toNatClampNeg) um)) (back hk3 _ _ (s_raise (xs (((nI k) + 1)).toNatClampNeg)).2.2.2)) (fun h354 => absurd (s_raise (xs (((nI k) + 1)).toNatClampNeg)).2.2.1 h354))))))))))))) (fun z8 => 
    And.intro (fun z9 => 
     And.intro rfl (And.intro b1 (
     And.intro (fun h365 => 
      And.intro rfl (And.intro rfl (And.intro ⟨_, rfl, (s_letIn 0 (Or.inl rfl)).1⟩ (
      And.intro rfl (And.intro b1 (
      And.intro (fun h382 => 
       And.intro rfl (And.intro rfl (And.intro ⟨_, rfl, (s_letIn 0 (Or.inl rfl)).2.1⟩ (And.intro rfl (
       hw [0, 1, 2, 3] 38 _ [] ((xm_letIn 0 ux), (mm_letIn 0 um)) (back hk3 _ _ (s_letIn 0 (Or.inl rfl)).2.2.2)))))) (fun h382 => absurd h365 h382))))))) (fun h365 => 
      And.intro rfl (And.intro rfl (And.intro ⟨_, rfl, (s_letIn 1 (Or.inr rfl)).1⟩ (
      And.intro rfl (And.intro b1 (
      And.intro (fun h382 => absurd h382 h365) (fun h382 => 
       And.intro rfl (And.intro rfl (And.intro ⟨_, rfl, (s_letIn 1 (Or.inr rfl)).2.1⟩ (And.intro rfl (
       hw [0, 1, 2, 3] 38 _ [] ((xm_letIn 1 ux), (mm_letIn 1 um)) (back hk3 _ _ (s_letIn 1 (Or.inr rfl)).2.2.2))))))))))))))) (fun z9 => 
    And.intro (fun z10 => 
     And.intro rfl (And.intro b1 (
     And.intro rfl (And.intro rfl (And.intro ⟨_, rfl, trivial⟩ (
     And.intro rfl (And.intro b1 (
     And.intro rfl (And.intro rfl (And.intro ⟨_, rfl, trivial⟩ (And.intro rfl (
     And.intro (fun h414 => 
      hw [0, 1, 2, 3] 38 _ [] ((xm_start_s np nd (xs (((nI k) + 1)).toNatClampNeg) ux), (mm_start_s (xs (((nI k) + 1)).toNatClampNeg) um)) (back hk3 _ _ (s_start (xs (((nI k) + 1)).toNatClampNeg)).2.2.2)) (fun h414 => absurd (s_start (xs (((nI k) + 1)).toNatClampNeg)).2.2.1 h414))))))))))))) (fun z10 => 
    hw [0, 1, 2, 3] 38 _ [] (ux, um) (back hk3 _ _ hR))))))))))))))
theorem ml_loop (np nd Ln : Nat) (xs : Nat → Int32) (hLn : Ln ≤ 1538) (Rl : mx_S → mx_S → Prop) (hSim : lw_Sim np nd Rl) (ux um : mx_S) (hR : Rl ux um) : mx_VC (tb_law np nd Ln xs) (fun v _ => v = some (.inl 1)) 38 [(3, .inl (nI 2)), (0, .inr (.inr 22)), (1, .inr (.inr 0)), (2, .inr (.inr 11))] [] (ux, um) := by
  intro At hc hw
  have loop : ∀ (n k : Nat) (ux um : mx_S), k ≤ 4000 → Ln ≤ k + n → Rl ux um → At 38 [(3, .inl (nI k)), (0, .inr (.inr 22)), (1, .inr (.inr 0)), (2, .inr (.inr 11))] [] (ux, um) := by
    intro n
    induction n with
    | zero => exact fun k ux um hk hn hR => ml_step np nd Ln xs hLn Rl hSim At hc hw k hk ux um hR (fun h => by omega)
    | succ n ih =>
      intro k ux um hk hn hR
      refine ml_step np nd Ln xs hLn Rl hSim At hc hw k hk ux um hR (fun h ux' um' hR' => ?_)
      rw [show (3 : Int32) = nI 3 from rfl, nI_add]
      exact ih (k + 3) ux' um' (by omega) (by omega) hR'
  exact loop Ln 2 ux um (by omega) (by omega) hR
