-- ===== PART A: goes FIRST, ahead of the names: the tables' words, and 'selects' of the private methods out of them =====
/-- a private method of a class that the tables say can be made, by its rows of tables_1 -/
def lw_okq (q : MethodName × Nat) : Prop := (q.1.cls ≠ "java/lang/invoke/MethodHandle" ∧ q.1.cls ≠ "java/lang/invoke/VarHandle") ∧ Cond.instantiable q.1.cls q.2 ∈ tables_1 ∧ Cond.privateMethod q.1 ∈ tables_1 ∧ Cond.instanceMethod q.1 ∈ tables_1
theorem lw_p0 : lw_okq (⟨"WideMachine", "isInData", "(I)Z"⟩, 12) := ⟨⟨by decide +kernel, by decide +kernel⟩, List.mem_of_getElem? (i := 9) (by decide +kernel), List.mem_of_getElem? (i := 112) (by decide +kernel), List.mem_of_getElem? (i := 113) (by decide +kernel)⟩
theorem lw_p1 : lw_okq (⟨"WideMachine", "doCycle", "()V"⟩, 12) := ⟨⟨by decide +kernel, by decide +kernel⟩, List.mem_of_getElem? (i := 9) (by decide +kernel), List.mem_of_getElem? (i := 132) (by decide +kernel), List.mem_of_getElem? (i := 133) (by decide +kernel)⟩
theorem lw_p2 : lw_okq (⟨"WideMachine", "landWrites", "()V"⟩, 12) := ⟨⟨by decide +kernel, by decide +kernel⟩, List.mem_of_getElem? (i := 9) (by decide +kernel), List.mem_of_getElem? (i := 136) (by decide +kernel), List.mem_of_getElem? (i := 137) (by decide +kernel)⟩
theorem lw_p3 : lw_okq (⟨"WideMachine", "takeBranch", "()V"⟩, 12) := ⟨⟨by decide +kernel, by decide +kernel⟩, List.mem_of_getElem? (i := 9) (by decide +kernel), List.mem_of_getElem? (i := 152) (by decide +kernel), List.mem_of_getElem? (i := 153) (by decide +kernel)⟩
theorem lw_p4 : lw_okq (⟨"WideMachine", "takeInterrupt", "()V"⟩, 12) := ⟨⟨by decide +kernel, by decide +kernel⟩, List.mem_of_getElem? (i := 9) (by decide +kernel), List.mem_of_getElem? (i := 168) (by decide +kernel), List.mem_of_getElem? (i := 169) (by decide +kernel)⟩
theorem lw_p5 : lw_okq (⟨"WideMachine", "isRaised", "(I)Z"⟩, 12) := ⟨⟨by decide +kernel, by decide +kernel⟩, List.mem_of_getElem? (i := 9) (by decide +kernel), List.mem_of_getElem? (i := 172) (by decide +kernel), List.mem_of_getElem? (i := 173) (by decide +kernel)⟩
theorem lw_p6 : lw_okq (⟨"WideMachine", "endOfPacket", "()I"⟩, 12) := ⟨⟨by decide +kernel, by decide +kernel⟩, List.mem_of_getElem? (i := 9) (by decide +kernel), List.mem_of_getElem? (i := 176) (by decide +kernel), List.mem_of_getElem? (i := 177) (by decide +kernel)⟩
theorem lw_p7 : lw_okq (⟨"WideMachine", "faultOfPacket", "(I)I"⟩, 12) := ⟨⟨by decide +kernel, by decide +kernel⟩, List.mem_of_getElem? (i := 9) (by decide +kernel), List.mem_of_getElem? (i := 183) (by decide +kernel), List.mem_of_getElem? (i := 184) (by decide +kernel)⟩
theorem lw_p8 : lw_okq (⟨"WideMachine", "hasIllFormed", "(I)Z"⟩, 12) := ⟨⟨by decide +kernel, by decide +kernel⟩, List.mem_of_getElem? (i := 9) (by decide +kernel), List.mem_of_getElem? (i := 187) (by decide +kernel), List.mem_of_getElem? (i := 188) (by decide +kernel)⟩
theorem lw_p9 : lw_okq (⟨"WideMachine", "hasUnitTwice", "(I)Z"⟩, 12) := ⟨⟨by decide +kernel, by decide +kernel⟩, List.mem_of_getElem? (i := 9) (by decide +kernel), List.mem_of_getElem? (i := 221) (by decide +kernel), List.mem_of_getElem? (i := 222) (by decide +kernel)⟩
theorem lw_p10 : lw_okq (⟨"WideMachine", "hasCrossedTwice", "(I)Z"⟩, 12) := ⟨⟨by decide +kernel, by decide +kernel⟩, List.mem_of_getElem? (i := 9) (by decide +kernel), List.mem_of_getElem? (i := 228) (by decide +kernel), List.mem_of_getElem? (i := 229) (by decide +kernel)⟩
theorem lw_p11 : lw_okq (⟨"WideMachine", "goesBeyondData", "(I)Z"⟩, 12) := ⟨⟨by decide +kernel, by decide +kernel⟩, List.mem_of_getElem? (i := 9) (by decide +kernel), List.mem_of_getElem? (i := 245) (by decide +kernel), List.mem_of_getElem? (i := 246) (by decide +kernel)⟩
theorem lw_p12 : lw_okq (⟨"WideMachine", "isConditionTrue", "(I)Z"⟩, 12) := ⟨⟨by decide +kernel, by decide +kernel⟩, List.mem_of_getElem? (i := 9) (by decide +kernel), List.mem_of_getElem? (i := 250) (by decide +kernel), List.mem_of_getElem? (i := 251) (by decide +kernel)⟩
theorem lw_p13 : lw_okq (⟨"WideMachine", "dataAddress", "(I)I"⟩, 12) := ⟨⟨by decide +kernel, by decide +kernel⟩, List.mem_of_getElem? (i := 9) (by decide +kernel), List.mem_of_getElem? (i := 258) (by decide +kernel), List.mem_of_getElem? (i := 259) (by decide +kernel)⟩
theorem lw_p14 : lw_okq (⟨"WideMachine", "operandB", "(I)I"⟩, 12) := ⟨⟨by decide +kernel, by decide +kernel⟩, List.mem_of_getElem? (i := 9) (by decide +kernel), List.mem_of_getElem? (i := 263) (by decide +kernel), List.mem_of_getElem? (i := 264) (by decide +kernel)⟩
theorem lw_p15 : lw_okq (⟨"WideMachine", "doPacket", "(I)V"⟩, 12) := ⟨⟨by decide +kernel, by decide +kernel⟩, List.mem_of_getElem? (i := 9) (by decide +kernel), List.mem_of_getElem? (i := 272) (by decide +kernel), List.mem_of_getElem? (i := 273) (by decide +kernel)⟩
def lw_privs_1 : List (MethodName × Nat) := [(⟨"WideMachine", "isInData", "(I)Z"⟩, 12), (⟨"WideMachine", "doCycle", "()V"⟩, 12), (⟨"WideMachine", "landWrites", "()V"⟩, 12), (⟨"WideMachine", "takeBranch", "()V"⟩, 12), (⟨"WideMachine", "takeInterrupt", "()V"⟩, 12), (⟨"WideMachine", "isRaised", "(I)Z"⟩, 12), (⟨"WideMachine", "endOfPacket", "()I"⟩, 12), (⟨"WideMachine", "faultOfPacket", "(I)I"⟩, 12), (⟨"WideMachine", "hasIllFormed", "(I)Z"⟩, 12), (⟨"WideMachine", "hasUnitTwice", "(I)Z"⟩, 12), (⟨"WideMachine", "hasCrossedTwice", "(I)Z"⟩, 12), (⟨"WideMachine", "goesBeyondData", "(I)Z"⟩, 12), (⟨"WideMachine", "isConditionTrue", "(I)Z"⟩, 12), (⟨"WideMachine", "dataAddress", "(I)I"⟩, 12), (⟨"WideMachine", "operandB", "(I)I"⟩, 12), (⟨"WideMachine", "doPacket", "(I)V"⟩, 12)]
theorem lw_r1 : ∀ q ∈ lw_privs_1, lw_okq q := List.forall_mem_cons.mpr ⟨lw_p0, List.forall_mem_cons.mpr ⟨lw_p1, List.forall_mem_cons.mpr ⟨lw_p2, List.forall_mem_cons.mpr ⟨lw_p3, List.forall_mem_cons.mpr ⟨lw_p4, List.forall_mem_cons.mpr ⟨lw_p5, List.forall_mem_cons.mpr ⟨lw_p6, List.forall_mem_cons.mpr ⟨lw_p7, List.forall_mem_cons.mpr ⟨lw_p8, List.forall_mem_cons.mpr ⟨lw_p9, List.forall_mem_cons.mpr ⟨lw_p10, List.forall_mem_cons.mpr ⟨lw_p11, List.forall_mem_cons.mpr ⟨lw_p12, List.forall_mem_cons.mpr ⟨lw_p13, List.forall_mem_cons.mpr ⟨lw_p14, List.forall_mem_cons.mpr ⟨lw_p15, fun _ h => absurd h List.not_mem_nil⟩⟩⟩⟩⟩⟩⟩⟩⟩⟩⟩⟩⟩⟩⟩⟩
theorem lw_p16 : lw_okq (⟨"WideMachine", "doWord", "(I)V"⟩, 12) := ⟨⟨by decide +kernel, by decide +kernel⟩, List.mem_of_getElem? (i := 9) (by decide +kernel), List.mem_of_getElem? (i := 276) (by decide +kernel), List.mem_of_getElem? (i := 277) (by decide +kernel)⟩
theorem lw_p17 : lw_okq (⟨"WideMachine", "valueOf", "(I)I"⟩, 12) := ⟨⟨by decide +kernel, by decide +kernel⟩, List.mem_of_getElem? (i := 9) (by decide +kernel), List.mem_of_getElem? (i := 288) (by decide +kernel), List.mem_of_getElem? (i := 289) (by decide +kernel)⟩
theorem lw_p18 : lw_okq (⟨"WideMachine", "doStores", "(I)V"⟩, 12) := ⟨⟨by decide +kernel, by decide +kernel⟩, List.mem_of_getElem? (i := 9) (by decide +kernel), List.mem_of_getElem? (i := 333) (by decide +kernel), List.mem_of_getElem? (i := 334) (by decide +kernel)⟩
theorem lw_p19 : lw_okq (⟨"WideMachineModel", "cycle", "()V"⟩, 23) := ⟨⟨by decide +kernel, by decide +kernel⟩, List.mem_of_getElem? (i := 369) (by decide +kernel), List.mem_of_getElem? (i := 489) (by decide +kernel), List.mem_of_getElem? (i := 490) (by decide +kernel)⟩
theorem lw_p20 : lw_okq (⟨"WideMachineModel", "lands", "()I"⟩, 23) := ⟨⟨by decide +kernel, by decide +kernel⟩, List.mem_of_getElem? (i := 369) (by decide +kernel), List.mem_of_getElem? (i := 493) (by decide +kernel), List.mem_of_getElem? (i := 494) (by decide +kernel)⟩
theorem lw_p21 : lw_okq (⟨"WideMachineModel", "arrives", "()I"⟩, 23) := ⟨⟨by decide +kernel, by decide +kernel⟩, List.mem_of_getElem? (i := 369) (by decide +kernel), List.mem_of_getElem? (i := 497) (by decide +kernel), List.mem_of_getElem? (i := 498) (by decide +kernel)⟩
theorem lw_p22 : lw_okq (⟨"WideMachineModel", "interrupts", "()V"⟩, 23) := ⟨⟨by decide +kernel, by decide +kernel⟩, List.mem_of_getElem? (i := 369) (by decide +kernel), List.mem_of_getElem? (i := 501) (by decide +kernel), List.mem_of_getElem? (i := 502) (by decide +kernel)⟩
theorem lw_p23 : lw_okq (⟨"WideMachineModel", "wrong", "(I)I"⟩, 23) := ⟨⟨by decide +kernel, by decide +kernel⟩, List.mem_of_getElem? (i := 369) (by decide +kernel), List.mem_of_getElem? (i := 505) (by decide +kernel), List.mem_of_getElem? (i := 506) (by decide +kernel)⟩
theorem lw_p24 : lw_okq (⟨"WideMachineModel", "isDone", "(I)Z"⟩, 23) := ⟨⟨by decide +kernel, by decide +kernel⟩, List.mem_of_getElem? (i := 369) (by decide +kernel), List.mem_of_getElem? (i := 551) (by decide +kernel), List.mem_of_getElem? (i := 552) (by decide +kernel)⟩
theorem lw_p25 : lw_okq (⟨"WideMachineModel", "reaches", "(I)Z"⟩, 23) := ⟨⟨by decide +kernel, by decide +kernel⟩, List.mem_of_getElem? (i := 369) (by decide +kernel), List.mem_of_getElem? (i := 555) (by decide +kernel), List.mem_of_getElem? (i := 556) (by decide +kernel)⟩
theorem lw_p26 : lw_okq (⟨"WideMachineModel", "second", "(I)I"⟩, 23) := ⟨⟨by decide +kernel, by decide +kernel⟩, List.mem_of_getElem? (i := 369) (by decide +kernel), List.mem_of_getElem? (i := 559) (by decide +kernel), List.mem_of_getElem? (i := 560) (by decide +kernel)⟩
theorem lw_p27 : lw_okq (⟨"WideMachineModel", "packet", "(I)V"⟩, 23) := ⟨⟨by decide +kernel, by decide +kernel⟩, List.mem_of_getElem? (i := 369) (by decide +kernel), List.mem_of_getElem? (i := 563) (by decide +kernel), List.mem_of_getElem? (i := 564) (by decide +kernel)⟩
theorem lw_p28 : lw_okq (⟨"WideMachineModel", "controls", "(I)V"⟩, 23) := ⟨⟨by decide +kernel, by decide +kernel⟩, List.mem_of_getElem? (i := 369) (by decide +kernel), List.mem_of_getElem? (i := 567) (by decide +kernel), List.mem_of_getElem? (i := 568) (by decide +kernel)⟩
theorem lw_p29 : lw_okq (⟨"WideMachineModel", "meets", "(I)V"⟩, 23) := ⟨⟨by decide +kernel, by decide +kernel⟩, List.mem_of_getElem? (i := 369) (by decide +kernel), List.mem_of_getElem? (i := 571) (by decide +kernel), List.mem_of_getElem? (i := 572) (by decide +kernel)⟩
theorem lw_p30 : lw_okq (⟨"WideMachineModel", "write", "(III)V"⟩, 23) := ⟨⟨by decide +kernel, by decide +kernel⟩, List.mem_of_getElem? (i := 369) (by decide +kernel), List.mem_of_getElem? (i := 575) (by decide +kernel), List.mem_of_getElem? (i := 576) (by decide +kernel)⟩
theorem lw_p31 : lw_okq (⟨"WideMachineModel", "works", "(I)I"⟩, 23) := ⟨⟨by decide +kernel, by decide +kernel⟩, List.mem_of_getElem? (i := 369) (by decide +kernel), List.mem_of_getElem? (i := 579) (by decide +kernel), List.mem_of_getElem? (i := 580) (by decide +kernel)⟩
def lw_privs_2 : List (MethodName × Nat) := [(⟨"WideMachine", "doWord", "(I)V"⟩, 12), (⟨"WideMachine", "valueOf", "(I)I"⟩, 12), (⟨"WideMachine", "doStores", "(I)V"⟩, 12), (⟨"WideMachineModel", "cycle", "()V"⟩, 23), (⟨"WideMachineModel", "lands", "()I"⟩, 23), (⟨"WideMachineModel", "arrives", "()I"⟩, 23), (⟨"WideMachineModel", "interrupts", "()V"⟩, 23), (⟨"WideMachineModel", "wrong", "(I)I"⟩, 23), (⟨"WideMachineModel", "isDone", "(I)Z"⟩, 23), (⟨"WideMachineModel", "reaches", "(I)Z"⟩, 23), (⟨"WideMachineModel", "second", "(I)I"⟩, 23), (⟨"WideMachineModel", "packet", "(I)V"⟩, 23), (⟨"WideMachineModel", "controls", "(I)V"⟩, 23), (⟨"WideMachineModel", "meets", "(I)V"⟩, 23), (⟨"WideMachineModel", "write", "(III)V"⟩, 23), (⟨"WideMachineModel", "works", "(I)I"⟩, 23)]
theorem lw_r2 : ∀ q ∈ lw_privs_2, lw_okq q := List.forall_mem_cons.mpr ⟨lw_p16, List.forall_mem_cons.mpr ⟨lw_p17, List.forall_mem_cons.mpr ⟨lw_p18, List.forall_mem_cons.mpr ⟨lw_p19, List.forall_mem_cons.mpr ⟨lw_p20, List.forall_mem_cons.mpr ⟨lw_p21, List.forall_mem_cons.mpr ⟨lw_p22, List.forall_mem_cons.mpr ⟨lw_p23, List.forall_mem_cons.mpr ⟨lw_p24, List.forall_mem_cons.mpr ⟨lw_p25, List.forall_mem_cons.mpr ⟨lw_p26, List.forall_mem_cons.mpr ⟨lw_p27, List.forall_mem_cons.mpr ⟨lw_p28, List.forall_mem_cons.mpr ⟨lw_p29, List.forall_mem_cons.mpr ⟨lw_p30, List.forall_mem_cons.mpr ⟨lw_p31, fun _ h => absurd h List.not_mem_nil⟩⟩⟩⟩⟩⟩⟩⟩⟩⟩⟩⟩⟩⟩⟩⟩
theorem lw_p32 : lw_okq (⟨"WideMachineModel", "shift", "(III)I"⟩, 23) := ⟨⟨by decide +kernel, by decide +kernel⟩, List.mem_of_getElem? (i := 369) (by decide +kernel), List.mem_of_getElem? (i := 590) (by decide +kernel), List.mem_of_getElem? (i := 591) (by decide +kernel)⟩
def lw_privs_3 : List (MethodName × Nat) := [(⟨"WideMachineModel", "shift", "(III)I"⟩, 23)]
theorem lw_r3 : ∀ q ∈ lw_privs_3, lw_okq q := List.forall_mem_cons.mpr ⟨lw_p32, fun _ h => absurd h List.not_mem_nil⟩
def lw_privs : List (MethodName × Nat) := lw_privs_1 ++ (lw_privs_2 ++ (lw_privs_3))
def lw_tbl : List Cond := k2_sels lw_privs ++ tables_1
theorem lw_privs_ok : ∀ q ∈ lw_privs, lw_okq q := by
  show ∀ q ∈ lw_privs_1 ++ (lw_privs_2 ++ (lw_privs_3)), lw_okq q
  exact List.forall_mem_append.mpr ⟨lw_r1, List.forall_mem_append.mpr ⟨lw_r2, lw_r3⟩⟩
theorem wt_0 : Cond.laysFinal "WideMachine" "WideMachine" "program" "[I" ∈ lw_tbl := List.mem_append_right _ (show _ ∈ tables_1 from List.mem_append_left _ (List.mem_of_getElem? (i := 78) rfl))
theorem wt_1 : Cond.laysFinal "WideMachine" "WideMachine" "data" "[I" ∈ lw_tbl := List.mem_append_right _ (show _ ∈ tables_1 from List.mem_append_left _ (List.mem_of_getElem? (i := 80) rfl))
theorem wt_2 : Cond.laysFinal "WideMachine" "WideMachine" "registers" "[I" ∈ lw_tbl := List.mem_append_right _ (show _ ∈ tables_1 from List.mem_append_left _ (List.mem_of_getElem? (i := 82) rfl))
theorem wt_3 : Cond.laysFinal "WideMachine" "WideMachine" "writes" "LWideMachine$Writes;" ∈ lw_tbl := List.mem_append_right _ (show _ ∈ tables_1 from List.mem_append_left _ (List.mem_of_getElem? (i := 84) rfl))
theorem wt_4 : Cond.laysFinal "WideMachine" "WideMachine" "branches" "LWideMachine$Branches;" ∈ lw_tbl := List.mem_append_right _ (show _ ∈ tables_1 from List.mem_append_left _ (List.mem_of_getElem? (i := 86) rfl))
theorem wt_5 : Cond.lays "WideMachine" "WideMachine" "state" "I" ∈ lw_tbl := List.mem_append_right _ (show _ ∈ tables_1 from List.mem_append_left _ (List.mem_of_getElem? (i := 88) rfl))
theorem wt_6 : Cond.lays "WideMachine" "WideMachine" "address" "I" ∈ lw_tbl := List.mem_append_right _ (show _ ∈ tables_1 from List.mem_append_left _ (List.mem_of_getElem? (i := 90) rfl))
theorem wt_7 : Cond.lays "WideMachine" "WideMachine" "cycles" "I" ∈ lw_tbl := List.mem_append_right _ (show _ ∈ tables_1 from List.mem_append_left _ (List.mem_of_getElem? (i := 92) rfl))
theorem wt_8 : Cond.lays "WideMachine" "WideMachine" "waits" "I" ∈ lw_tbl := List.mem_append_right _ (show _ ∈ tables_1 from List.mem_append_left _ (List.mem_of_getElem? (i := 94) rfl))
theorem wt_9 : Cond.lays "WideMachine" "WideMachine" "returnAddress" "I" ∈ lw_tbl := List.mem_append_right _ (show _ ∈ tables_1 from List.mem_append_left _ (List.mem_of_getElem? (i := 96) rfl))
theorem wt_10 : Cond.lays "WideMachine" "WideMachine" "raisedLines" "I" ∈ lw_tbl := List.mem_append_right _ (show _ ∈ tables_1 from List.mem_append_left _ (List.mem_of_getElem? (i := 98) rfl))
theorem wt_11 : Cond.lays "WideMachine" "WideMachine" "letsIn" "Z" ∈ lw_tbl := List.mem_append_right _ (show _ ∈ tables_1 from List.mem_append_left _ (List.mem_of_getElem? (i := 100) rfl))
theorem wt_12 : Cond.laysFinal "WideMachine$Writes" "WideMachine$Writes" "targets" "[I" ∈ lw_tbl := List.mem_append_right _ (show _ ∈ tables_1 from List.mem_append_left _ (List.mem_of_getElem? (i := 39) rfl))
theorem wt_13 : Cond.laysFinal "WideMachine$Writes" "WideMachine$Writes" "values" "[I" ∈ lw_tbl := List.mem_append_right _ (show _ ∈ tables_1 from List.mem_append_left _ (List.mem_of_getElem? (i := 41) rfl))
theorem wt_14 : Cond.laysFinal "WideMachine$Writes" "WideMachine$Writes" "times" "[I" ∈ lw_tbl := List.mem_append_right _ (show _ ∈ tables_1 from List.mem_append_left _ (List.mem_of_getElem? (i := 43) rfl))
theorem wt_15 : Cond.lays "WideMachine$Writes" "WideMachine$Writes" "count" "I" ∈ lw_tbl := List.mem_append_right _ (show _ ∈ tables_1 from List.mem_append_left _ (List.mem_of_getElem? (i := 45) rfl))
theorem wt_16 : Cond.laysFinal "WideMachine$Branches" "WideMachine$Branches" "targets" "[I" ∈ lw_tbl := List.mem_append_right _ (show _ ∈ tables_1 from List.mem_append_left _ (List.mem_of_getElem? (i := 59) rfl))
theorem wt_17 : Cond.laysFinal "WideMachine$Branches" "WideMachine$Branches" "times" "[I" ∈ lw_tbl := List.mem_append_right _ (show _ ∈ tables_1 from List.mem_append_left _ (List.mem_of_getElem? (i := 61) rfl))
theorem wt_18 : Cond.lays "WideMachine$Branches" "WideMachine$Branches" "count" "I" ∈ lw_tbl := List.mem_append_right _ (show _ ∈ tables_1 from List.mem_append_left _ (List.mem_of_getElem? (i := 63) rfl))
theorem wt_19 : Cond.lays "WideMachineModel" "WideMachineModel" "thrown" "I" ∈ lw_tbl := List.mem_append_right _ (show _ ∈ tables_1 from List.mem_append_right _ (List.mem_append_left _ (List.mem_of_getElem? (i := 157) rfl)))
theorem wt_20 : Cond.laysFinal "WideMachineModel" "WideMachineModel" "words" "I" ∈ lw_tbl := List.mem_append_right _ (show _ ∈ tables_1 from List.mem_append_right _ (List.mem_append_left _ (List.mem_of_getElem? (i := 159) rfl)))
theorem wt_21 : Cond.laysFinal "WideMachineModel" "WideMachineModel" "size" "I" ∈ lw_tbl := List.mem_append_right _ (show _ ∈ tables_1 from List.mem_append_right _ (List.mem_append_left _ (List.mem_of_getElem? (i := 161) rfl)))
theorem wt_22 : Cond.laysFinal "WideMachineModel" "WideMachineModel" "program" "[I" ∈ lw_tbl := List.mem_append_right _ (show _ ∈ tables_1 from List.mem_append_right _ (List.mem_append_left _ (List.mem_of_getElem? (i := 163) rfl)))
theorem wt_23 : Cond.laysFinal "WideMachineModel" "WideMachineModel" "data" "[I" ∈ lw_tbl := List.mem_append_right _ (show _ ∈ tables_1 from List.mem_append_right _ (List.mem_append_left _ (List.mem_of_getElem? (i := 165) rfl)))
theorem wt_24 : Cond.laysFinal "WideMachineModel" "WideMachineModel" "registers" "[I" ∈ lw_tbl := List.mem_append_right _ (show _ ∈ tables_1 from List.mem_append_right _ (List.mem_append_left _ (List.mem_of_getElem? (i := 167) rfl)))
theorem wt_25 : Cond.lays "WideMachineModel" "WideMachineModel" "state" "I" ∈ lw_tbl := List.mem_append_right _ (show _ ∈ tables_1 from List.mem_append_right _ (List.mem_append_left _ (List.mem_of_getElem? (i := 169) rfl)))
theorem wt_26 : Cond.lays "WideMachineModel" "WideMachineModel" "address" "I" ∈ lw_tbl := List.mem_append_right _ (show _ ∈ tables_1 from List.mem_append_right _ (List.mem_append_left _ (List.mem_of_getElem? (i := 171) rfl)))
theorem wt_27 : Cond.lays "WideMachineModel" "WideMachineModel" "cycles" "I" ∈ lw_tbl := List.mem_append_right _ (show _ ∈ tables_1 from List.mem_append_right _ (List.mem_append_left _ (List.mem_of_getElem? (i := 173) rfl)))
theorem wt_28 : Cond.lays "WideMachineModel" "WideMachineModel" "wait" "I" ∈ lw_tbl := List.mem_append_right _ (show _ ∈ tables_1 from List.mem_append_right _ (List.mem_append_left _ (List.mem_of_getElem? (i := 175) rfl)))
theorem wt_29 : Cond.lays "WideMachineModel" "WideMachineModel" "back" "I" ∈ lw_tbl := List.mem_append_right _ (show _ ∈ tables_1 from List.mem_append_right _ (List.mem_append_left _ (List.mem_of_getElem? (i := 177) rfl)))
theorem wt_30 : Cond.lays "WideMachineModel" "WideMachineModel" "letIn" "Z" ∈ lw_tbl := List.mem_append_right _ (show _ ∈ tables_1 from List.mem_append_right _ (List.mem_append_left _ (List.mem_of_getElem? (i := 179) rfl)))
theorem wt_31 : Cond.lays "WideMachineModel" "WideMachineModel" "raised" "I" ∈ lw_tbl := List.mem_append_right _ (show _ ∈ tables_1 from List.mem_append_right _ (List.mem_append_left _ (List.mem_of_getElem? (i := 181) rfl)))
theorem wt_32 : Cond.lays "WideMachineModel" "WideMachineModel" "writes" "I" ∈ lw_tbl := List.mem_append_right _ (show _ ∈ tables_1 from List.mem_append_right _ (List.mem_append_left _ (List.mem_of_getElem? (i := 183) rfl)))
theorem wt_33 : Cond.laysFinal "WideMachineModel" "WideMachineModel" "register" "[I" ∈ lw_tbl := List.mem_append_right _ (show _ ∈ tables_1 from List.mem_append_right _ (List.mem_append_left _ (List.mem_of_getElem? (i := 185) rfl)))
theorem wt_34 : Cond.laysFinal "WideMachineModel" "WideMachineModel" "value" "[I" ∈ lw_tbl := List.mem_append_right _ (show _ ∈ tables_1 from List.mem_append_right _ (List.mem_append_left _ (List.mem_of_getElem? (i := 187) rfl)))
theorem wt_35 : Cond.laysFinal "WideMachineModel" "WideMachineModel" "when" "[I" ∈ lw_tbl := List.mem_append_right _ (show _ ∈ tables_1 from List.mem_append_right _ (List.mem_append_left _ (List.mem_of_getElem? (i := 189) rfl)))
theorem wt_36 : Cond.lays "WideMachineModel" "WideMachineModel" "branches" "I" ∈ lw_tbl := List.mem_append_right _ (show _ ∈ tables_1 from List.mem_append_right _ (List.mem_append_left _ (List.mem_of_getElem? (i := 191) rfl)))
theorem wt_37 : Cond.laysFinal "WideMachineModel" "WideMachineModel" "target" "[I" ∈ lw_tbl := List.mem_append_right _ (show _ ∈ tables_1 from List.mem_append_right _ (List.mem_append_left _ (List.mem_of_getElem? (i := 193) rfl)))
theorem wt_38 : Cond.laysFinal "WideMachineModel" "WideMachineModel" "goes" "[I" ∈ lw_tbl := List.mem_append_right _ (show _ ∈ tables_1 from List.mem_append_right _ (List.mem_append_left _ (List.mem_of_getElem? (i := 195) rfl)))
theorem wt_39 : Cond.lays "WideMachineModel" "WideMachineModel" "stores" "I" ∈ lw_tbl := List.mem_append_right _ (show _ ∈ tables_1 from List.mem_append_right _ (List.mem_append_left _ (List.mem_of_getElem? (i := 197) rfl)))
theorem wt_40 : Cond.laysFinal "WideMachineModel" "WideMachineModel" "where" "[I" ∈ lw_tbl := List.mem_append_right _ (show _ ∈ tables_1 from List.mem_append_right _ (List.mem_append_left _ (List.mem_of_getElem? (i := 199) rfl)))
theorem wt_41 : Cond.laysFinal "WideMachineModel" "WideMachineModel" "what" "[I" ∈ lw_tbl := List.mem_append_right _ (show _ ∈ tables_1 from List.mem_append_right _ (List.mem_append_left _ (List.mem_of_getElem? (i := 201) rfl)))
theorem wt_42 : Cond.fieldLink "WideMachine" 13 "WideMachine" "program" "[I" ∈ lw_tbl := List.mem_append_right _ (show _ ∈ tables_1 from List.mem_append_left _ (List.mem_of_getElem? (i := 66) rfl))
theorem wt_43 : Cond.fieldLink "WideMachine" 17 "WideMachine" "data" "[I" ∈ lw_tbl := List.mem_append_right _ (show _ ∈ tables_1 from List.mem_append_left _ (List.mem_of_getElem? (i := 67) rfl))
theorem wt_44 : Cond.methodLink "WideMachine" 37 y_xm_isInData ∈ lw_tbl := List.mem_append_right _ (show _ ∈ tables_1 from List.mem_append_left _ (List.mem_of_getElem? (i := 111) rfl))
theorem wt_45 : Cond.code y_xm_isInData b_xm_isInData 2 (some .boolean) ∈ lw_tbl := List.mem_append_right _ (show _ ∈ tables_1 from List.mem_append_left _ (List.mem_of_getElem? (i := 114) rfl))
theorem wt_46 : Cond.initialized "WideMachine" ∈ lw_tbl := List.mem_append_right _ (show _ ∈ tables_1 from List.mem_append_left _ (List.mem_of_getElem? (i := 1) rfl))
theorem wt_47 : Cond.instanceMethod y_xm_isInData ∈ lw_tbl := List.mem_append_right _ (show _ ∈ tables_1 from List.mem_append_left _ (List.mem_of_getElem? (i := 113) rfl))
theorem wt_48 : Cond.selects "WideMachine" y_xm_isInData y_xm_isInData ∈ lw_tbl := List.mem_append_left _ (List.mem_of_getElem? (i := 0) rfl)
theorem wt_49 : Cond.fieldLink "WideMachine" 20 "WideMachine" "registers" "[I" ∈ lw_tbl := List.mem_append_right _ (show _ ∈ tables_1 from List.mem_append_left _ (List.mem_of_getElem? (i := 68) rfl))
theorem wt_50 : Cond.fieldLink "WideMachine$Writes" 19 "WideMachine$Writes" "count" "I" ∈ lw_tbl := List.mem_append_right _ (show _ ∈ tables_1 from List.mem_append_left _ (List.mem_of_getElem? (i := 37) rfl))
theorem wt_51 : Cond.fieldLink "WideMachine$Writes" 16 "WideMachine$Writes" "times" "[I" ∈ lw_tbl := List.mem_append_right _ (show _ ∈ tables_1 from List.mem_append_left _ (List.mem_of_getElem? (i := 35) rfl))
theorem wt_52 : Cond.fieldLink "WideMachine$Writes" 9 "WideMachine$Writes" "targets" "[I" ∈ lw_tbl := List.mem_append_right _ (show _ ∈ tables_1 from List.mem_append_left _ (List.mem_of_getElem? (i := 31) rfl))
theorem wt_53 : Cond.fieldLink "WideMachine$Writes" 13 "WideMachine$Writes" "values" "[I" ∈ lw_tbl := List.mem_append_right _ (show _ ∈ tables_1 from List.mem_append_left _ (List.mem_of_getElem? (i := 33) rfl))
theorem wt_54 : Cond.fieldLink "WideMachine" 26 "WideMachine" "writes" "LWideMachine$Writes;" ∈ lw_tbl := List.mem_append_right _ (show _ ∈ tables_1 from List.mem_append_left _ (List.mem_of_getElem? (i := 69) rfl))
theorem wt_55 : Cond.methodLink "WideMachine" 116 y_xq_comeNearer ∈ lw_tbl := List.mem_append_right _ (show _ ∈ tables_1 from List.mem_append_left _ (List.mem_of_getElem? (i := 139) rfl))
theorem wt_56 : Cond.code y_xq_comeNearer b_xq_comeNearer 2 none ∈ lw_tbl := List.mem_append_right _ (show _ ∈ tables_1 from List.mem_append_left _ (List.mem_of_getElem? (i := 142) rfl))
theorem wt_57 : Cond.initialized "WideMachine$Writes" ∈ lw_tbl := List.mem_append_right _ (show _ ∈ tables_1 from List.mem_append_left _ (List.mem_of_getElem? (i := 3) rfl))
theorem wt_58 : Cond.instanceMethod y_xq_comeNearer ∈ lw_tbl := List.mem_append_right _ (show _ ∈ tables_1 from List.mem_append_left _ (List.mem_of_getElem? (i := 140) rfl))
theorem wt_59 : Cond.selects "WideMachine$Writes" y_xq_comeNearer y_xq_comeNearer ∈ lw_tbl := List.mem_append_right _ (show _ ∈ tables_1 from List.mem_append_left _ (List.mem_of_getElem? (i := 141) rfl))
theorem wt_60 : Cond.methodLink "WideMachine" 119 y_xq_clash ∈ lw_tbl := List.mem_append_right _ (show _ ∈ tables_1 from List.mem_append_left _ (List.mem_of_getElem? (i := 143) rfl))
theorem wt_61 : Cond.code y_xq_clash b_xq_clash 4 (some .boolean) ∈ lw_tbl := List.mem_append_right _ (show _ ∈ tables_1 from List.mem_append_left _ (List.mem_of_getElem? (i := 146) rfl))
theorem wt_62 : Cond.instanceMethod y_xq_clash ∈ lw_tbl := List.mem_append_right _ (show _ ∈ tables_1 from List.mem_append_left _ (List.mem_of_getElem? (i := 144) rfl))
theorem wt_63 : Cond.selects "WideMachine$Writes" y_xq_clash y_xq_clash ∈ lw_tbl := List.mem_append_right _ (show _ ∈ tables_1 from List.mem_append_left _ (List.mem_of_getElem? (i := 145) rfl))
theorem wt_64 : Cond.fieldLink "WideMachine" 41 "WideMachine" "state" "I" ∈ lw_tbl := List.mem_append_right _ (show _ ∈ tables_1 from List.mem_append_left _ (List.mem_of_getElem? (i := 71) rfl))
theorem wt_65 : Cond.methodLink "WideMachine" 123 y_xq_land ∈ lw_tbl := List.mem_append_right _ (show _ ∈ tables_1 from List.mem_append_left _ (List.mem_of_getElem? (i := 147) rfl))
theorem wt_66 : Cond.code y_xq_land b_xq_land 4 none ∈ lw_tbl := List.mem_append_right _ (show _ ∈ tables_1 from List.mem_append_left _ (List.mem_of_getElem? (i := 150) rfl))
theorem wt_67 : Cond.instanceMethod y_xq_land ∈ lw_tbl := List.mem_append_right _ (show _ ∈ tables_1 from List.mem_append_left _ (List.mem_of_getElem? (i := 148) rfl))
theorem wt_68 : Cond.selects "WideMachine$Writes" y_xq_land y_xq_land ∈ lw_tbl := List.mem_append_right _ (show _ ∈ tables_1 from List.mem_append_left _ (List.mem_of_getElem? (i := 149) rfl))
theorem wt_69 : Cond.fieldLink "WideMachine$Branches" 16 "WideMachine$Branches" "count" "I" ∈ lw_tbl := List.mem_append_right _ (show _ ∈ tables_1 from List.mem_append_left _ (List.mem_of_getElem? (i := 57) rfl))
theorem wt_70 : Cond.fieldLink "WideMachine$Branches" 13 "WideMachine$Branches" "times" "[I" ∈ lw_tbl := List.mem_append_right _ (show _ ∈ tables_1 from List.mem_append_left _ (List.mem_of_getElem? (i := 56) rfl))
theorem wt_71 : Cond.fieldLink "WideMachine$Branches" 9 "WideMachine$Branches" "targets" "[I" ∈ lw_tbl := List.mem_append_right _ (show _ ∈ tables_1 from List.mem_append_left _ (List.mem_of_getElem? (i := 55) rfl))
theorem wt_72 : Cond.fieldLink "WideMachine" 33 "WideMachine" "branches" "LWideMachine$Branches;" ∈ lw_tbl := List.mem_append_right _ (show _ ∈ tables_1 from List.mem_append_left _ (List.mem_of_getElem? (i := 70) rfl))
theorem wt_73 : Cond.methodLink "WideMachine" 127 y_xb_comeNearer ∈ lw_tbl := List.mem_append_right _ (show _ ∈ tables_1 from List.mem_append_left _ (List.mem_of_getElem? (i := 155) rfl))
theorem wt_74 : Cond.code y_xb_comeNearer b_xb_comeNearer 2 none ∈ lw_tbl := List.mem_append_right _ (show _ ∈ tables_1 from List.mem_append_left _ (List.mem_of_getElem? (i := 158) rfl))
theorem wt_75 : Cond.initialized "WideMachine$Branches" ∈ lw_tbl := List.mem_append_right _ (show _ ∈ tables_1 from List.mem_append_left _ (List.mem_of_getElem? (i := 4) rfl))
theorem wt_76 : Cond.instanceMethod y_xb_comeNearer ∈ lw_tbl := List.mem_append_right _ (show _ ∈ tables_1 from List.mem_append_left _ (List.mem_of_getElem? (i := 156) rfl))
theorem wt_77 : Cond.selects "WideMachine$Branches" y_xb_comeNearer y_xb_comeNearer ∈ lw_tbl := List.mem_append_right _ (show _ ∈ tables_1 from List.mem_append_left _ (List.mem_of_getElem? (i := 157) rfl))
theorem wt_78 : Cond.methodLink "WideMachine" 128 y_xb_arrived ∈ lw_tbl := List.mem_append_right _ (show _ ∈ tables_1 from List.mem_append_left _ (List.mem_of_getElem? (i := 159) rfl))
theorem wt_79 : Cond.code y_xb_arrived b_xb_arrived 2 (some .int) ∈ lw_tbl := List.mem_append_right _ (show _ ∈ tables_1 from List.mem_append_left _ (List.mem_of_getElem? (i := 162) rfl))
theorem wt_80 : Cond.instanceMethod y_xb_arrived ∈ lw_tbl := List.mem_append_right _ (show _ ∈ tables_1 from List.mem_append_left _ (List.mem_of_getElem? (i := 160) rfl))
theorem wt_81 : Cond.selects "WideMachine$Branches" y_xb_arrived y_xb_arrived ∈ lw_tbl := List.mem_append_right _ (show _ ∈ tables_1 from List.mem_append_left _ (List.mem_of_getElem? (i := 161) rfl))
theorem wt_82 : Cond.methodLink "WideMachine" 131 y_xb_takeFirst ∈ lw_tbl := List.mem_append_right _ (show _ ∈ tables_1 from List.mem_append_left _ (List.mem_of_getElem? (i := 163) rfl))
theorem wt_83 : Cond.code y_xb_takeFirst b_xb_takeFirst 3 (some .int) ∈ lw_tbl := List.mem_append_right _ (show _ ∈ tables_1 from List.mem_append_left _ (List.mem_of_getElem? (i := 166) rfl))
theorem wt_84 : Cond.instanceMethod y_xb_takeFirst ∈ lw_tbl := List.mem_append_right _ (show _ ∈ tables_1 from List.mem_append_left _ (List.mem_of_getElem? (i := 164) rfl))
theorem wt_85 : Cond.selects "WideMachine$Branches" y_xb_takeFirst y_xb_takeFirst ∈ lw_tbl := List.mem_append_right _ (show _ ∈ tables_1 from List.mem_append_left _ (List.mem_of_getElem? (i := 165) rfl))
theorem wt_86 : Cond.fieldLink "WideMachine" 48 "WideMachine" "address" "I" ∈ lw_tbl := List.mem_append_right _ (show _ ∈ tables_1 from List.mem_append_left _ (List.mem_of_getElem? (i := 72) rfl))
theorem wt_87 : Cond.fieldLink "WideMachine" 68 "WideMachine" "raisedLines" "I" ∈ lw_tbl := List.mem_append_right _ (show _ ∈ tables_1 from List.mem_append_left _ (List.mem_of_getElem? (i := 76) rfl))
theorem wt_88 : Cond.fieldLink "WideMachine" 64 "WideMachine" "letsIn" "Z" ∈ lw_tbl := List.mem_append_right _ (show _ ∈ tables_1 from List.mem_append_left _ (List.mem_of_getElem? (i := 77) rfl))
theorem wt_89 : Cond.fieldLink "WideMachine" 57 "WideMachine$Branches" "count" "I" ∈ lw_tbl := List.mem_append_right _ (show _ ∈ tables_1 from List.mem_append_left _ (List.mem_of_getElem? (i := 58) rfl))
theorem wt_90 : Cond.methodLink "WideMachine" 80 y_xm_isRaised ∈ lw_tbl := List.mem_append_right _ (show _ ∈ tables_1 from List.mem_append_left _ (List.mem_of_getElem? (i := 171) rfl))
theorem wt_91 : Cond.code y_xm_isRaised b_xm_isRaised 2 (some .boolean) ∈ lw_tbl := List.mem_append_right _ (show _ ∈ tables_1 from List.mem_append_left _ (List.mem_of_getElem? (i := 174) rfl))
theorem wt_92 : Cond.instanceMethod y_xm_isRaised ∈ lw_tbl := List.mem_append_right _ (show _ ∈ tables_1 from List.mem_append_left _ (List.mem_of_getElem? (i := 173) rfl))
theorem wt_93 : Cond.selects "WideMachine" y_xm_isRaised y_xm_isRaised ∈ lw_tbl := List.mem_append_left _ (List.mem_of_getElem? (i := 5) rfl)
theorem wt_94 : Cond.fieldLink "WideMachine" 61 "WideMachine" "returnAddress" "I" ∈ lw_tbl := List.mem_append_right _ (show _ ∈ tables_1 from List.mem_append_left _ (List.mem_of_getElem? (i := 75) rfl))
theorem wt_95 : Cond.methodLink "WideMachine" 134 y_xw_goesOn ∈ lw_tbl := List.mem_append_right _ (show _ ∈ tables_1 from List.mem_append_left _ (List.mem_of_getElem? (i := 179) rfl))
theorem wt_96 : Cond.code y_xw_goesOn b_xw_goesOn 1 (some .boolean) ∈ lw_tbl := List.mem_append_right _ (show _ ∈ tables_1 from List.mem_append_left _ (List.mem_of_getElem? (i := 181) rfl))
theorem wt_97 : Cond.initialized "WideMachine$Word" ∈ lw_tbl := List.mem_append_right _ (show _ ∈ tables_1 from List.mem_append_left _ (List.mem_of_getElem? (i := 6) rfl))
theorem wt_98 : Cond.static y_xw_goesOn ∈ lw_tbl := List.mem_append_right _ (show _ ∈ tables_1 from List.mem_append_left _ (List.mem_of_getElem? (i := 180) rfl))
theorem wt_99 : Cond.methodLink "WideMachine$Word" 9 y_xw_code ∈ lw_tbl := List.mem_append_right _ (show _ ∈ tables_1 from List.mem_append_left _ (List.mem_of_getElem? (i := 193) rfl))
theorem wt_100 : Cond.code y_xw_code b_xw_code 1 (some .int) ∈ lw_tbl := List.mem_append_right _ (show _ ∈ tables_1 from List.mem_append_left _ (List.mem_of_getElem? (i := 195) rfl))
theorem wt_101 : Cond.static y_xw_code ∈ lw_tbl := List.mem_append_right _ (show _ ∈ tables_1 from List.mem_append_left _ (List.mem_of_getElem? (i := 194) rfl))
theorem wt_102 : Cond.methodLink "WideMachine$Word" 18 y_xw_isOnZero ∈ lw_tbl := List.mem_append_right _ (show _ ∈ tables_1 from List.mem_append_left _ (List.mem_of_getElem? (i := 196) rfl))
theorem wt_103 : Cond.code y_xw_isOnZero b_xw_isOnZero 1 (some .boolean) ∈ lw_tbl := List.mem_append_right _ (show _ ∈ tables_1 from List.mem_append_left _ (List.mem_of_getElem? (i := 198) rfl))
theorem wt_104 : Cond.static y_xw_isOnZero ∈ lw_tbl := List.mem_append_right _ (show _ ∈ tables_1 from List.mem_append_left _ (List.mem_of_getElem? (i := 197) rfl))
theorem wt_105 : Cond.methodLink "WideMachine$Word" 22 y_xw_isOperation ∈ lw_tbl := List.mem_append_right _ (show _ ∈ tables_1 from List.mem_append_left _ (List.mem_of_getElem? (i := 199) rfl))
theorem wt_106 : Cond.code y_xw_isOperation b_xw_isOperation 1 (some .boolean) ∈ lw_tbl := List.mem_append_right _ (show _ ∈ tables_1 from List.mem_append_left _ (List.mem_of_getElem? (i := 201) rfl))
theorem wt_107 : Cond.static y_xw_isOperation ∈ lw_tbl := List.mem_append_right _ (show _ ∈ tables_1 from List.mem_append_left _ (List.mem_of_getElem? (i := 200) rfl))
theorem wt_108 : Cond.methodLink "WideMachine$Word" 25 y_xw_hasLongNumber ∈ lw_tbl := List.mem_append_right _ (show _ ∈ tables_1 from List.mem_append_left _ (List.mem_of_getElem? (i := 202) rfl))
theorem wt_109 : Cond.code y_xw_hasLongNumber b_xw_hasLongNumber 1 (some .boolean) ∈ lw_tbl := List.mem_append_right _ (show _ ∈ tables_1 from List.mem_append_left _ (List.mem_of_getElem? (i := 204) rfl))
theorem wt_110 : Cond.static y_xw_hasLongNumber ∈ lw_tbl := List.mem_append_right _ (show _ ∈ tables_1 from List.mem_append_left _ (List.mem_of_getElem? (i := 203) rfl))
theorem wt_111 : Cond.methodLink "WideMachine$Word" 28 y_xw_hasD ∈ lw_tbl := List.mem_append_right _ (show _ ∈ tables_1 from List.mem_append_left _ (List.mem_of_getElem? (i := 205) rfl))
theorem wt_112 : Cond.code y_xw_hasD b_xw_hasD 1 (some .boolean) ∈ lw_tbl := List.mem_append_right _ (show _ ∈ tables_1 from List.mem_append_left _ (List.mem_of_getElem? (i := 207) rfl))
theorem wt_113 : Cond.static y_xw_hasD ∈ lw_tbl := List.mem_append_right _ (show _ ∈ tables_1 from List.mem_append_left _ (List.mem_of_getElem? (i := 206) rfl))
theorem wt_114 : Cond.methodLink "WideMachine$Word" 31 y_xw_d ∈ lw_tbl := List.mem_append_right _ (show _ ∈ tables_1 from List.mem_append_left _ (List.mem_of_getElem? (i := 208) rfl))
theorem wt_115 : Cond.code y_xw_d b_xw_d 1 (some .int) ∈ lw_tbl := List.mem_append_right _ (show _ ∈ tables_1 from List.mem_append_left _ (List.mem_of_getElem? (i := 210) rfl))
theorem wt_116 : Cond.static y_xw_d ∈ lw_tbl := List.mem_append_right _ (show _ ∈ tables_1 from List.mem_append_left _ (List.mem_of_getElem? (i := 209) rfl))
theorem wt_117 : Cond.methodLink "WideMachine$Word" 34 y_xw_side ∈ lw_tbl := List.mem_append_right _ (show _ ∈ tables_1 from List.mem_append_left _ (List.mem_of_getElem? (i := 211) rfl))
theorem wt_118 : Cond.code y_xw_side b_xw_side 1 (some .int) ∈ lw_tbl := List.mem_append_right _ (show _ ∈ tables_1 from List.mem_append_left _ (List.mem_of_getElem? (i := 213) rfl))
theorem wt_119 : Cond.static y_xw_side ∈ lw_tbl := List.mem_append_right _ (show _ ∈ tables_1 from List.mem_append_left _ (List.mem_of_getElem? (i := 212) rfl))
theorem wt_120 : Cond.methodLink "WideMachine$Word" 37 y_xw_hasA ∈ lw_tbl := List.mem_append_right _ (show _ ∈ tables_1 from List.mem_append_left _ (List.mem_of_getElem? (i := 214) rfl))
theorem wt_121 : Cond.code y_xw_hasA b_xw_hasA 1 (some .boolean) ∈ lw_tbl := List.mem_append_right _ (show _ ∈ tables_1 from List.mem_append_left _ (List.mem_of_getElem? (i := 216) rfl))
theorem wt_122 : Cond.static y_xw_hasA ∈ lw_tbl := List.mem_append_right _ (show _ ∈ tables_1 from List.mem_append_left _ (List.mem_of_getElem? (i := 215) rfl))
theorem wt_123 : Cond.methodLink "WideMachine$Word" 40 y_xw_a ∈ lw_tbl := List.mem_append_right _ (show _ ∈ tables_1 from List.mem_append_left _ (List.mem_of_getElem? (i := 217) rfl))
theorem wt_124 : Cond.code y_xw_a b_xw_a 1 (some .int) ∈ lw_tbl := List.mem_append_right _ (show _ ∈ tables_1 from List.mem_append_left _ (List.mem_of_getElem? (i := 219) rfl))
theorem wt_125 : Cond.static y_xw_a ∈ lw_tbl := List.mem_append_right _ (show _ ∈ tables_1 from List.mem_append_left _ (List.mem_of_getElem? (i := 218) rfl))
theorem wt_126 : Cond.methodLink "WideMachine" 151 y_xw_isIllFormed ∈ lw_tbl := List.mem_append_right _ (show _ ∈ tables_1 from List.mem_append_left _ (List.mem_of_getElem? (i := 190) rfl))
theorem wt_127 : Cond.code y_xw_isIllFormed b_xw_isIllFormed 3 (some .boolean) ∈ lw_tbl := List.mem_append_right _ (show _ ∈ tables_1 from List.mem_append_left _ (List.mem_of_getElem? (i := 192) rfl))
theorem wt_128 : Cond.static y_xw_isIllFormed ∈ lw_tbl := List.mem_append_right _ (show _ ∈ tables_1 from List.mem_append_left _ (List.mem_of_getElem? (i := 191) rfl))
theorem wt_129 : Cond.methodLink "WideMachine" 154 y_xw_unit ∈ lw_tbl := List.mem_append_right _ (show _ ∈ tables_1 from List.mem_append_left _ (List.mem_of_getElem? (i := 224) rfl))
theorem wt_130 : Cond.code y_xw_unit b_xw_unit 1 (some .int) ∈ lw_tbl := List.mem_append_right _ (show _ ∈ tables_1 from List.mem_append_left _ (List.mem_of_getElem? (i := 226) rfl))
theorem wt_131 : Cond.static y_xw_unit ∈ lw_tbl := List.mem_append_right _ (show _ ∈ tables_1 from List.mem_append_left _ (List.mem_of_getElem? (i := 225) rfl))
theorem wt_132 : Cond.methodLink "WideMachine$Word" 43 y_xw_hasB ∈ lw_tbl := List.mem_append_right _ (show _ ∈ tables_1 from List.mem_append_left _ (List.mem_of_getElem? (i := 234) rfl))
theorem wt_133 : Cond.code y_xw_hasB b_xw_hasB 1 (some .boolean) ∈ lw_tbl := List.mem_append_right _ (show _ ∈ tables_1 from List.mem_append_left _ (List.mem_of_getElem? (i := 236) rfl))
theorem wt_134 : Cond.static y_xw_hasB ∈ lw_tbl := List.mem_append_right _ (show _ ∈ tables_1 from List.mem_append_left _ (List.mem_of_getElem? (i := 235) rfl))
theorem wt_135 : Cond.methodLink "WideMachine$Word" 46 y_xw_isNumberB ∈ lw_tbl := List.mem_append_right _ (show _ ∈ tables_1 from List.mem_append_left _ (List.mem_of_getElem? (i := 237) rfl))
theorem wt_136 : Cond.code y_xw_isNumberB b_xw_isNumberB 1 (some .boolean) ∈ lw_tbl := List.mem_append_right _ (show _ ∈ tables_1 from List.mem_append_left _ (List.mem_of_getElem? (i := 239) rfl))
theorem wt_137 : Cond.static y_xw_isNumberB ∈ lw_tbl := List.mem_append_right _ (show _ ∈ tables_1 from List.mem_append_left _ (List.mem_of_getElem? (i := 238) rfl))
theorem wt_138 : Cond.methodLink "WideMachine$Word" 49 y_xw_b ∈ lw_tbl := List.mem_append_right _ (show _ ∈ tables_1 from List.mem_append_right _ (List.mem_append_left _ (List.mem_of_getElem? (i := 0) rfl)))
theorem wt_139 : Cond.code y_xw_b b_xw_b 1 (some .int) ∈ lw_tbl := List.mem_append_right _ (show _ ∈ tables_1 from List.mem_append_right _ (List.mem_append_left _ (List.mem_of_getElem? (i := 2) rfl)))
theorem wt_140 : Cond.static y_xw_b ∈ lw_tbl := List.mem_append_right _ (show _ ∈ tables_1 from List.mem_append_right _ (List.mem_append_left _ (List.mem_of_getElem? (i := 1) rfl)))
theorem wt_141 : Cond.methodLink "WideMachine" 157 y_xw_crosses ∈ lw_tbl := List.mem_append_right _ (show _ ∈ tables_1 from List.mem_append_left _ (List.mem_of_getElem? (i := 231) rfl))
theorem wt_142 : Cond.code y_xw_crosses b_xw_crosses 1 (some .boolean) ∈ lw_tbl := List.mem_append_right _ (show _ ∈ tables_1 from List.mem_append_left _ (List.mem_of_getElem? (i := 233) rfl))
theorem wt_143 : Cond.static y_xw_crosses ∈ lw_tbl := List.mem_append_right _ (show _ ∈ tables_1 from List.mem_append_left _ (List.mem_of_getElem? (i := 232) rfl))
theorem wt_144 : Cond.methodLink "WideMachine" 160 y_xw_side ∈ lw_tbl := List.mem_append_right _ (show _ ∈ tables_1 from List.mem_append_right _ (List.mem_append_left _ (List.mem_of_getElem? (i := 3) rfl)))
theorem wt_145 : Cond.methodLink "WideMachine" 172 y_xw_conditionRegister ∈ lw_tbl := List.mem_append_right _ (show _ ∈ tables_1 from List.mem_append_right _ (List.mem_append_left _ (List.mem_of_getElem? (i := 13) rfl)))
theorem wt_146 : Cond.code y_xw_conditionRegister b_xw_conditionRegister 1 (some .int) ∈ lw_tbl := List.mem_append_right _ (show _ ∈ tables_1 from List.mem_append_right _ (List.mem_append_left _ (List.mem_of_getElem? (i := 15) rfl)))
theorem wt_147 : Cond.static y_xw_conditionRegister ∈ lw_tbl := List.mem_append_right _ (show _ ∈ tables_1 from List.mem_append_right _ (List.mem_append_left _ (List.mem_of_getElem? (i := 14) rfl)))
theorem wt_148 : Cond.methodLink "WideMachine" 175 y_xw_isOnZero ∈ lw_tbl := List.mem_append_right _ (show _ ∈ tables_1 from List.mem_append_right _ (List.mem_append_left _ (List.mem_of_getElem? (i := 16) rfl)))
theorem wt_149 : Cond.methodLink "WideMachine" 184 y_xw_isNumberB ∈ lw_tbl := List.mem_append_right _ (show _ ∈ tables_1 from List.mem_append_right _ (List.mem_append_left _ (List.mem_of_getElem? (i := 26) rfl)))
theorem wt_150 : Cond.methodLink "WideMachine" 187 y_xw_numberB ∈ lw_tbl := List.mem_append_right _ (show _ ∈ tables_1 from List.mem_append_right _ (List.mem_append_left _ (List.mem_of_getElem? (i := 27) rfl)))
theorem wt_151 : Cond.code y_xw_numberB b_xw_numberB 1 (some .int) ∈ lw_tbl := List.mem_append_right _ (show _ ∈ tables_1 from List.mem_append_right _ (List.mem_append_left _ (List.mem_of_getElem? (i := 29) rfl)))
theorem wt_152 : Cond.static y_xw_numberB ∈ lw_tbl := List.mem_append_right _ (show _ ∈ tables_1 from List.mem_append_right _ (List.mem_append_left _ (List.mem_of_getElem? (i := 28) rfl)))
theorem wt_153 : Cond.methodLink "WideMachine" 190 y_xw_b ∈ lw_tbl := List.mem_append_right _ (show _ ∈ tables_1 from List.mem_append_right _ (List.mem_append_left _ (List.mem_of_getElem? (i := 30) rfl)))
theorem wt_154 : Cond.methodLink "WideMachine" 178 y_xw_a ∈ lw_tbl := List.mem_append_right _ (show _ ∈ tables_1 from List.mem_append_right _ (List.mem_append_left _ (List.mem_of_getElem? (i := 21) rfl)))
theorem wt_155 : Cond.methodLink "WideMachine" 181 y_xm_operandB ∈ lw_tbl := List.mem_append_right _ (show _ ∈ tables_1 from List.mem_append_right _ (List.mem_append_left _ (List.mem_of_getElem? (i := 22) rfl)))
theorem wt_156 : Cond.code y_xm_operandB b_xm_operandB 2 (some .int) ∈ lw_tbl := List.mem_append_right _ (show _ ∈ tables_1 from List.mem_append_right _ (List.mem_append_left _ (List.mem_of_getElem? (i := 25) rfl)))
theorem wt_157 : Cond.instanceMethod y_xm_operandB ∈ lw_tbl := List.mem_append_right _ (show _ ∈ tables_1 from List.mem_append_right _ (List.mem_append_left _ (List.mem_of_getElem? (i := 24) rfl)))
theorem wt_158 : Cond.selects "WideMachine" y_xm_operandB y_xm_operandB ∈ lw_tbl := List.mem_append_left _ (List.mem_of_getElem? (i := 14) rfl)
theorem wt_159 : Cond.methodLink "WideMachine" 163 y_xw_code ∈ lw_tbl := List.mem_append_right _ (show _ ∈ tables_1 from List.mem_append_right _ (List.mem_append_left _ (List.mem_of_getElem? (i := 8) rfl)))
theorem wt_160 : Cond.methodLink "WideMachine" 166 y_xm_isConditionTrue ∈ lw_tbl := List.mem_append_right _ (show _ ∈ tables_1 from List.mem_append_right _ (List.mem_append_left _ (List.mem_of_getElem? (i := 9) rfl)))
theorem wt_161 : Cond.code y_xm_isConditionTrue b_xm_isConditionTrue 3 (some .boolean) ∈ lw_tbl := List.mem_append_right _ (show _ ∈ tables_1 from List.mem_append_right _ (List.mem_append_left _ (List.mem_of_getElem? (i := 12) rfl)))
theorem wt_162 : Cond.instanceMethod y_xm_isConditionTrue ∈ lw_tbl := List.mem_append_right _ (show _ ∈ tables_1 from List.mem_append_right _ (List.mem_append_left _ (List.mem_of_getElem? (i := 11) rfl)))
theorem wt_163 : Cond.selects "WideMachine" y_xm_isConditionTrue y_xm_isConditionTrue ∈ lw_tbl := List.mem_append_left _ (List.mem_of_getElem? (i := 12) rfl)
theorem wt_164 : Cond.methodLink "WideMachine" 169 y_xm_dataAddress ∈ lw_tbl := List.mem_append_right _ (show _ ∈ tables_1 from List.mem_append_right _ (List.mem_append_left _ (List.mem_of_getElem? (i := 17) rfl)))
theorem wt_165 : Cond.code y_xm_dataAddress b_xm_dataAddress 2 (some .int) ∈ lw_tbl := List.mem_append_right _ (show _ ∈ tables_1 from List.mem_append_right _ (List.mem_append_left _ (List.mem_of_getElem? (i := 20) rfl)))
theorem wt_166 : Cond.instanceMethod y_xm_dataAddress ∈ lw_tbl := List.mem_append_right _ (show _ ∈ tables_1 from List.mem_append_right _ (List.mem_append_left _ (List.mem_of_getElem? (i := 19) rfl)))
theorem wt_167 : Cond.selects "WideMachine" y_xm_dataAddress y_xm_dataAddress ∈ lw_tbl := List.mem_append_left _ (List.mem_of_getElem? (i := 13) rfl)
theorem wt_168 : Cond.methodLink "WideMachine" 139 y_xm_hasIllFormed ∈ lw_tbl := List.mem_append_right _ (show _ ∈ tables_1 from List.mem_append_left _ (List.mem_of_getElem? (i := 186) rfl))
theorem wt_169 : Cond.code y_xm_hasIllFormed b_xm_hasIllFormed 3 (some .boolean) ∈ lw_tbl := List.mem_append_right _ (show _ ∈ tables_1 from List.mem_append_left _ (List.mem_of_getElem? (i := 189) rfl))
theorem wt_170 : Cond.instanceMethod y_xm_hasIllFormed ∈ lw_tbl := List.mem_append_right _ (show _ ∈ tables_1 from List.mem_append_left _ (List.mem_of_getElem? (i := 188) rfl))
theorem wt_171 : Cond.selects "WideMachine" y_xm_hasIllFormed y_xm_hasIllFormed ∈ lw_tbl := List.mem_append_left _ (List.mem_of_getElem? (i := 8) rfl)
theorem wt_172 : Cond.methodLink "WideMachine" 142 y_xm_hasUnitTwice ∈ lw_tbl := List.mem_append_right _ (show _ ∈ tables_1 from List.mem_append_left _ (List.mem_of_getElem? (i := 220) rfl))
theorem wt_173 : Cond.code y_xm_hasUnitTwice b_xm_hasUnitTwice 5 (some .boolean) ∈ lw_tbl := List.mem_append_right _ (show _ ∈ tables_1 from List.mem_append_left _ (List.mem_of_getElem? (i := 223) rfl))
theorem wt_174 : Cond.instanceMethod y_xm_hasUnitTwice ∈ lw_tbl := List.mem_append_right _ (show _ ∈ tables_1 from List.mem_append_left _ (List.mem_of_getElem? (i := 222) rfl))
theorem wt_175 : Cond.selects "WideMachine" y_xm_hasUnitTwice y_xm_hasUnitTwice ∈ lw_tbl := List.mem_append_left _ (List.mem_of_getElem? (i := 9) rfl)
theorem wt_176 : Cond.methodLink "WideMachine" 145 y_xm_hasCrossedTwice ∈ lw_tbl := List.mem_append_right _ (show _ ∈ tables_1 from List.mem_append_left _ (List.mem_of_getElem? (i := 227) rfl))
theorem wt_177 : Cond.code y_xm_hasCrossedTwice b_xm_hasCrossedTwice 5 (some .boolean) ∈ lw_tbl := List.mem_append_right _ (show _ ∈ tables_1 from List.mem_append_left _ (List.mem_of_getElem? (i := 230) rfl))
theorem wt_178 : Cond.instanceMethod y_xm_hasCrossedTwice ∈ lw_tbl := List.mem_append_right _ (show _ ∈ tables_1 from List.mem_append_left _ (List.mem_of_getElem? (i := 229) rfl))
theorem wt_179 : Cond.selects "WideMachine" y_xm_hasCrossedTwice y_xm_hasCrossedTwice ∈ lw_tbl := List.mem_append_left _ (List.mem_of_getElem? (i := 10) rfl)
theorem wt_180 : Cond.methodLink "WideMachine" 148 y_xm_goesBeyondData ∈ lw_tbl := List.mem_append_right _ (show _ ∈ tables_1 from List.mem_append_right _ (List.mem_append_left _ (List.mem_of_getElem? (i := 4) rfl)))
theorem wt_181 : Cond.code y_xm_goesBeyondData b_xm_goesBeyondData 6 (some .boolean) ∈ lw_tbl := List.mem_append_right _ (show _ ∈ tables_1 from List.mem_append_right _ (List.mem_append_left _ (List.mem_of_getElem? (i := 7) rfl)))
theorem wt_182 : Cond.instanceMethod y_xm_goesBeyondData ∈ lw_tbl := List.mem_append_right _ (show _ ∈ tables_1 from List.mem_append_right _ (List.mem_append_left _ (List.mem_of_getElem? (i := 6) rfl)))
theorem wt_183 : Cond.selects "WideMachine" y_xm_goesBeyondData y_xm_goesBeyondData ∈ lw_tbl := List.mem_append_left _ (List.mem_of_getElem? (i := 11) rfl)
theorem wt_184 : Cond.constantLong "WideMachine$Values" 20 2147483647 ∈ lw_tbl := List.mem_append_right _ (show _ ∈ tables_1 from List.mem_append_right _ (List.mem_append_left _ (List.mem_of_getElem? (i := 66) rfl)))
theorem wt_185 : Cond.constant "WideMachine$Values" 22 2147483647 ∈ lw_tbl := List.mem_append_right _ (show _ ∈ tables_1 from List.mem_append_right _ (List.mem_append_left _ (List.mem_of_getElem? (i := 67) rfl)))
theorem wt_186 : Cond.constantLong "WideMachine$Values" 23 (-2147483648) ∈ lw_tbl := List.mem_append_right _ (show _ ∈ tables_1 from List.mem_append_right _ (List.mem_append_left _ (List.mem_of_getElem? (i := 68) rfl)))
theorem wt_187 : Cond.constant "WideMachine$Values" 25 (-2147483648) ∈ lw_tbl := List.mem_append_right _ (show _ ∈ tables_1 from List.mem_append_right _ (List.mem_append_left _ (List.mem_of_getElem? (i := 69) rfl)))
theorem wt_188 : Cond.methodLink "WideMachine$Values" 7 y_xv_nearestInt ∈ lw_tbl := List.mem_append_right _ (show _ ∈ tables_1 from List.mem_append_right _ (List.mem_append_left _ (List.mem_of_getElem? (i := 63) rfl)))
theorem wt_189 : Cond.code y_xv_nearestInt b_xv_nearestInt 2 (some .int) ∈ lw_tbl := List.mem_append_right _ (show _ ∈ tables_1 from List.mem_append_right _ (List.mem_append_left _ (List.mem_of_getElem? (i := 65) rfl)))
theorem wt_190 : Cond.initialized "WideMachine$Values" ∈ lw_tbl := List.mem_append_right _ (show _ ∈ tables_1 from List.mem_append_left _ (List.mem_of_getElem? (i := 7) rfl))
theorem wt_191 : Cond.static y_xv_nearestInt ∈ lw_tbl := List.mem_append_right _ (show _ ∈ tables_1 from List.mem_append_right _ (List.mem_append_left _ (List.mem_of_getElem? (i := 64) rfl)))
theorem wt_192 : Cond.methodLink "WideMachine$Values" 13 y_xv_bitsLikeHighest ∈ lw_tbl := List.mem_append_right _ (show _ ∈ tables_1 from List.mem_append_right _ (List.mem_append_left _ (List.mem_of_getElem? (i := 70) rfl)))
theorem wt_193 : Cond.code y_xv_bitsLikeHighest b_xv_bitsLikeHighest 4 (some .int) ∈ lw_tbl := List.mem_append_right _ (show _ ∈ tables_1 from List.mem_append_right _ (List.mem_append_left _ (List.mem_of_getElem? (i := 72) rfl)))
theorem wt_194 : Cond.static y_xv_bitsLikeHighest ∈ lw_tbl := List.mem_append_right _ (show _ ∈ tables_1 from List.mem_append_right _ (List.mem_append_left _ (List.mem_of_getElem? (i := 71) rfl)))
theorem wt_195 : Cond.constant "WideMachine$Values" 17 65535 ∈ lw_tbl := List.mem_append_right _ (show _ ∈ tables_1 from List.mem_append_right _ (List.mem_append_left _ (List.mem_of_getElem? (i := 79) rfl)))
theorem wt_196 : Cond.constantLong "WideMachine$Values" 18 2 ∈ lw_tbl := List.mem_append_right _ (show _ ∈ tables_1 from List.mem_append_right _ (List.mem_append_left _ (List.mem_of_getElem? (i := 80) rfl)))
theorem wt_197 : Cond.methodLink "WideMachine" 217 y_xw_number ∈ lw_tbl := List.mem_append_right _ (show _ ∈ tables_1 from List.mem_append_right _ (List.mem_append_left _ (List.mem_of_getElem? (i := 51) rfl)))
theorem wt_198 : Cond.code y_xw_number b_xw_number 1 (some .int) ∈ lw_tbl := List.mem_append_right _ (show _ ∈ tables_1 from List.mem_append_right _ (List.mem_append_left _ (List.mem_of_getElem? (i := 53) rfl)))
theorem wt_199 : Cond.static y_xw_number ∈ lw_tbl := List.mem_append_right _ (show _ ∈ tables_1 from List.mem_append_right _ (List.mem_append_left _ (List.mem_of_getElem? (i := 52) rfl)))
theorem wt_200 : Cond.constant "WideMachine" 220 65536 ∈ lw_tbl := List.mem_append_right _ (show _ ∈ tables_1 from List.mem_append_right _ (List.mem_append_left _ (List.mem_of_getElem? (i := 54) rfl)))
theorem wt_201 : Cond.methodLink "WideMachine" 205 y_xw_d ∈ lw_tbl := List.mem_append_right _ (show _ ∈ tables_1 from List.mem_append_right _ (List.mem_append_left _ (List.mem_of_getElem? (i := 46) rfl)))
theorem wt_202 : Cond.constant "WideMachine" 221 65535 ∈ lw_tbl := List.mem_append_right _ (show _ ∈ tables_1 from List.mem_append_right _ (List.mem_append_left _ (List.mem_of_getElem? (i := 55) rfl)))
theorem wt_203 : Cond.methodLink "WideMachine" 222 y_xm_peek ∈ lw_tbl := List.mem_append_right _ (show _ ∈ tables_1 from List.mem_append_right _ (List.mem_append_left _ (List.mem_of_getElem? (i := 56) rfl)))
theorem wt_204 : Cond.code y_xm_peek b_xm_peek 2 (some .int) ∈ lw_tbl := List.mem_append_right _ (show _ ∈ tables_1 from List.mem_append_left _ (List.mem_of_getElem? (i := 118) rfl))
theorem wt_205 : Cond.instanceMethod y_xm_peek ∈ lw_tbl := List.mem_append_right _ (show _ ∈ tables_1 from List.mem_append_left _ (List.mem_of_getElem? (i := 116) rfl))
theorem wt_206 : Cond.selects "WideMachine" y_xm_peek y_xm_peek ∈ lw_tbl := List.mem_append_right _ (show _ ∈ tables_1 from List.mem_append_left _ (List.mem_of_getElem? (i := 117) rfl))
theorem wt_207 : Cond.methodLink "WideMachine" 225 y_xw_kind ∈ lw_tbl := List.mem_append_right _ (show _ ∈ tables_1 from List.mem_append_right _ (List.mem_append_left _ (List.mem_of_getElem? (i := 57) rfl)))
theorem wt_208 : Cond.code y_xw_kind b_xw_kind 1 (some .int) ∈ lw_tbl := List.mem_append_right _ (show _ ∈ tables_1 from List.mem_append_right _ (List.mem_append_left _ (List.mem_of_getElem? (i := 59) rfl)))
theorem wt_209 : Cond.static y_xw_kind ∈ lw_tbl := List.mem_append_right _ (show _ ∈ tables_1 from List.mem_append_right _ (List.mem_append_left _ (List.mem_of_getElem? (i := 58) rfl)))
theorem wt_210 : Cond.methodLink "WideMachine" 228 y_xv_ofL ∈ lw_tbl := List.mem_append_right _ (show _ ∈ tables_1 from List.mem_append_right _ (List.mem_append_left _ (List.mem_of_getElem? (i := 60) rfl)))
theorem wt_211 : Cond.code y_xv_ofL b_xv_ofL 3 (some .int) ∈ lw_tbl := List.mem_append_right _ (show _ ∈ tables_1 from List.mem_append_right _ (List.mem_append_left _ (List.mem_of_getElem? (i := 62) rfl)))
theorem wt_212 : Cond.static y_xv_ofL ∈ lw_tbl := List.mem_append_right _ (show _ ∈ tables_1 from List.mem_append_right _ (List.mem_append_left _ (List.mem_of_getElem? (i := 61) rfl)))
theorem wt_213 : Cond.methodLink "WideMachine" 234 y_xv_ofS ∈ lw_tbl := List.mem_append_right _ (show _ ∈ tables_1 from List.mem_append_right _ (List.mem_append_left _ (List.mem_of_getElem? (i := 73) rfl)))
theorem wt_214 : Cond.code y_xv_ofS b_xv_ofS 3 (some .int) ∈ lw_tbl := List.mem_append_right _ (show _ ∈ tables_1 from List.mem_append_right _ (List.mem_append_left _ (List.mem_of_getElem? (i := 75) rfl)))
theorem wt_215 : Cond.static y_xv_ofS ∈ lw_tbl := List.mem_append_right _ (show _ ∈ tables_1 from List.mem_append_right _ (List.mem_append_left _ (List.mem_of_getElem? (i := 74) rfl)))
theorem wt_216 : Cond.methodLink "WideMachine" 237 y_xv_ofM ∈ lw_tbl := List.mem_append_right _ (show _ ∈ tables_1 from List.mem_append_right _ (List.mem_append_left _ (List.mem_of_getElem? (i := 76) rfl)))
theorem wt_217 : Cond.code y_xv_ofM b_xv_ofM 3 (some .int) ∈ lw_tbl := List.mem_append_right _ (show _ ∈ tables_1 from List.mem_append_right _ (List.mem_append_left _ (List.mem_of_getElem? (i := 78) rfl)))
theorem wt_218 : Cond.static y_xv_ofM ∈ lw_tbl := List.mem_append_right _ (show _ ∈ tables_1 from List.mem_append_right _ (List.mem_append_left _ (List.mem_of_getElem? (i := 77) rfl)))
theorem wt_219 : Cond.methodLink "WideMachine" 240 y_xv_ofD ∈ lw_tbl := List.mem_append_right _ (show _ ∈ tables_1 from List.mem_append_right _ (List.mem_append_left _ (List.mem_of_getElem? (i := 81) rfl)))
theorem wt_220 : Cond.code y_xv_ofD b_xv_ofD 3 (some .int) ∈ lw_tbl := List.mem_append_right _ (show _ ∈ tables_1 from List.mem_append_right _ (List.mem_append_left _ (List.mem_of_getElem? (i := 83) rfl)))
theorem wt_221 : Cond.static y_xv_ofD ∈ lw_tbl := List.mem_append_right _ (show _ ∈ tables_1 from List.mem_append_right _ (List.mem_append_left _ (List.mem_of_getElem? (i := 82) rfl)))
theorem wt_222 : Cond.methodLink "WideMachine$Word" 15 y_xw_kind ∈ lw_tbl := List.mem_append_right _ (show _ ∈ tables_1 from List.mem_append_right _ (List.mem_append_left _ (List.mem_of_getElem? (i := 87) rfl)))
theorem wt_223 : Cond.methodLink "WideMachine" 199 y_xw_target ∈ lw_tbl := List.mem_append_right _ (show _ ∈ tables_1 from List.mem_append_right _ (List.mem_append_left _ (List.mem_of_getElem? (i := 39) rfl)))
theorem wt_224 : Cond.code y_xw_target b_xw_target 1 (some .int) ∈ lw_tbl := List.mem_append_right _ (show _ ∈ tables_1 from List.mem_append_right _ (List.mem_append_left _ (List.mem_of_getElem? (i := 41) rfl)))
theorem wt_225 : Cond.static y_xw_target ∈ lw_tbl := List.mem_append_right _ (show _ ∈ tables_1 from List.mem_append_right _ (List.mem_append_left _ (List.mem_of_getElem? (i := 40) rfl)))
theorem wt_226 : Cond.methodLink "WideMachine" 202 y_xb_add ∈ lw_tbl := List.mem_append_right _ (show _ ∈ tables_1 from List.mem_append_right _ (List.mem_append_left _ (List.mem_of_getElem? (i := 42) rfl)))
theorem wt_227 : Cond.code y_xb_add b_xb_add 2 none ∈ lw_tbl := List.mem_append_right _ (show _ ∈ tables_1 from List.mem_append_right _ (List.mem_append_left _ (List.mem_of_getElem? (i := 45) rfl)))
theorem wt_228 : Cond.instanceMethod y_xb_add ∈ lw_tbl := List.mem_append_right _ (show _ ∈ tables_1 from List.mem_append_right _ (List.mem_append_left _ (List.mem_of_getElem? (i := 43) rfl)))
theorem wt_229 : Cond.selects "WideMachine$Branches" y_xb_add y_xb_add ∈ lw_tbl := List.mem_append_right _ (show _ ∈ tables_1 from List.mem_append_right _ (List.mem_append_left _ (List.mem_of_getElem? (i := 44) rfl)))
theorem wt_230 : Cond.fieldLink "WideMachine" 58 "WideMachine" "waits" "I" ∈ lw_tbl := List.mem_append_right _ (show _ ∈ tables_1 from List.mem_append_left _ (List.mem_of_getElem? (i := 74) rfl))
theorem wt_231 : Cond.methodLink "WideMachine" 93 Lib.Math.max.name ∈ lw_tbl := List.mem_append_right _ (show _ ∈ tables_1 from List.mem_append_left _ (List.mem_of_getElem? (i := 22) rfl))
theorem wt_232 : Cond.static Lib.Math.max.name ∈ lw_tbl := List.mem_append_right _ (show _ ∈ tables_1 from List.mem_append_left _ (List.mem_of_getElem? (i := 23) rfl))
theorem wt_233 : Cond.initialized "java/lang/Math" ∈ lw_tbl := List.mem_append_right _ (show _ ∈ tables_1 from List.mem_append_left _ (List.mem_of_getElem? (i := 2) rfl))
theorem wt_234 : Cond.code Lib.Math.max.name Lib.Math.max.code 2 (some .int) ∈ lw_tbl := List.mem_append_right _ (show _ ∈ tables_1 from List.mem_append_left _ (List.mem_of_getElem? (i := 24) rfl))
theorem wt_235 : Cond.methodLink "WideMachine" 208 y_xm_valueOf ∈ lw_tbl := List.mem_append_right _ (show _ ∈ tables_1 from List.mem_append_right _ (List.mem_append_left _ (List.mem_of_getElem? (i := 47) rfl)))
theorem wt_236 : Cond.code y_xm_valueOf b_xm_valueOf 5 (some .int) ∈ lw_tbl := List.mem_append_right _ (show _ ∈ tables_1 from List.mem_append_right _ (List.mem_append_left _ (List.mem_of_getElem? (i := 50) rfl)))
theorem wt_237 : Cond.instanceMethod y_xm_valueOf ∈ lw_tbl := List.mem_append_right _ (show _ ∈ tables_1 from List.mem_append_right _ (List.mem_append_left _ (List.mem_of_getElem? (i := 49) rfl)))
theorem wt_238 : Cond.selects "WideMachine" y_xm_valueOf y_xm_valueOf ∈ lw_tbl := List.mem_append_left _ (List.mem_of_getElem? (i := 17) rfl)
theorem wt_239 : Cond.methodLink "WideMachine" 211 y_xw_timeOfWrite ∈ lw_tbl := List.mem_append_right _ (show _ ∈ tables_1 from List.mem_append_right _ (List.mem_append_left _ (List.mem_of_getElem? (i := 84) rfl)))
theorem wt_240 : Cond.code y_xw_timeOfWrite b_xw_timeOfWrite 1 (some .int) ∈ lw_tbl := List.mem_append_right _ (show _ ∈ tables_1 from List.mem_append_right _ (List.mem_append_left _ (List.mem_of_getElem? (i := 86) rfl)))
theorem wt_241 : Cond.static y_xw_timeOfWrite ∈ lw_tbl := List.mem_append_right _ (show _ ∈ tables_1 from List.mem_append_right _ (List.mem_append_left _ (List.mem_of_getElem? (i := 85) rfl)))
theorem wt_242 : Cond.methodLink "WideMachine" 214 y_xq_add ∈ lw_tbl := List.mem_append_right _ (show _ ∈ tables_1 from List.mem_append_right _ (List.mem_append_left _ (List.mem_of_getElem? (i := 88) rfl)))
theorem wt_243 : Cond.code y_xq_add b_xq_add 4 none ∈ lw_tbl := List.mem_append_right _ (show _ ∈ tables_1 from List.mem_append_right _ (List.mem_append_left _ (List.mem_of_getElem? (i := 91) rfl)))
theorem wt_244 : Cond.instanceMethod y_xq_add ∈ lw_tbl := List.mem_append_right _ (show _ ∈ tables_1 from List.mem_append_right _ (List.mem_append_left _ (List.mem_of_getElem? (i := 89) rfl)))
theorem wt_245 : Cond.selects "WideMachine$Writes" y_xq_add y_xq_add ∈ lw_tbl := List.mem_append_right _ (show _ ∈ tables_1 from List.mem_append_right _ (List.mem_append_left _ (List.mem_of_getElem? (i := 90) rfl)))
theorem wt_246 : Cond.methodLink "WideMachine" 243 y_xm_poke ∈ lw_tbl := List.mem_append_right _ (show _ ∈ tables_1 from List.mem_append_right _ (List.mem_append_left _ (List.mem_of_getElem? (i := 96) rfl)))
theorem wt_247 : Cond.code y_xm_poke b_xm_poke 3 (some .boolean) ∈ lw_tbl := List.mem_append_right _ (show _ ∈ tables_1 from List.mem_append_left _ (List.mem_of_getElem? (i := 110) rfl))
theorem wt_248 : Cond.instanceMethod y_xm_poke ∈ lw_tbl := List.mem_append_right _ (show _ ∈ tables_1 from List.mem_append_left _ (List.mem_of_getElem? (i := 108) rfl))
theorem wt_249 : Cond.selects "WideMachine" y_xm_poke y_xm_poke ∈ lw_tbl := List.mem_append_right _ (show _ ∈ tables_1 from List.mem_append_left _ (List.mem_of_getElem? (i := 109) rfl))
theorem wt_250 : Cond.methodLink "WideMachine" 193 y_xm_doWord ∈ lw_tbl := List.mem_append_right _ (show _ ∈ tables_1 from List.mem_append_right _ (List.mem_append_left _ (List.mem_of_getElem? (i := 35) rfl)))
theorem wt_251 : Cond.code y_xm_doWord b_xm_doWord 2 none ∈ lw_tbl := List.mem_append_right _ (show _ ∈ tables_1 from List.mem_append_right _ (List.mem_append_left _ (List.mem_of_getElem? (i := 38) rfl)))
theorem wt_252 : Cond.instanceMethod y_xm_doWord ∈ lw_tbl := List.mem_append_right _ (show _ ∈ tables_1 from List.mem_append_right _ (List.mem_append_left _ (List.mem_of_getElem? (i := 37) rfl)))
theorem wt_253 : Cond.selects "WideMachine" y_xm_doWord y_xm_doWord ∈ lw_tbl := List.mem_append_left _ (List.mem_of_getElem? (i := 16) rfl)
theorem wt_254 : Cond.methodLink "WideMachine" 196 y_xm_doStores ∈ lw_tbl := List.mem_append_right _ (show _ ∈ tables_1 from List.mem_append_right _ (List.mem_append_left _ (List.mem_of_getElem? (i := 92) rfl)))
theorem wt_255 : Cond.code y_xm_doStores b_xm_doStores 4 none ∈ lw_tbl := List.mem_append_right _ (show _ ∈ tables_1 from List.mem_append_right _ (List.mem_append_left _ (List.mem_of_getElem? (i := 95) rfl)))
theorem wt_256 : Cond.instanceMethod y_xm_doStores ∈ lw_tbl := List.mem_append_right _ (show _ ∈ tables_1 from List.mem_append_right _ (List.mem_append_left _ (List.mem_of_getElem? (i := 94) rfl)))
theorem wt_257 : Cond.selects "WideMachine" y_xm_doStores y_xm_doStores ∈ lw_tbl := List.mem_append_left _ (List.mem_of_getElem? (i := 18) rfl)
theorem wt_258 : Cond.fieldLink "WideMachine" 51 "WideMachine" "cycles" "I" ∈ lw_tbl := List.mem_append_right _ (show _ ∈ tables_1 from List.mem_append_left _ (List.mem_of_getElem? (i := 73) rfl))
theorem wt_259 : Cond.methodLink "WideMachine" 96 y_xm_landWrites ∈ lw_tbl := List.mem_append_right _ (show _ ∈ tables_1 from List.mem_append_left _ (List.mem_of_getElem? (i := 135) rfl))
theorem wt_260 : Cond.code y_xm_landWrites b_xm_landWrites 1 none ∈ lw_tbl := List.mem_append_right _ (show _ ∈ tables_1 from List.mem_append_left _ (List.mem_of_getElem? (i := 138) rfl))
theorem wt_261 : Cond.instanceMethod y_xm_landWrites ∈ lw_tbl := List.mem_append_right _ (show _ ∈ tables_1 from List.mem_append_left _ (List.mem_of_getElem? (i := 137) rfl))
theorem wt_262 : Cond.selects "WideMachine" y_xm_landWrites y_xm_landWrites ∈ lw_tbl := List.mem_append_left _ (List.mem_of_getElem? (i := 2) rfl)
theorem wt_263 : Cond.methodLink "WideMachine" 99 y_xm_takeBranch ∈ lw_tbl := List.mem_append_right _ (show _ ∈ tables_1 from List.mem_append_left _ (List.mem_of_getElem? (i := 151) rfl))
theorem wt_264 : Cond.code y_xm_takeBranch b_xm_takeBranch 2 none ∈ lw_tbl := List.mem_append_right _ (show _ ∈ tables_1 from List.mem_append_left _ (List.mem_of_getElem? (i := 154) rfl))
theorem wt_265 : Cond.instanceMethod y_xm_takeBranch ∈ lw_tbl := List.mem_append_right _ (show _ ∈ tables_1 from List.mem_append_left _ (List.mem_of_getElem? (i := 153) rfl))
theorem wt_266 : Cond.selects "WideMachine" y_xm_takeBranch y_xm_takeBranch ∈ lw_tbl := List.mem_append_left _ (List.mem_of_getElem? (i := 3) rfl)
theorem wt_267 : Cond.methodLink "WideMachine" 102 y_xm_takeInterrupt ∈ lw_tbl := List.mem_append_right _ (show _ ∈ tables_1 from List.mem_append_left _ (List.mem_of_getElem? (i := 167) rfl))
theorem wt_268 : Cond.code y_xm_takeInterrupt b_xm_takeInterrupt 2 none ∈ lw_tbl := List.mem_append_right _ (show _ ∈ tables_1 from List.mem_append_left _ (List.mem_of_getElem? (i := 170) rfl))
theorem wt_269 : Cond.instanceMethod y_xm_takeInterrupt ∈ lw_tbl := List.mem_append_right _ (show _ ∈ tables_1 from List.mem_append_left _ (List.mem_of_getElem? (i := 169) rfl))
theorem wt_270 : Cond.selects "WideMachine" y_xm_takeInterrupt y_xm_takeInterrupt ∈ lw_tbl := List.mem_append_left _ (List.mem_of_getElem? (i := 4) rfl)
theorem wt_271 : Cond.methodLink "WideMachine" 105 y_xm_endOfPacket ∈ lw_tbl := List.mem_append_right _ (show _ ∈ tables_1 from List.mem_append_left _ (List.mem_of_getElem? (i := 175) rfl))
theorem wt_272 : Cond.code y_xm_endOfPacket b_xm_endOfPacket 3 (some .int) ∈ lw_tbl := List.mem_append_right _ (show _ ∈ tables_1 from List.mem_append_left _ (List.mem_of_getElem? (i := 178) rfl))
theorem wt_273 : Cond.instanceMethod y_xm_endOfPacket ∈ lw_tbl := List.mem_append_right _ (show _ ∈ tables_1 from List.mem_append_left _ (List.mem_of_getElem? (i := 177) rfl))
theorem wt_274 : Cond.selects "WideMachine" y_xm_endOfPacket y_xm_endOfPacket ∈ lw_tbl := List.mem_append_left _ (List.mem_of_getElem? (i := 6) rfl)
theorem wt_275 : Cond.methodLink "WideMachine" 109 y_xm_faultOfPacket ∈ lw_tbl := List.mem_append_right _ (show _ ∈ tables_1 from List.mem_append_left _ (List.mem_of_getElem? (i := 182) rfl))
theorem wt_276 : Cond.code y_xm_faultOfPacket b_xm_faultOfPacket 3 (some .int) ∈ lw_tbl := List.mem_append_right _ (show _ ∈ tables_1 from List.mem_append_left _ (List.mem_of_getElem? (i := 185) rfl))
theorem wt_277 : Cond.instanceMethod y_xm_faultOfPacket ∈ lw_tbl := List.mem_append_right _ (show _ ∈ tables_1 from List.mem_append_left _ (List.mem_of_getElem? (i := 184) rfl))
theorem wt_278 : Cond.selects "WideMachine" y_xm_faultOfPacket y_xm_faultOfPacket ∈ lw_tbl := List.mem_append_left _ (List.mem_of_getElem? (i := 7) rfl)
theorem wt_279 : Cond.methodLink "WideMachine" 112 y_xm_doPacket ∈ lw_tbl := List.mem_append_right _ (show _ ∈ tables_1 from List.mem_append_right _ (List.mem_append_left _ (List.mem_of_getElem? (i := 31) rfl)))
theorem wt_280 : Cond.code y_xm_doPacket b_xm_doPacket 3 none ∈ lw_tbl := List.mem_append_right _ (show _ ∈ tables_1 from List.mem_append_right _ (List.mem_append_left _ (List.mem_of_getElem? (i := 34) rfl)))
theorem wt_281 : Cond.instanceMethod y_xm_doPacket ∈ lw_tbl := List.mem_append_right _ (show _ ∈ tables_1 from List.mem_append_right _ (List.mem_append_left _ (List.mem_of_getElem? (i := 33) rfl)))
theorem wt_282 : Cond.selects "WideMachine" y_xm_doPacket y_xm_doPacket ∈ lw_tbl := List.mem_append_left _ (List.mem_of_getElem? (i := 15) rfl)
theorem wt_283 : Cond.methodLink "WideMachine" 45 y_xm_doCycle ∈ lw_tbl := List.mem_append_right _ (show _ ∈ tables_1 from List.mem_append_left _ (List.mem_of_getElem? (i := 131) rfl))
theorem wt_284 : Cond.code y_xm_doCycle b_xm_doCycle 2 none ∈ lw_tbl := List.mem_append_right _ (show _ ∈ tables_1 from List.mem_append_left _ (List.mem_of_getElem? (i := 134) rfl))
theorem wt_285 : Cond.instanceMethod y_xm_doCycle ∈ lw_tbl := List.mem_append_right _ (show _ ∈ tables_1 from List.mem_append_left _ (List.mem_of_getElem? (i := 133) rfl))
theorem wt_286 : Cond.selects "WideMachine" y_xm_doCycle y_xm_doCycle ∈ lw_tbl := List.mem_append_left _ (List.mem_of_getElem? (i := 1) rfl)
theorem wt_287 : Cond.fieldLink "WideMachine" 54 "WideMachine$Writes" "count" "I" ∈ lw_tbl := List.mem_append_right _ (show _ ∈ tables_1 from List.mem_append_left _ (List.mem_of_getElem? (i := 38) rfl))
theorem wt_288 : Cond.fieldLink "WideMachine" 71 "WideMachine$Writes" "targets" "[I" ∈ lw_tbl := List.mem_append_right _ (show _ ∈ tables_1 from List.mem_append_left _ (List.mem_of_getElem? (i := 32) rfl))
theorem wt_289 : Cond.fieldLink "WideMachine" 74 "WideMachine$Writes" "values" "[I" ∈ lw_tbl := List.mem_append_right _ (show _ ∈ tables_1 from List.mem_append_left _ (List.mem_of_getElem? (i := 34) rfl))
theorem wt_290 : Cond.fieldLink "WideMachine" 77 "WideMachine$Writes" "times" "[I" ∈ lw_tbl := List.mem_append_right _ (show _ ∈ tables_1 from List.mem_append_left _ (List.mem_of_getElem? (i := 36) rfl))
theorem wt_291 : Cond.methodLink "WideMachine" 83 y_xq_clear ∈ lw_tbl := List.mem_append_right _ (show _ ∈ tables_1 from List.mem_append_right _ (List.mem_append_left _ (List.mem_of_getElem? (i := 117) rfl)))
theorem wt_292 : Cond.code y_xq_clear b_xq_clear 1 none ∈ lw_tbl := List.mem_append_right _ (show _ ∈ tables_1 from List.mem_append_right _ (List.mem_append_left _ (List.mem_of_getElem? (i := 120) rfl)))
theorem wt_293 : Cond.instanceMethod y_xq_clear ∈ lw_tbl := List.mem_append_right _ (show _ ∈ tables_1 from List.mem_append_right _ (List.mem_append_left _ (List.mem_of_getElem? (i := 118) rfl)))
theorem wt_294 : Cond.selects "WideMachine$Writes" y_xq_clear y_xq_clear ∈ lw_tbl := List.mem_append_right _ (show _ ∈ tables_1 from List.mem_append_right _ (List.mem_append_left _ (List.mem_of_getElem? (i := 119) rfl)))
theorem wt_295 : Cond.methodLink "WideMachine" 86 y_xb_clear ∈ lw_tbl := List.mem_append_right _ (show _ ∈ tables_1 from List.mem_append_right _ (List.mem_append_left _ (List.mem_of_getElem? (i := 121) rfl)))
theorem wt_296 : Cond.code y_xb_clear b_xb_clear 1 none ∈ lw_tbl := List.mem_append_right _ (show _ ∈ tables_1 from List.mem_append_right _ (List.mem_append_left _ (List.mem_of_getElem? (i := 124) rfl)))
theorem wt_297 : Cond.instanceMethod y_xb_clear ∈ lw_tbl := List.mem_append_right _ (show _ ∈ tables_1 from List.mem_append_right _ (List.mem_append_left _ (List.mem_of_getElem? (i := 122) rfl)))
theorem wt_298 : Cond.selects "WideMachine$Branches" y_xb_clear y_xb_clear ∈ lw_tbl := List.mem_append_right _ (show _ ∈ tables_1 from List.mem_append_right _ (List.mem_append_left _ (List.mem_of_getElem? (i := 123) rfl)))
theorem wt_299 : Cond.methodLink "WideMachine" 87 Lib.Math.min.name ∈ lw_tbl := List.mem_append_right _ (show _ ∈ tables_1 from List.mem_append_left _ (List.mem_of_getElem? (i := 19) rfl))
theorem wt_300 : Cond.static Lib.Math.min.name ∈ lw_tbl := List.mem_append_right _ (show _ ∈ tables_1 from List.mem_append_left _ (List.mem_of_getElem? (i := 20) rfl))
theorem wt_301 : Cond.code Lib.Math.min.name Lib.Math.min.code 2 (some .int) ∈ lw_tbl := List.mem_append_right _ (show _ ∈ tables_1 from List.mem_append_left _ (List.mem_of_getElem? (i := 21) rfl))
theorem wt_302 : Cond.fieldLink "WideMachineModel" 47 "WideMachineModel" "thrown" "I" ∈ lw_tbl := List.mem_append_right _ (show _ ∈ tables_1 from List.mem_append_right _ (List.mem_append_left _ (List.mem_of_getElem? (i := 134) rfl)))
theorem wt_303 : Cond.fieldLink "WideMachineModel" 40 "WideMachineModel" "words" "I" ∈ lw_tbl := List.mem_append_right _ (show _ ∈ tables_1 from List.mem_append_right _ (List.mem_append_left _ (List.mem_of_getElem? (i := 135) rfl)))
theorem wt_304 : Cond.fieldLink "WideMachineModel" 7 "WideMachineModel" "program" "[I" ∈ lw_tbl := List.mem_append_right _ (show _ ∈ tables_1 from List.mem_append_right _ (List.mem_append_left _ (List.mem_of_getElem? (i := 137) rfl)))
theorem wt_305 : Cond.fieldLink "WideMachineModel" 44 "WideMachineModel" "size" "I" ∈ lw_tbl := List.mem_append_right _ (show _ ∈ tables_1 from List.mem_append_right _ (List.mem_append_left _ (List.mem_of_getElem? (i := 136) rfl)))
theorem wt_306 : Cond.fieldLink "WideMachineModel" 13 "WideMachineModel" "data" "[I" ∈ lw_tbl := List.mem_append_right _ (show _ ∈ tables_1 from List.mem_append_right _ (List.mem_append_left _ (List.mem_of_getElem? (i := 138) rfl)))
theorem wt_307 : Cond.fieldLink "WideMachineModel" 16 "WideMachineModel" "registers" "[I" ∈ lw_tbl := List.mem_append_right _ (show _ ∈ tables_1 from List.mem_append_right _ (List.mem_append_left _ (List.mem_of_getElem? (i := 139) rfl)))
theorem wt_308 : Cond.fieldLink "WideMachineModel" 50 "WideMachineModel" "state" "I" ∈ lw_tbl := List.mem_append_right _ (show _ ∈ tables_1 from List.mem_append_right _ (List.mem_append_left _ (List.mem_of_getElem? (i := 140) rfl)))
theorem wt_309 : Cond.fieldLink "WideMachineModel" 53 "WideMachineModel" "address" "I" ∈ lw_tbl := List.mem_append_right _ (show _ ∈ tables_1 from List.mem_append_right _ (List.mem_append_left _ (List.mem_of_getElem? (i := 141) rfl)))
theorem wt_310 : Cond.fieldLink "WideMachineModel" 56 "WideMachineModel" "cycles" "I" ∈ lw_tbl := List.mem_append_right _ (show _ ∈ tables_1 from List.mem_append_right _ (List.mem_append_left _ (List.mem_of_getElem? (i := 142) rfl)))
theorem wt_311 : Cond.fieldLink "WideMachineModel" 59 "WideMachineModel" "writes" "I" ∈ lw_tbl := List.mem_append_right _ (show _ ∈ tables_1 from List.mem_append_right _ (List.mem_append_left _ (List.mem_of_getElem? (i := 147) rfl)))
theorem wt_312 : Cond.fieldLink "WideMachineModel" 62 "WideMachineModel" "branches" "I" ∈ lw_tbl := List.mem_append_right _ (show _ ∈ tables_1 from List.mem_append_right _ (List.mem_append_left _ (List.mem_of_getElem? (i := 151) rfl)))
theorem wt_313 : Cond.fieldLink "WideMachineModel" 65 "WideMachineModel" "wait" "I" ∈ lw_tbl := List.mem_append_right _ (show _ ∈ tables_1 from List.mem_append_right _ (List.mem_append_left _ (List.mem_of_getElem? (i := 143) rfl)))
theorem wt_314 : Cond.fieldLink "WideMachineModel" 68 "WideMachineModel" "back" "I" ∈ lw_tbl := List.mem_append_right _ (show _ ∈ tables_1 from List.mem_append_right _ (List.mem_append_left _ (List.mem_of_getElem? (i := 144) rfl)))
theorem wt_315 : Cond.fieldLink "WideMachineModel" 71 "WideMachineModel" "letIn" "Z" ∈ lw_tbl := List.mem_append_right _ (show _ ∈ tables_1 from List.mem_append_right _ (List.mem_append_left _ (List.mem_of_getElem? (i := 145) rfl)))
theorem wt_316 : Cond.fieldLink "WideMachineModel" 75 "WideMachineModel" "raised" "I" ∈ lw_tbl := List.mem_append_right _ (show _ ∈ tables_1 from List.mem_append_right _ (List.mem_append_left _ (List.mem_of_getElem? (i := 146) rfl)))
theorem wt_317 : Cond.fieldLink "WideMachineModel" 19 "WideMachineModel" "register" "[I" ∈ lw_tbl := List.mem_append_right _ (show _ ∈ tables_1 from List.mem_append_right _ (List.mem_append_left _ (List.mem_of_getElem? (i := 148) rfl)))
theorem wt_318 : Cond.fieldLink "WideMachineModel" 22 "WideMachineModel" "value" "[I" ∈ lw_tbl := List.mem_append_right _ (show _ ∈ tables_1 from List.mem_append_right _ (List.mem_append_left _ (List.mem_of_getElem? (i := 149) rfl)))
theorem wt_319 : Cond.fieldLink "WideMachineModel" 25 "WideMachineModel" "when" "[I" ∈ lw_tbl := List.mem_append_right _ (show _ ∈ tables_1 from List.mem_append_right _ (List.mem_append_left _ (List.mem_of_getElem? (i := 150) rfl)))
theorem wt_320 : Cond.fieldLink "WideMachineModel" 31 "WideMachineModel" "goes" "[I" ∈ lw_tbl := List.mem_append_right _ (show _ ∈ tables_1 from List.mem_append_right _ (List.mem_append_left _ (List.mem_of_getElem? (i := 153) rfl)))
theorem wt_321 : Cond.fieldLink "WideMachineModel" 28 "WideMachineModel" "target" "[I" ∈ lw_tbl := List.mem_append_right _ (show _ ∈ tables_1 from List.mem_append_right _ (List.mem_append_left _ (List.mem_of_getElem? (i := 152) rfl)))
theorem wt_322 : Cond.methodLink "WideMachineModel" 81 y_mm_kind ∈ lw_tbl := List.mem_append_right _ (show _ ∈ tables_1 from List.mem_append_right _ (List.mem_append_right _ (List.mem_of_getElem? (i := 31) rfl)))
theorem wt_323 : Cond.code y_mm_kind b_mm_kind 1 (some .int) ∈ lw_tbl := List.mem_append_right _ (show _ ∈ tables_1 from List.mem_append_right _ (List.mem_append_right _ (List.mem_of_getElem? (i := 33) rfl)))
theorem wt_324 : Cond.initialized "WideMachineModel" ∈ lw_tbl := List.mem_append_right _ (show _ ∈ tables_1 from List.mem_append_left _ (List.mem_of_getElem? (i := 5) rfl))
theorem wt_325 : Cond.static y_mm_kind ∈ lw_tbl := List.mem_append_right _ (show _ ∈ tables_1 from List.mem_append_right _ (List.mem_append_right _ (List.mem_of_getElem? (i := 32) rfl)))
theorem wt_326 : Cond.methodLink "WideMachineModel" 85 y_mm_operation ∈ lw_tbl := List.mem_append_right _ (show _ ∈ tables_1 from List.mem_append_right _ (List.mem_append_right _ (List.mem_of_getElem? (i := 37) rfl)))
theorem wt_327 : Cond.code y_mm_operation b_mm_operation 1 (some .int) ∈ lw_tbl := List.mem_append_right _ (show _ ∈ tables_1 from List.mem_append_right _ (List.mem_append_right _ (List.mem_of_getElem? (i := 39) rfl)))
theorem wt_328 : Cond.static y_mm_operation ∈ lw_tbl := List.mem_append_right _ (show _ ∈ tables_1 from List.mem_append_right _ (List.mem_append_right _ (List.mem_of_getElem? (i := 38) rfl)))
theorem wt_329 : Cond.methodLink "WideMachineModel" 88 y_mm_isS ∈ lw_tbl := List.mem_append_right _ (show _ ∈ tables_1 from List.mem_append_right _ (List.mem_append_right _ (List.mem_of_getElem? (i := 34) rfl)))
theorem wt_330 : Cond.code y_mm_isS b_mm_isS 3 (some .boolean) ∈ lw_tbl := List.mem_append_right _ (show _ ∈ tables_1 from List.mem_append_right _ (List.mem_append_right _ (List.mem_of_getElem? (i := 36) rfl)))
theorem wt_331 : Cond.static y_mm_isS ∈ lw_tbl := List.mem_append_right _ (show _ ∈ tables_1 from List.mem_append_right _ (List.mem_append_right _ (List.mem_of_getElem? (i := 35) rfl)))
theorem wt_332 : Cond.methodLink "WideMachineModel" 92 y_mm_unit ∈ lw_tbl := List.mem_append_right _ (show _ ∈ tables_1 from List.mem_append_right _ (List.mem_append_right _ (List.mem_of_getElem? (i := 52) rfl)))
theorem wt_333 : Cond.code y_mm_unit b_mm_unit 1 (some .int) ∈ lw_tbl := List.mem_append_right _ (show _ ∈ tables_1 from List.mem_append_right _ (List.mem_append_right _ (List.mem_of_getElem? (i := 54) rfl)))
theorem wt_334 : Cond.static y_mm_unit ∈ lw_tbl := List.mem_append_right _ (show _ ∈ tables_1 from List.mem_append_right _ (List.mem_append_right _ (List.mem_of_getElem? (i := 53) rfl)))
theorem wt_335 : Cond.methodLink "WideMachineModel" 95 y_mm_condition ∈ lw_tbl := List.mem_append_right _ (show _ ∈ tables_1 from List.mem_append_right _ (List.mem_append_right _ (List.mem_of_getElem? (i := 40) rfl)))
theorem wt_336 : Cond.code y_mm_condition b_mm_condition 1 (some .int) ∈ lw_tbl := List.mem_append_right _ (show _ ∈ tables_1 from List.mem_append_right _ (List.mem_append_right _ (List.mem_of_getElem? (i := 42) rfl)))
theorem wt_337 : Cond.static y_mm_condition ∈ lw_tbl := List.mem_append_right _ (show _ ∈ tables_1 from List.mem_append_right _ (List.mem_append_right _ (List.mem_of_getElem? (i := 41) rfl)))
theorem wt_338 : Cond.methodLink "WideMachineModel" 98 y_mm_hasD ∈ lw_tbl := List.mem_append_right _ (show _ ∈ tables_1 from List.mem_append_right _ (List.mem_append_right _ (List.mem_of_getElem? (i := 43) rfl)))
theorem wt_339 : Cond.code y_mm_hasD b_mm_hasD 1 (some .boolean) ∈ lw_tbl := List.mem_append_right _ (show _ ∈ tables_1 from List.mem_append_right _ (List.mem_append_right _ (List.mem_of_getElem? (i := 45) rfl)))
theorem wt_340 : Cond.static y_mm_hasD ∈ lw_tbl := List.mem_append_right _ (show _ ∈ tables_1 from List.mem_append_right _ (List.mem_append_right _ (List.mem_of_getElem? (i := 44) rfl)))
theorem wt_341 : Cond.methodLink "WideMachineModel" 102 y_mm_d ∈ lw_tbl := List.mem_append_right _ (show _ ∈ tables_1 from List.mem_append_right _ (List.mem_append_right _ (List.mem_of_getElem? (i := 46) rfl)))
theorem wt_342 : Cond.code y_mm_d b_mm_d 1 (some .int) ∈ lw_tbl := List.mem_append_right _ (show _ ∈ tables_1 from List.mem_append_right _ (List.mem_append_right _ (List.mem_of_getElem? (i := 48) rfl)))
theorem wt_343 : Cond.static y_mm_d ∈ lw_tbl := List.mem_append_right _ (show _ ∈ tables_1 from List.mem_append_right _ (List.mem_append_right _ (List.mem_of_getElem? (i := 47) rfl)))
theorem wt_344 : Cond.methodLink "WideMachineModel" 105 y_mm_isOther ∈ lw_tbl := List.mem_append_right _ (show _ ∈ tables_1 from List.mem_append_right _ (List.mem_append_right _ (List.mem_of_getElem? (i := 49) rfl)))
theorem wt_345 : Cond.code y_mm_isOther b_mm_isOther 2 (some .boolean) ∈ lw_tbl := List.mem_append_right _ (show _ ∈ tables_1 from List.mem_append_right _ (List.mem_append_right _ (List.mem_of_getElem? (i := 51) rfl)))
theorem wt_346 : Cond.static y_mm_isOther ∈ lw_tbl := List.mem_append_right _ (show _ ∈ tables_1 from List.mem_append_right _ (List.mem_append_right _ (List.mem_of_getElem? (i := 50) rfl)))
theorem wt_347 : Cond.methodLink "WideMachineModel" 109 y_mm_hasA ∈ lw_tbl := List.mem_append_right _ (show _ ∈ tables_1 from List.mem_append_right _ (List.mem_append_right _ (List.mem_of_getElem? (i := 55) rfl)))
theorem wt_348 : Cond.code y_mm_hasA b_mm_hasA 1 (some .boolean) ∈ lw_tbl := List.mem_append_right _ (show _ ∈ tables_1 from List.mem_append_right _ (List.mem_append_right _ (List.mem_of_getElem? (i := 57) rfl)))
theorem wt_349 : Cond.static y_mm_hasA ∈ lw_tbl := List.mem_append_right _ (show _ ∈ tables_1 from List.mem_append_right _ (List.mem_append_right _ (List.mem_of_getElem? (i := 56) rfl)))
theorem wt_350 : Cond.methodLink "WideMachineModel" 112 y_mm_a ∈ lw_tbl := List.mem_append_right _ (show _ ∈ tables_1 from List.mem_append_right _ (List.mem_append_right _ (List.mem_of_getElem? (i := 58) rfl)))
theorem wt_351 : Cond.code y_mm_a b_mm_a 1 (some .int) ∈ lw_tbl := List.mem_append_right _ (show _ ∈ tables_1 from List.mem_append_right _ (List.mem_append_right _ (List.mem_of_getElem? (i := 60) rfl)))
theorem wt_352 : Cond.static y_mm_a ∈ lw_tbl := List.mem_append_right _ (show _ ∈ tables_1 from List.mem_append_right _ (List.mem_append_right _ (List.mem_of_getElem? (i := 59) rfl)))
theorem wt_353 : Cond.methodLink "WideMachineModel" 138 y_mm_isNumber ∈ lw_tbl := List.mem_append_right _ (show _ ∈ tables_1 from List.mem_append_right _ (List.mem_append_right _ (List.mem_of_getElem? (i := 64) rfl)))
theorem wt_354 : Cond.code y_mm_isNumber b_mm_isNumber 1 (some .boolean) ∈ lw_tbl := List.mem_append_right _ (show _ ∈ tables_1 from List.mem_append_right _ (List.mem_append_right _ (List.mem_of_getElem? (i := 66) rfl)))
theorem wt_355 : Cond.static y_mm_isNumber ∈ lw_tbl := List.mem_append_right _ (show _ ∈ tables_1 from List.mem_append_right _ (List.mem_append_right _ (List.mem_of_getElem? (i := 65) rfl)))
theorem wt_356 : Cond.methodLink "WideMachineModel" 141 y_mm_b ∈ lw_tbl := List.mem_append_right _ (show _ ∈ tables_1 from List.mem_append_right _ (List.mem_append_right _ (List.mem_of_getElem? (i := 67) rfl)))
theorem wt_357 : Cond.code y_mm_b b_mm_b 1 (some .int) ∈ lw_tbl := List.mem_append_right _ (show _ ∈ tables_1 from List.mem_append_right _ (List.mem_append_right _ (List.mem_of_getElem? (i := 69) rfl)))
theorem wt_358 : Cond.static y_mm_b ∈ lw_tbl := List.mem_append_right _ (show _ ∈ tables_1 from List.mem_append_right _ (List.mem_append_right _ (List.mem_of_getElem? (i := 68) rfl)))
theorem wt_359 : Cond.methodLink "WideMachineModel" 166 y_mm_second ∈ lw_tbl := List.mem_append_right _ (show _ ∈ tables_1 from List.mem_append_right _ (List.mem_append_right _ (List.mem_of_getElem? (i := 78) rfl)))
theorem wt_360 : Cond.code y_mm_second b_mm_second 2 (some .int) ∈ lw_tbl := List.mem_append_right _ (show _ ∈ tables_1 from List.mem_append_right _ (List.mem_append_right _ (List.mem_of_getElem? (i := 81) rfl)))
theorem wt_361 : Cond.instanceMethod y_mm_second ∈ lw_tbl := List.mem_append_right _ (show _ ∈ tables_1 from List.mem_append_right _ (List.mem_append_right _ (List.mem_of_getElem? (i := 80) rfl)))
theorem wt_362 : Cond.selects "WideMachineModel" y_mm_second y_mm_second ∈ lw_tbl := List.mem_append_left _ (List.mem_of_getElem? (i := 26) rfl)
theorem wt_363 : Cond.methodLink "WideMachineModel" 132 y_mm_isIll ∈ lw_tbl := List.mem_append_right _ (show _ ∈ tables_1 from List.mem_append_right _ (List.mem_append_right _ (List.mem_of_getElem? (i := 28) rfl)))
theorem wt_364 : Cond.code y_mm_isIll b_mm_isIll 4 (some .boolean) ∈ lw_tbl := List.mem_append_right _ (show _ ∈ tables_1 from List.mem_append_right _ (List.mem_append_right _ (List.mem_of_getElem? (i := 30) rfl)))
theorem wt_365 : Cond.static y_mm_isIll ∈ lw_tbl := List.mem_append_right _ (show _ ∈ tables_1 from List.mem_append_right _ (List.mem_append_right _ (List.mem_of_getElem? (i := 29) rfl)))
theorem wt_366 : Cond.methodLink "WideMachineModel" 135 y_mm_hasB ∈ lw_tbl := List.mem_append_right _ (show _ ∈ tables_1 from List.mem_append_right _ (List.mem_append_right _ (List.mem_of_getElem? (i := 61) rfl)))
theorem wt_367 : Cond.code y_mm_hasB b_mm_hasB 1 (some .boolean) ∈ lw_tbl := List.mem_append_right _ (show _ ∈ tables_1 from List.mem_append_right _ (List.mem_append_right _ (List.mem_of_getElem? (i := 63) rfl)))
theorem wt_368 : Cond.static y_mm_hasB ∈ lw_tbl := List.mem_append_right _ (show _ ∈ tables_1 from List.mem_append_right _ (List.mem_append_right _ (List.mem_of_getElem? (i := 62) rfl)))
theorem wt_369 : Cond.methodLink "WideMachineModel" 144 y_mm_isDone ∈ lw_tbl := List.mem_append_right _ (show _ ∈ tables_1 from List.mem_append_right _ (List.mem_append_right _ (List.mem_of_getElem? (i := 70) rfl)))
theorem wt_370 : Cond.code y_mm_isDone b_mm_isDone 4 (some .boolean) ∈ lw_tbl := List.mem_append_right _ (show _ ∈ tables_1 from List.mem_append_right _ (List.mem_append_right _ (List.mem_of_getElem? (i := 73) rfl)))
theorem wt_371 : Cond.instanceMethod y_mm_isDone ∈ lw_tbl := List.mem_append_right _ (show _ ∈ tables_1 from List.mem_append_right _ (List.mem_append_right _ (List.mem_of_getElem? (i := 72) rfl)))
theorem wt_372 : Cond.selects "WideMachineModel" y_mm_isDone y_mm_isDone ∈ lw_tbl := List.mem_append_left _ (List.mem_of_getElem? (i := 24) rfl)
theorem wt_373 : Cond.methodLink "WideMachineModel" 147 y_mm_reaches ∈ lw_tbl := List.mem_append_right _ (show _ ∈ tables_1 from List.mem_append_right _ (List.mem_append_right _ (List.mem_of_getElem? (i := 74) rfl)))
theorem wt_374 : Cond.code y_mm_reaches b_mm_reaches 3 (some .boolean) ∈ lw_tbl := List.mem_append_right _ (show _ ∈ tables_1 from List.mem_append_right _ (List.mem_append_right _ (List.mem_of_getElem? (i := 77) rfl)))
theorem wt_375 : Cond.instanceMethod y_mm_reaches ∈ lw_tbl := List.mem_append_right _ (show _ ∈ tables_1 from List.mem_append_right _ (List.mem_append_right _ (List.mem_of_getElem? (i := 76) rfl)))
theorem wt_376 : Cond.selects "WideMachineModel" y_mm_reaches y_mm_reaches ∈ lw_tbl := List.mem_append_left _ (List.mem_of_getElem? (i := 25) rfl)
theorem wt_377 : Cond.methodLink "WideMachineModel" 162 y_mm_write ∈ lw_tbl := List.mem_append_right _ (show _ ∈ tables_1 from List.mem_append_right _ (List.mem_append_right _ (List.mem_of_getElem? (i := 94) rfl)))
theorem wt_378 : Cond.code y_mm_write b_mm_write 4 none ∈ lw_tbl := List.mem_append_right _ (show _ ∈ tables_1 from List.mem_append_right _ (List.mem_append_right _ (List.mem_of_getElem? (i := 97) rfl)))
theorem wt_379 : Cond.instanceMethod y_mm_write ∈ lw_tbl := List.mem_append_right _ (show _ ∈ tables_1 from List.mem_append_right _ (List.mem_append_right _ (List.mem_of_getElem? (i := 96) rfl)))
theorem wt_380 : Cond.selects "WideMachineModel" y_mm_write y_mm_write ∈ lw_tbl := List.mem_append_left _ (List.mem_of_getElem? (i := 30) rfl)
theorem wt_381 : Cond.fieldLink "WideMachineModel" 34 "WideMachineModel" "where" "[I" ∈ lw_tbl := List.mem_append_right _ (show _ ∈ tables_1 from List.mem_append_right _ (List.mem_append_left _ (List.mem_of_getElem? (i := 155) rfl)))
theorem wt_382 : Cond.fieldLink "WideMachineModel" 150 "WideMachineModel" "stores" "I" ∈ lw_tbl := List.mem_append_right _ (show _ ∈ tables_1 from List.mem_append_right _ (List.mem_append_left _ (List.mem_of_getElem? (i := 154) rfl)))
theorem wt_383 : Cond.fieldLink "WideMachineModel" 37 "WideMachineModel" "what" "[I" ∈ lw_tbl := List.mem_append_right _ (show _ ∈ tables_1 from List.mem_append_right _ (List.mem_append_left _ (List.mem_of_getElem? (i := 156) rfl)))
theorem wt_384 : Cond.constantLong "WideMachineModel" 179 2147483647 ∈ lw_tbl := List.mem_append_right _ (show _ ∈ tables_1 from List.mem_append_right _ (List.mem_append_right _ (List.mem_of_getElem? (i := 105) rfl)))
theorem wt_385 : Cond.constant "WideMachineModel" 181 2147483647 ∈ lw_tbl := List.mem_append_right _ (show _ ∈ tables_1 from List.mem_append_right _ (List.mem_append_right _ (List.mem_of_getElem? (i := 106) rfl)))
theorem wt_386 : Cond.constantLong "WideMachineModel" 182 (-2147483648) ∈ lw_tbl := List.mem_append_right _ (show _ ∈ tables_1 from List.mem_append_right _ (List.mem_append_right _ (List.mem_of_getElem? (i := 107) rfl)))
theorem wt_387 : Cond.constant "WideMachineModel" 184 (-2147483648) ∈ lw_tbl := List.mem_append_right _ (show _ ∈ tables_1 from List.mem_append_right _ (List.mem_append_right _ (List.mem_of_getElem? (i := 108) rfl)))
theorem wt_388 : Cond.constant "WideMachineModel" 185 65535 ∈ lw_tbl := List.mem_append_right _ (show _ ∈ tables_1 from List.mem_append_right _ (List.mem_append_right _ (List.mem_of_getElem? (i := 113) rfl)))
theorem wt_389 : Cond.constant "WideMachineModel" 186 1073741824 ∈ lw_tbl := List.mem_append_right _ (show _ ∈ tables_1 from List.mem_append_right _ (List.mem_append_right _ (List.mem_of_getElem? (i := 117) rfl)))
theorem wt_390 : Cond.methodLink "WideMachineModel" 169 y_mm_logic ∈ lw_tbl := List.mem_append_right _ (show _ ∈ tables_1 from List.mem_append_right _ (List.mem_append_right _ (List.mem_of_getElem? (i := 102) rfl)))
theorem wt_391 : Cond.code y_mm_logic b_mm_logic 5 (some .int) ∈ lw_tbl := List.mem_append_right _ (show _ ∈ tables_1 from List.mem_append_right _ (List.mem_append_right _ (List.mem_of_getElem? (i := 104) rfl)))
theorem wt_392 : Cond.static y_mm_logic ∈ lw_tbl := List.mem_append_right _ (show _ ∈ tables_1 from List.mem_append_right _ (List.mem_append_right _ (List.mem_of_getElem? (i := 103) rfl)))
theorem wt_393 : Cond.methodLink "WideMachineModel" 173 y_mm_shift ∈ lw_tbl := List.mem_append_right _ (show _ ∈ tables_1 from List.mem_append_right _ (List.mem_append_right _ (List.mem_of_getElem? (i := 109) rfl)))
theorem wt_394 : Cond.code y_mm_shift b_mm_shift 5 (some .int) ∈ lw_tbl := List.mem_append_right _ (show _ ∈ tables_1 from List.mem_append_right _ (List.mem_append_right _ (List.mem_of_getElem? (i := 112) rfl)))
theorem wt_395 : Cond.instanceMethod y_mm_shift ∈ lw_tbl := List.mem_append_right _ (show _ ∈ tables_1 from List.mem_append_right _ (List.mem_append_right _ (List.mem_of_getElem? (i := 111) rfl)))
theorem wt_396 : Cond.selects "WideMachineModel" y_mm_shift y_mm_shift ∈ lw_tbl := List.mem_append_left _ (List.mem_of_getElem? (i := 32) rfl)
theorem wt_397 : Cond.methodLink "WideMachineModel" 176 y_mm_product ∈ lw_tbl := List.mem_append_right _ (show _ ∈ tables_1 from List.mem_append_right _ (List.mem_append_right _ (List.mem_of_getElem? (i := 114) rfl)))
theorem wt_398 : Cond.code y_mm_product b_mm_product 4 (some .int) ∈ lw_tbl := List.mem_append_right _ (show _ ∈ tables_1 from List.mem_append_right _ (List.mem_append_right _ (List.mem_of_getElem? (i := 116) rfl)))
theorem wt_399 : Cond.static y_mm_product ∈ lw_tbl := List.mem_append_right _ (show _ ∈ tables_1 from List.mem_append_right _ (List.mem_append_right _ (List.mem_of_getElem? (i := 115) rfl)))
theorem wt_400 : Cond.methodLink "WideMachineModel" 153 y_mm_controls ∈ lw_tbl := List.mem_append_right _ (show _ ∈ tables_1 from List.mem_append_right _ (List.mem_append_right _ (List.mem_of_getElem? (i := 86) rfl)))
theorem wt_401 : Cond.code y_mm_controls b_mm_controls 4 none ∈ lw_tbl := List.mem_append_right _ (show _ ∈ tables_1 from List.mem_append_right _ (List.mem_append_right _ (List.mem_of_getElem? (i := 89) rfl)))
theorem wt_402 : Cond.instanceMethod y_mm_controls ∈ lw_tbl := List.mem_append_right _ (show _ ∈ tables_1 from List.mem_append_right _ (List.mem_append_right _ (List.mem_of_getElem? (i := 88) rfl)))
theorem wt_403 : Cond.selects "WideMachineModel" y_mm_controls y_mm_controls ∈ lw_tbl := List.mem_append_left _ (List.mem_of_getElem? (i := 28) rfl)
theorem wt_404 : Cond.methodLink "WideMachineModel" 156 y_mm_meets ∈ lw_tbl := List.mem_append_right _ (show _ ∈ tables_1 from List.mem_append_right _ (List.mem_append_right _ (List.mem_of_getElem? (i := 90) rfl)))
theorem wt_405 : Cond.code y_mm_meets b_mm_meets 3 none ∈ lw_tbl := List.mem_append_right _ (show _ ∈ tables_1 from List.mem_append_right _ (List.mem_append_right _ (List.mem_of_getElem? (i := 93) rfl)))
theorem wt_406 : Cond.instanceMethod y_mm_meets ∈ lw_tbl := List.mem_append_right _ (show _ ∈ tables_1 from List.mem_append_right _ (List.mem_append_right _ (List.mem_of_getElem? (i := 92) rfl)))
theorem wt_407 : Cond.selects "WideMachineModel" y_mm_meets y_mm_meets ∈ lw_tbl := List.mem_append_left _ (List.mem_of_getElem? (i := 29) rfl)
theorem wt_408 : Cond.methodLink "WideMachineModel" 159 y_mm_works ∈ lw_tbl := List.mem_append_right _ (show _ ∈ tables_1 from List.mem_append_right _ (List.mem_append_right _ (List.mem_of_getElem? (i := 98) rfl)))
theorem wt_409 : Cond.code y_mm_works b_mm_works 5 (some .int) ∈ lw_tbl := List.mem_append_right _ (show _ ∈ tables_1 from List.mem_append_right _ (List.mem_append_right _ (List.mem_of_getElem? (i := 101) rfl)))
theorem wt_410 : Cond.instanceMethod y_mm_works ∈ lw_tbl := List.mem_append_right _ (show _ ∈ tables_1 from List.mem_append_right _ (List.mem_append_right _ (List.mem_of_getElem? (i := 100) rfl)))
theorem wt_411 : Cond.selects "WideMachineModel" y_mm_works y_mm_works ∈ lw_tbl := List.mem_append_left _ (List.mem_of_getElem? (i := 31) rfl)
theorem wt_412 : Cond.methodLink "WideMachineModel" 115 y_mm_lands ∈ lw_tbl := List.mem_append_right _ (show _ ∈ tables_1 from List.mem_append_right _ (List.mem_append_right _ (List.mem_of_getElem? (i := 12) rfl)))
theorem wt_413 : Cond.code y_mm_lands b_mm_lands 3 (some .int) ∈ lw_tbl := List.mem_append_right _ (show _ ∈ tables_1 from List.mem_append_right _ (List.mem_append_right _ (List.mem_of_getElem? (i := 15) rfl)))
theorem wt_414 : Cond.instanceMethod y_mm_lands ∈ lw_tbl := List.mem_append_right _ (show _ ∈ tables_1 from List.mem_append_right _ (List.mem_append_right _ (List.mem_of_getElem? (i := 14) rfl)))
theorem wt_415 : Cond.selects "WideMachineModel" y_mm_lands y_mm_lands ∈ lw_tbl := List.mem_append_left _ (List.mem_of_getElem? (i := 20) rfl)
theorem wt_416 : Cond.methodLink "WideMachineModel" 119 y_mm_arrives ∈ lw_tbl := List.mem_append_right _ (show _ ∈ tables_1 from List.mem_append_right _ (List.mem_append_right _ (List.mem_of_getElem? (i := 16) rfl)))
theorem wt_417 : Cond.code y_mm_arrives b_mm_arrives 3 (some .int) ∈ lw_tbl := List.mem_append_right _ (show _ ∈ tables_1 from List.mem_append_right _ (List.mem_append_right _ (List.mem_of_getElem? (i := 19) rfl)))
theorem wt_418 : Cond.instanceMethod y_mm_arrives ∈ lw_tbl := List.mem_append_right _ (show _ ∈ tables_1 from List.mem_append_right _ (List.mem_append_right _ (List.mem_of_getElem? (i := 18) rfl)))
theorem wt_419 : Cond.selects "WideMachineModel" y_mm_arrives y_mm_arrives ∈ lw_tbl := List.mem_append_left _ (List.mem_of_getElem? (i := 21) rfl)
theorem wt_420 : Cond.methodLink "WideMachineModel" 122 y_mm_interrupts ∈ lw_tbl := List.mem_append_right _ (show _ ∈ tables_1 from List.mem_append_right _ (List.mem_append_right _ (List.mem_of_getElem? (i := 20) rfl)))
theorem wt_421 : Cond.code y_mm_interrupts b_mm_interrupts 2 none ∈ lw_tbl := List.mem_append_right _ (show _ ∈ tables_1 from List.mem_append_right _ (List.mem_append_right _ (List.mem_of_getElem? (i := 23) rfl)))
theorem wt_422 : Cond.instanceMethod y_mm_interrupts ∈ lw_tbl := List.mem_append_right _ (show _ ∈ tables_1 from List.mem_append_right _ (List.mem_append_right _ (List.mem_of_getElem? (i := 22) rfl)))
theorem wt_423 : Cond.selects "WideMachineModel" y_mm_interrupts y_mm_interrupts ∈ lw_tbl := List.mem_append_left _ (List.mem_of_getElem? (i := 22) rfl)
theorem wt_424 : Cond.methodLink "WideMachineModel" 125 y_mm_wrong ∈ lw_tbl := List.mem_append_right _ (show _ ∈ tables_1 from List.mem_append_right _ (List.mem_append_right _ (List.mem_of_getElem? (i := 24) rfl)))
theorem wt_425 : Cond.code y_mm_wrong b_mm_wrong 6 (some .int) ∈ lw_tbl := List.mem_append_right _ (show _ ∈ tables_1 from List.mem_append_right _ (List.mem_append_right _ (List.mem_of_getElem? (i := 27) rfl)))
theorem wt_426 : Cond.instanceMethod y_mm_wrong ∈ lw_tbl := List.mem_append_right _ (show _ ∈ tables_1 from List.mem_append_right _ (List.mem_append_right _ (List.mem_of_getElem? (i := 26) rfl)))
theorem wt_427 : Cond.selects "WideMachineModel" y_mm_wrong y_mm_wrong ∈ lw_tbl := List.mem_append_left _ (List.mem_of_getElem? (i := 23) rfl)
theorem wt_428 : Cond.methodLink "WideMachineModel" 128 y_mm_packet ∈ lw_tbl := List.mem_append_right _ (show _ ∈ tables_1 from List.mem_append_right _ (List.mem_append_right _ (List.mem_of_getElem? (i := 82) rfl)))
theorem wt_429 : Cond.code y_mm_packet b_mm_packet 5 none ∈ lw_tbl := List.mem_append_right _ (show _ ∈ tables_1 from List.mem_append_right _ (List.mem_append_right _ (List.mem_of_getElem? (i := 85) rfl)))
theorem wt_430 : Cond.instanceMethod y_mm_packet ∈ lw_tbl := List.mem_append_right _ (show _ ∈ tables_1 from List.mem_append_right _ (List.mem_append_right _ (List.mem_of_getElem? (i := 84) rfl)))
theorem wt_431 : Cond.selects "WideMachineModel" y_mm_packet y_mm_packet ∈ lw_tbl := List.mem_append_left _ (List.mem_of_getElem? (i := 27) rfl)
theorem wt_432 : Cond.methodLink "WideMachineModel" 78 y_mm_cycle ∈ lw_tbl := List.mem_append_right _ (show _ ∈ tables_1 from List.mem_append_right _ (List.mem_append_right _ (List.mem_of_getElem? (i := 8) rfl)))
theorem wt_433 : Cond.code y_mm_cycle b_mm_cycle 3 none ∈ lw_tbl := List.mem_append_right _ (show _ ∈ tables_1 from List.mem_append_right _ (List.mem_append_right _ (List.mem_of_getElem? (i := 11) rfl)))
theorem wt_434 : Cond.instanceMethod y_mm_cycle ∈ lw_tbl := List.mem_append_right _ (show _ ∈ tables_1 from List.mem_append_right _ (List.mem_append_right _ (List.mem_of_getElem? (i := 10) rfl)))
theorem wt_435 : Cond.selects "WideMachineModel" y_mm_cycle y_mm_cycle ∈ lw_tbl := List.mem_append_left _ (List.mem_of_getElem? (i := 19) rfl)
set_option maxRecDepth 100000 in
set_option maxHeartbeats 4000000 in
theorem vw_T_in : ∀ w ∈ vw_T, w ∈ lw_tbl := by
  refine List.forall_mem_cons.mpr ⟨wt_0, ?_⟩
  refine List.forall_mem_cons.mpr ⟨wt_1, ?_⟩
  refine List.forall_mem_cons.mpr ⟨wt_2, ?_⟩
  refine List.forall_mem_cons.mpr ⟨wt_3, ?_⟩
  refine List.forall_mem_cons.mpr ⟨wt_4, ?_⟩
  refine List.forall_mem_cons.mpr ⟨wt_5, ?_⟩
  refine List.forall_mem_cons.mpr ⟨wt_6, ?_⟩
  refine List.forall_mem_cons.mpr ⟨wt_7, ?_⟩
  refine List.forall_mem_cons.mpr ⟨wt_8, ?_⟩
  refine List.forall_mem_cons.mpr ⟨wt_9, ?_⟩
  refine List.forall_mem_cons.mpr ⟨wt_10, ?_⟩
  refine List.forall_mem_cons.mpr ⟨wt_11, ?_⟩
  refine List.forall_mem_cons.mpr ⟨wt_12, ?_⟩
  refine List.forall_mem_cons.mpr ⟨wt_13, ?_⟩
  refine List.forall_mem_cons.mpr ⟨wt_14, ?_⟩
  refine List.forall_mem_cons.mpr ⟨wt_15, ?_⟩
  refine List.forall_mem_cons.mpr ⟨wt_16, ?_⟩
  refine List.forall_mem_cons.mpr ⟨wt_17, ?_⟩
  refine List.forall_mem_cons.mpr ⟨wt_18, ?_⟩
  refine List.forall_mem_cons.mpr ⟨wt_19, ?_⟩
  refine List.forall_mem_cons.mpr ⟨wt_20, ?_⟩
  refine List.forall_mem_cons.mpr ⟨wt_21, ?_⟩
  refine List.forall_mem_cons.mpr ⟨wt_22, ?_⟩
  refine List.forall_mem_cons.mpr ⟨wt_23, ?_⟩
  refine List.forall_mem_cons.mpr ⟨wt_24, ?_⟩
  refine List.forall_mem_cons.mpr ⟨wt_25, ?_⟩
  refine List.forall_mem_cons.mpr ⟨wt_26, ?_⟩
  refine List.forall_mem_cons.mpr ⟨wt_27, ?_⟩
  refine List.forall_mem_cons.mpr ⟨wt_28, ?_⟩
  refine List.forall_mem_cons.mpr ⟨wt_29, ?_⟩
  refine List.forall_mem_cons.mpr ⟨wt_30, ?_⟩
  refine List.forall_mem_cons.mpr ⟨wt_31, ?_⟩
  refine List.forall_mem_cons.mpr ⟨wt_32, ?_⟩
  refine List.forall_mem_cons.mpr ⟨wt_33, ?_⟩
  refine List.forall_mem_cons.mpr ⟨wt_34, ?_⟩
  refine List.forall_mem_cons.mpr ⟨wt_35, ?_⟩
  refine List.forall_mem_cons.mpr ⟨wt_36, ?_⟩
  refine List.forall_mem_cons.mpr ⟨wt_37, ?_⟩
  refine List.forall_mem_cons.mpr ⟨wt_38, ?_⟩
  refine List.forall_mem_cons.mpr ⟨wt_39, ?_⟩
  refine List.forall_mem_cons.mpr ⟨wt_40, ?_⟩
  refine List.forall_mem_cons.mpr ⟨wt_41, ?_⟩
  refine List.forall_mem_cons.mpr ⟨wt_42, ?_⟩
  refine List.forall_mem_cons.mpr ⟨wt_43, ?_⟩
  refine List.forall_mem_cons.mpr ⟨wt_44, ?_⟩
  refine List.forall_mem_cons.mpr ⟨wt_45, ?_⟩
  refine List.forall_mem_cons.mpr ⟨wt_46, ?_⟩
  refine List.forall_mem_cons.mpr ⟨wt_47, ?_⟩
  refine List.forall_mem_cons.mpr ⟨wt_48, ?_⟩
  refine List.forall_mem_cons.mpr ⟨wt_49, ?_⟩
  refine List.forall_mem_cons.mpr ⟨wt_50, ?_⟩
  refine List.forall_mem_cons.mpr ⟨wt_51, ?_⟩
  refine List.forall_mem_cons.mpr ⟨wt_52, ?_⟩
  refine List.forall_mem_cons.mpr ⟨wt_53, ?_⟩
  refine List.forall_mem_cons.mpr ⟨wt_54, ?_⟩
  refine List.forall_mem_cons.mpr ⟨wt_55, ?_⟩
  refine List.forall_mem_cons.mpr ⟨wt_56, ?_⟩
  refine List.forall_mem_cons.mpr ⟨wt_57, ?_⟩
  refine List.forall_mem_cons.mpr ⟨wt_58, ?_⟩
  refine List.forall_mem_cons.mpr ⟨wt_59, ?_⟩
  refine List.forall_mem_cons.mpr ⟨wt_60, ?_⟩
  refine List.forall_mem_cons.mpr ⟨wt_61, ?_⟩
  refine List.forall_mem_cons.mpr ⟨wt_62, ?_⟩
  refine List.forall_mem_cons.mpr ⟨wt_63, ?_⟩
  refine List.forall_mem_cons.mpr ⟨wt_64, ?_⟩
  refine List.forall_mem_cons.mpr ⟨wt_65, ?_⟩
  refine List.forall_mem_cons.mpr ⟨wt_66, ?_⟩
  refine List.forall_mem_cons.mpr ⟨wt_67, ?_⟩
  refine List.forall_mem_cons.mpr ⟨wt_68, ?_⟩
  refine List.forall_mem_cons.mpr ⟨wt_69, ?_⟩
  refine List.forall_mem_cons.mpr ⟨wt_70, ?_⟩
  refine List.forall_mem_cons.mpr ⟨wt_71, ?_⟩
  refine List.forall_mem_cons.mpr ⟨wt_72, ?_⟩
  refine List.forall_mem_cons.mpr ⟨wt_73, ?_⟩
  refine List.forall_mem_cons.mpr ⟨wt_74, ?_⟩
  refine List.forall_mem_cons.mpr ⟨wt_75, ?_⟩
  refine List.forall_mem_cons.mpr ⟨wt_76, ?_⟩
  refine List.forall_mem_cons.mpr ⟨wt_77, ?_⟩
  refine List.forall_mem_cons.mpr ⟨wt_78, ?_⟩
  refine List.forall_mem_cons.mpr ⟨wt_79, ?_⟩
  refine List.forall_mem_cons.mpr ⟨wt_80, ?_⟩
  refine List.forall_mem_cons.mpr ⟨wt_81, ?_⟩
  refine List.forall_mem_cons.mpr ⟨wt_82, ?_⟩
  refine List.forall_mem_cons.mpr ⟨wt_83, ?_⟩
  refine List.forall_mem_cons.mpr ⟨wt_84, ?_⟩
  refine List.forall_mem_cons.mpr ⟨wt_85, ?_⟩
  refine List.forall_mem_cons.mpr ⟨wt_86, ?_⟩
  refine List.forall_mem_cons.mpr ⟨wt_87, ?_⟩
  refine List.forall_mem_cons.mpr ⟨wt_88, ?_⟩
  refine List.forall_mem_cons.mpr ⟨wt_89, ?_⟩
  refine List.forall_mem_cons.mpr ⟨wt_90, ?_⟩
  refine List.forall_mem_cons.mpr ⟨wt_91, ?_⟩
  refine List.forall_mem_cons.mpr ⟨wt_92, ?_⟩
  refine List.forall_mem_cons.mpr ⟨wt_93, ?_⟩
  refine List.forall_mem_cons.mpr ⟨wt_94, ?_⟩
  refine List.forall_mem_cons.mpr ⟨wt_95, ?_⟩
  refine List.forall_mem_cons.mpr ⟨wt_96, ?_⟩
  refine List.forall_mem_cons.mpr ⟨wt_97, ?_⟩
  refine List.forall_mem_cons.mpr ⟨wt_98, ?_⟩
  refine List.forall_mem_cons.mpr ⟨wt_99, ?_⟩
  refine List.forall_mem_cons.mpr ⟨wt_100, ?_⟩
  refine List.forall_mem_cons.mpr ⟨wt_101, ?_⟩
  refine List.forall_mem_cons.mpr ⟨wt_102, ?_⟩
  refine List.forall_mem_cons.mpr ⟨wt_103, ?_⟩
  refine List.forall_mem_cons.mpr ⟨wt_104, ?_⟩
  refine List.forall_mem_cons.mpr ⟨wt_105, ?_⟩
  refine List.forall_mem_cons.mpr ⟨wt_106, ?_⟩
  refine List.forall_mem_cons.mpr ⟨wt_107, ?_⟩
  refine List.forall_mem_cons.mpr ⟨wt_108, ?_⟩
  refine List.forall_mem_cons.mpr ⟨wt_109, ?_⟩
  refine List.forall_mem_cons.mpr ⟨wt_110, ?_⟩
  refine List.forall_mem_cons.mpr ⟨wt_111, ?_⟩
  refine List.forall_mem_cons.mpr ⟨wt_112, ?_⟩
  refine List.forall_mem_cons.mpr ⟨wt_113, ?_⟩
  refine List.forall_mem_cons.mpr ⟨wt_114, ?_⟩
  refine List.forall_mem_cons.mpr ⟨wt_115, ?_⟩
  refine List.forall_mem_cons.mpr ⟨wt_116, ?_⟩
  refine List.forall_mem_cons.mpr ⟨wt_117, ?_⟩
  refine List.forall_mem_cons.mpr ⟨wt_118, ?_⟩
  refine List.forall_mem_cons.mpr ⟨wt_119, ?_⟩
  refine List.forall_mem_cons.mpr ⟨wt_120, ?_⟩
  refine List.forall_mem_cons.mpr ⟨wt_121, ?_⟩
  refine List.forall_mem_cons.mpr ⟨wt_122, ?_⟩
  refine List.forall_mem_cons.mpr ⟨wt_123, ?_⟩
  refine List.forall_mem_cons.mpr ⟨wt_124, ?_⟩
  refine List.forall_mem_cons.mpr ⟨wt_125, ?_⟩
  refine List.forall_mem_cons.mpr ⟨wt_126, ?_⟩
  refine List.forall_mem_cons.mpr ⟨wt_127, ?_⟩
  refine List.forall_mem_cons.mpr ⟨wt_128, ?_⟩
  refine List.forall_mem_cons.mpr ⟨wt_129, ?_⟩
  refine List.forall_mem_cons.mpr ⟨wt_130, ?_⟩
  refine List.forall_mem_cons.mpr ⟨wt_131, ?_⟩
  refine List.forall_mem_cons.mpr ⟨wt_132, ?_⟩
  refine List.forall_mem_cons.mpr ⟨wt_133, ?_⟩
  refine List.forall_mem_cons.mpr ⟨wt_134, ?_⟩
  refine List.forall_mem_cons.mpr ⟨wt_135, ?_⟩
  refine List.forall_mem_cons.mpr ⟨wt_136, ?_⟩
  refine List.forall_mem_cons.mpr ⟨wt_137, ?_⟩
  refine List.forall_mem_cons.mpr ⟨wt_138, ?_⟩
  refine List.forall_mem_cons.mpr ⟨wt_139, ?_⟩
  refine List.forall_mem_cons.mpr ⟨wt_140, ?_⟩
  refine List.forall_mem_cons.mpr ⟨wt_141, ?_⟩
  refine List.forall_mem_cons.mpr ⟨wt_142, ?_⟩
  refine List.forall_mem_cons.mpr ⟨wt_143, ?_⟩
  refine List.forall_mem_cons.mpr ⟨wt_144, ?_⟩
  refine List.forall_mem_cons.mpr ⟨wt_145, ?_⟩
  refine List.forall_mem_cons.mpr ⟨wt_146, ?_⟩
  refine List.forall_mem_cons.mpr ⟨wt_147, ?_⟩
  refine List.forall_mem_cons.mpr ⟨wt_148, ?_⟩
  refine List.forall_mem_cons.mpr ⟨wt_149, ?_⟩
  refine List.forall_mem_cons.mpr ⟨wt_150, ?_⟩
  refine List.forall_mem_cons.mpr ⟨wt_151, ?_⟩
  refine List.forall_mem_cons.mpr ⟨wt_152, ?_⟩
  refine List.forall_mem_cons.mpr ⟨wt_153, ?_⟩
  refine List.forall_mem_cons.mpr ⟨wt_154, ?_⟩
  refine List.forall_mem_cons.mpr ⟨wt_155, ?_⟩
  refine List.forall_mem_cons.mpr ⟨wt_156, ?_⟩
  refine List.forall_mem_cons.mpr ⟨wt_157, ?_⟩
  refine List.forall_mem_cons.mpr ⟨wt_158, ?_⟩
  refine List.forall_mem_cons.mpr ⟨wt_159, ?_⟩
  refine List.forall_mem_cons.mpr ⟨wt_160, ?_⟩
  refine List.forall_mem_cons.mpr ⟨wt_161, ?_⟩
  refine List.forall_mem_cons.mpr ⟨wt_162, ?_⟩
  refine List.forall_mem_cons.mpr ⟨wt_163, ?_⟩
  refine List.forall_mem_cons.mpr ⟨wt_164, ?_⟩
  refine List.forall_mem_cons.mpr ⟨wt_165, ?_⟩
  refine List.forall_mem_cons.mpr ⟨wt_166, ?_⟩
  refine List.forall_mem_cons.mpr ⟨wt_167, ?_⟩
  refine List.forall_mem_cons.mpr ⟨wt_168, ?_⟩
  refine List.forall_mem_cons.mpr ⟨wt_169, ?_⟩
  refine List.forall_mem_cons.mpr ⟨wt_170, ?_⟩
  refine List.forall_mem_cons.mpr ⟨wt_171, ?_⟩
  refine List.forall_mem_cons.mpr ⟨wt_172, ?_⟩
  refine List.forall_mem_cons.mpr ⟨wt_173, ?_⟩
  refine List.forall_mem_cons.mpr ⟨wt_174, ?_⟩
  refine List.forall_mem_cons.mpr ⟨wt_175, ?_⟩
  refine List.forall_mem_cons.mpr ⟨wt_176, ?_⟩
  refine List.forall_mem_cons.mpr ⟨wt_177, ?_⟩
  refine List.forall_mem_cons.mpr ⟨wt_178, ?_⟩
  refine List.forall_mem_cons.mpr ⟨wt_179, ?_⟩
  refine List.forall_mem_cons.mpr ⟨wt_180, ?_⟩
  refine List.forall_mem_cons.mpr ⟨wt_181, ?_⟩
  refine List.forall_mem_cons.mpr ⟨wt_182, ?_⟩
  refine List.forall_mem_cons.mpr ⟨wt_183, ?_⟩
  refine List.forall_mem_cons.mpr ⟨wt_184, ?_⟩
  refine List.forall_mem_cons.mpr ⟨wt_185, ?_⟩
  refine List.forall_mem_cons.mpr ⟨wt_186, ?_⟩
  refine List.forall_mem_cons.mpr ⟨wt_187, ?_⟩
  refine List.forall_mem_cons.mpr ⟨wt_188, ?_⟩
  refine List.forall_mem_cons.mpr ⟨wt_189, ?_⟩
  refine List.forall_mem_cons.mpr ⟨wt_190, ?_⟩
  refine List.forall_mem_cons.mpr ⟨wt_191, ?_⟩
  refine List.forall_mem_cons.mpr ⟨wt_192, ?_⟩
  refine List.forall_mem_cons.mpr ⟨wt_193, ?_⟩
  refine List.forall_mem_cons.mpr ⟨wt_194, ?_⟩
  refine List.forall_mem_cons.mpr ⟨wt_195, ?_⟩
  refine List.forall_mem_cons.mpr ⟨wt_196, ?_⟩
  refine List.forall_mem_cons.mpr ⟨wt_197, ?_⟩
  refine List.forall_mem_cons.mpr ⟨wt_198, ?_⟩
  refine List.forall_mem_cons.mpr ⟨wt_199, ?_⟩
  refine List.forall_mem_cons.mpr ⟨wt_200, ?_⟩
  refine List.forall_mem_cons.mpr ⟨wt_201, ?_⟩
  refine List.forall_mem_cons.mpr ⟨wt_202, ?_⟩
  refine List.forall_mem_cons.mpr ⟨wt_203, ?_⟩
  refine List.forall_mem_cons.mpr ⟨wt_204, ?_⟩
  refine List.forall_mem_cons.mpr ⟨wt_205, ?_⟩
  refine List.forall_mem_cons.mpr ⟨wt_206, ?_⟩
  refine List.forall_mem_cons.mpr ⟨wt_207, ?_⟩
  refine List.forall_mem_cons.mpr ⟨wt_208, ?_⟩
  refine List.forall_mem_cons.mpr ⟨wt_209, ?_⟩
  refine List.forall_mem_cons.mpr ⟨wt_210, ?_⟩
  refine List.forall_mem_cons.mpr ⟨wt_211, ?_⟩
  refine List.forall_mem_cons.mpr ⟨wt_212, ?_⟩
  refine List.forall_mem_cons.mpr ⟨wt_213, ?_⟩
  refine List.forall_mem_cons.mpr ⟨wt_214, ?_⟩
  refine List.forall_mem_cons.mpr ⟨wt_215, ?_⟩
  refine List.forall_mem_cons.mpr ⟨wt_216, ?_⟩
  refine List.forall_mem_cons.mpr ⟨wt_217, ?_⟩
  refine List.forall_mem_cons.mpr ⟨wt_218, ?_⟩
  refine List.forall_mem_cons.mpr ⟨wt_219, ?_⟩
  refine List.forall_mem_cons.mpr ⟨wt_220, ?_⟩
  refine List.forall_mem_cons.mpr ⟨wt_221, ?_⟩
  refine List.forall_mem_cons.mpr ⟨wt_222, ?_⟩
  refine List.forall_mem_cons.mpr ⟨wt_223, ?_⟩
  refine List.forall_mem_cons.mpr ⟨wt_224, ?_⟩
  refine List.forall_mem_cons.mpr ⟨wt_225, ?_⟩
  refine List.forall_mem_cons.mpr ⟨wt_226, ?_⟩
  refine List.forall_mem_cons.mpr ⟨wt_227, ?_⟩
  refine List.forall_mem_cons.mpr ⟨wt_228, ?_⟩
  refine List.forall_mem_cons.mpr ⟨wt_229, ?_⟩
  refine List.forall_mem_cons.mpr ⟨wt_230, ?_⟩
  refine List.forall_mem_cons.mpr ⟨wt_231, ?_⟩
  refine List.forall_mem_cons.mpr ⟨wt_232, ?_⟩
  refine List.forall_mem_cons.mpr ⟨wt_233, ?_⟩
  refine List.forall_mem_cons.mpr ⟨wt_234, ?_⟩
  refine List.forall_mem_cons.mpr ⟨wt_235, ?_⟩
  refine List.forall_mem_cons.mpr ⟨wt_236, ?_⟩
  refine List.forall_mem_cons.mpr ⟨wt_237, ?_⟩
  refine List.forall_mem_cons.mpr ⟨wt_238, ?_⟩
  refine List.forall_mem_cons.mpr ⟨wt_239, ?_⟩
  refine List.forall_mem_cons.mpr ⟨wt_240, ?_⟩
  refine List.forall_mem_cons.mpr ⟨wt_241, ?_⟩
  refine List.forall_mem_cons.mpr ⟨wt_242, ?_⟩
  refine List.forall_mem_cons.mpr ⟨wt_243, ?_⟩
  refine List.forall_mem_cons.mpr ⟨wt_244, ?_⟩
  refine List.forall_mem_cons.mpr ⟨wt_245, ?_⟩
  refine List.forall_mem_cons.mpr ⟨wt_246, ?_⟩
  refine List.forall_mem_cons.mpr ⟨wt_247, ?_⟩
  refine List.forall_mem_cons.mpr ⟨wt_248, ?_⟩
  refine List.forall_mem_cons.mpr ⟨wt_249, ?_⟩
  refine List.forall_mem_cons.mpr ⟨wt_250, ?_⟩
  refine List.forall_mem_cons.mpr ⟨wt_251, ?_⟩
  refine List.forall_mem_cons.mpr ⟨wt_252, ?_⟩
  refine List.forall_mem_cons.mpr ⟨wt_253, ?_⟩
  refine List.forall_mem_cons.mpr ⟨wt_254, ?_⟩
  refine List.forall_mem_cons.mpr ⟨wt_255, ?_⟩
  refine List.forall_mem_cons.mpr ⟨wt_256, ?_⟩
  refine List.forall_mem_cons.mpr ⟨wt_257, ?_⟩
  refine List.forall_mem_cons.mpr ⟨wt_258, ?_⟩
  refine List.forall_mem_cons.mpr ⟨wt_259, ?_⟩
  refine List.forall_mem_cons.mpr ⟨wt_260, ?_⟩
  refine List.forall_mem_cons.mpr ⟨wt_261, ?_⟩
  refine List.forall_mem_cons.mpr ⟨wt_262, ?_⟩
  refine List.forall_mem_cons.mpr ⟨wt_263, ?_⟩
  refine List.forall_mem_cons.mpr ⟨wt_264, ?_⟩
  refine List.forall_mem_cons.mpr ⟨wt_265, ?_⟩
  refine List.forall_mem_cons.mpr ⟨wt_266, ?_⟩
  refine List.forall_mem_cons.mpr ⟨wt_267, ?_⟩
  refine List.forall_mem_cons.mpr ⟨wt_268, ?_⟩
  refine List.forall_mem_cons.mpr ⟨wt_269, ?_⟩
  refine List.forall_mem_cons.mpr ⟨wt_270, ?_⟩
  refine List.forall_mem_cons.mpr ⟨wt_271, ?_⟩
  refine List.forall_mem_cons.mpr ⟨wt_272, ?_⟩
  refine List.forall_mem_cons.mpr ⟨wt_273, ?_⟩
  refine List.forall_mem_cons.mpr ⟨wt_274, ?_⟩
  refine List.forall_mem_cons.mpr ⟨wt_275, ?_⟩
  refine List.forall_mem_cons.mpr ⟨wt_276, ?_⟩
  refine List.forall_mem_cons.mpr ⟨wt_277, ?_⟩
  refine List.forall_mem_cons.mpr ⟨wt_278, ?_⟩
  refine List.forall_mem_cons.mpr ⟨wt_279, ?_⟩
  refine List.forall_mem_cons.mpr ⟨wt_280, ?_⟩
  refine List.forall_mem_cons.mpr ⟨wt_281, ?_⟩
  refine List.forall_mem_cons.mpr ⟨wt_282, ?_⟩
  refine List.forall_mem_cons.mpr ⟨wt_283, ?_⟩
  refine List.forall_mem_cons.mpr ⟨wt_284, ?_⟩
  refine List.forall_mem_cons.mpr ⟨wt_285, ?_⟩
  refine List.forall_mem_cons.mpr ⟨wt_286, ?_⟩
  refine List.forall_mem_cons.mpr ⟨wt_287, ?_⟩
  refine List.forall_mem_cons.mpr ⟨wt_288, ?_⟩
  refine List.forall_mem_cons.mpr ⟨wt_289, ?_⟩
  refine List.forall_mem_cons.mpr ⟨wt_290, ?_⟩
  refine List.forall_mem_cons.mpr ⟨wt_291, ?_⟩
  refine List.forall_mem_cons.mpr ⟨wt_292, ?_⟩
  refine List.forall_mem_cons.mpr ⟨wt_293, ?_⟩
  refine List.forall_mem_cons.mpr ⟨wt_294, ?_⟩
  refine List.forall_mem_cons.mpr ⟨wt_295, ?_⟩
  refine List.forall_mem_cons.mpr ⟨wt_296, ?_⟩
  refine List.forall_mem_cons.mpr ⟨wt_297, ?_⟩
  refine List.forall_mem_cons.mpr ⟨wt_298, ?_⟩
  refine List.forall_mem_cons.mpr ⟨wt_299, ?_⟩
  refine List.forall_mem_cons.mpr ⟨wt_300, ?_⟩
  refine List.forall_mem_cons.mpr ⟨wt_301, ?_⟩
  refine List.forall_mem_cons.mpr ⟨wt_302, ?_⟩
  refine List.forall_mem_cons.mpr ⟨wt_303, ?_⟩
  refine List.forall_mem_cons.mpr ⟨wt_304, ?_⟩
  refine List.forall_mem_cons.mpr ⟨wt_305, ?_⟩
  refine List.forall_mem_cons.mpr ⟨wt_306, ?_⟩
  refine List.forall_mem_cons.mpr ⟨wt_307, ?_⟩
  refine List.forall_mem_cons.mpr ⟨wt_308, ?_⟩
  refine List.forall_mem_cons.mpr ⟨wt_309, ?_⟩
  refine List.forall_mem_cons.mpr ⟨wt_310, ?_⟩
  refine List.forall_mem_cons.mpr ⟨wt_311, ?_⟩
  refine List.forall_mem_cons.mpr ⟨wt_312, ?_⟩
  refine List.forall_mem_cons.mpr ⟨wt_313, ?_⟩
  refine List.forall_mem_cons.mpr ⟨wt_314, ?_⟩
  refine List.forall_mem_cons.mpr ⟨wt_315, ?_⟩
  refine List.forall_mem_cons.mpr ⟨wt_316, ?_⟩
  refine List.forall_mem_cons.mpr ⟨wt_317, ?_⟩
  refine List.forall_mem_cons.mpr ⟨wt_318, ?_⟩
  refine List.forall_mem_cons.mpr ⟨wt_319, ?_⟩
  refine List.forall_mem_cons.mpr ⟨wt_320, ?_⟩
  refine List.forall_mem_cons.mpr ⟨wt_321, ?_⟩
  refine List.forall_mem_cons.mpr ⟨wt_322, ?_⟩
  refine List.forall_mem_cons.mpr ⟨wt_323, ?_⟩
  refine List.forall_mem_cons.mpr ⟨wt_324, ?_⟩
  refine List.forall_mem_cons.mpr ⟨wt_325, ?_⟩
  refine List.forall_mem_cons.mpr ⟨wt_326, ?_⟩
  refine List.forall_mem_cons.mpr ⟨wt_327, ?_⟩
  refine List.forall_mem_cons.mpr ⟨wt_328, ?_⟩
  refine List.forall_mem_cons.mpr ⟨wt_329, ?_⟩
  refine List.forall_mem_cons.mpr ⟨wt_330, ?_⟩
  refine List.forall_mem_cons.mpr ⟨wt_331, ?_⟩
  refine List.forall_mem_cons.mpr ⟨wt_332, ?_⟩
  refine List.forall_mem_cons.mpr ⟨wt_333, ?_⟩
  refine List.forall_mem_cons.mpr ⟨wt_334, ?_⟩
  refine List.forall_mem_cons.mpr ⟨wt_335, ?_⟩
  refine List.forall_mem_cons.mpr ⟨wt_336, ?_⟩
  refine List.forall_mem_cons.mpr ⟨wt_337, ?_⟩
  refine List.forall_mem_cons.mpr ⟨wt_338, ?_⟩
  refine List.forall_mem_cons.mpr ⟨wt_339, ?_⟩
  refine List.forall_mem_cons.mpr ⟨wt_340, ?_⟩
  refine List.forall_mem_cons.mpr ⟨wt_341, ?_⟩
  refine List.forall_mem_cons.mpr ⟨wt_342, ?_⟩
  refine List.forall_mem_cons.mpr ⟨wt_343, ?_⟩
  refine List.forall_mem_cons.mpr ⟨wt_344, ?_⟩
  refine List.forall_mem_cons.mpr ⟨wt_345, ?_⟩
  refine List.forall_mem_cons.mpr ⟨wt_346, ?_⟩
  refine List.forall_mem_cons.mpr ⟨wt_347, ?_⟩
  refine List.forall_mem_cons.mpr ⟨wt_348, ?_⟩
  refine List.forall_mem_cons.mpr ⟨wt_349, ?_⟩
  refine List.forall_mem_cons.mpr ⟨wt_350, ?_⟩
  refine List.forall_mem_cons.mpr ⟨wt_351, ?_⟩
  refine List.forall_mem_cons.mpr ⟨wt_352, ?_⟩
  refine List.forall_mem_cons.mpr ⟨wt_353, ?_⟩
  refine List.forall_mem_cons.mpr ⟨wt_354, ?_⟩
  refine List.forall_mem_cons.mpr ⟨wt_355, ?_⟩
  refine List.forall_mem_cons.mpr ⟨wt_356, ?_⟩
  refine List.forall_mem_cons.mpr ⟨wt_357, ?_⟩
  refine List.forall_mem_cons.mpr ⟨wt_358, ?_⟩
  refine List.forall_mem_cons.mpr ⟨wt_359, ?_⟩
  refine List.forall_mem_cons.mpr ⟨wt_360, ?_⟩
  refine List.forall_mem_cons.mpr ⟨wt_361, ?_⟩
  refine List.forall_mem_cons.mpr ⟨wt_362, ?_⟩
  refine List.forall_mem_cons.mpr ⟨wt_363, ?_⟩
  refine List.forall_mem_cons.mpr ⟨wt_364, ?_⟩
  refine List.forall_mem_cons.mpr ⟨wt_365, ?_⟩
  refine List.forall_mem_cons.mpr ⟨wt_366, ?_⟩
  refine List.forall_mem_cons.mpr ⟨wt_367, ?_⟩
  refine List.forall_mem_cons.mpr ⟨wt_368, ?_⟩
  refine List.forall_mem_cons.mpr ⟨wt_369, ?_⟩
  refine List.forall_mem_cons.mpr ⟨wt_370, ?_⟩
  refine List.forall_mem_cons.mpr ⟨wt_371, ?_⟩
  refine List.forall_mem_cons.mpr ⟨wt_372, ?_⟩
  refine List.forall_mem_cons.mpr ⟨wt_373, ?_⟩
  refine List.forall_mem_cons.mpr ⟨wt_374, ?_⟩
  refine List.forall_mem_cons.mpr ⟨wt_375, ?_⟩
  refine List.forall_mem_cons.mpr ⟨wt_376, ?_⟩
  refine List.forall_mem_cons.mpr ⟨wt_377, ?_⟩
  refine List.forall_mem_cons.mpr ⟨wt_378, ?_⟩
  refine List.forall_mem_cons.mpr ⟨wt_379, ?_⟩
  refine List.forall_mem_cons.mpr ⟨wt_380, ?_⟩
  refine List.forall_mem_cons.mpr ⟨wt_381, ?_⟩
  refine List.forall_mem_cons.mpr ⟨wt_382, ?_⟩
  refine List.forall_mem_cons.mpr ⟨wt_383, ?_⟩
  refine List.forall_mem_cons.mpr ⟨wt_384, ?_⟩
  refine List.forall_mem_cons.mpr ⟨wt_385, ?_⟩
  refine List.forall_mem_cons.mpr ⟨wt_386, ?_⟩
  refine List.forall_mem_cons.mpr ⟨wt_387, ?_⟩
  refine List.forall_mem_cons.mpr ⟨wt_388, ?_⟩
  refine List.forall_mem_cons.mpr ⟨wt_389, ?_⟩
  refine List.forall_mem_cons.mpr ⟨wt_390, ?_⟩
  refine List.forall_mem_cons.mpr ⟨wt_391, ?_⟩
  refine List.forall_mem_cons.mpr ⟨wt_392, ?_⟩
  refine List.forall_mem_cons.mpr ⟨wt_393, ?_⟩
  refine List.forall_mem_cons.mpr ⟨wt_394, ?_⟩
  refine List.forall_mem_cons.mpr ⟨wt_395, ?_⟩
  refine List.forall_mem_cons.mpr ⟨wt_396, ?_⟩
  refine List.forall_mem_cons.mpr ⟨wt_397, ?_⟩
  refine List.forall_mem_cons.mpr ⟨wt_398, ?_⟩
  refine List.forall_mem_cons.mpr ⟨wt_399, ?_⟩
  refine List.forall_mem_cons.mpr ⟨wt_400, ?_⟩
  refine List.forall_mem_cons.mpr ⟨wt_401, ?_⟩
  refine List.forall_mem_cons.mpr ⟨wt_402, ?_⟩
  refine List.forall_mem_cons.mpr ⟨wt_403, ?_⟩
  refine List.forall_mem_cons.mpr ⟨wt_404, ?_⟩
  refine List.forall_mem_cons.mpr ⟨wt_405, ?_⟩
  refine List.forall_mem_cons.mpr ⟨wt_406, ?_⟩
  refine List.forall_mem_cons.mpr ⟨wt_407, ?_⟩
  refine List.forall_mem_cons.mpr ⟨wt_408, ?_⟩
  refine List.forall_mem_cons.mpr ⟨wt_409, ?_⟩
  refine List.forall_mem_cons.mpr ⟨wt_410, ?_⟩
  refine List.forall_mem_cons.mpr ⟨wt_411, ?_⟩
  refine List.forall_mem_cons.mpr ⟨wt_412, ?_⟩
  refine List.forall_mem_cons.mpr ⟨wt_413, ?_⟩
  refine List.forall_mem_cons.mpr ⟨wt_414, ?_⟩
  refine List.forall_mem_cons.mpr ⟨wt_415, ?_⟩
  refine List.forall_mem_cons.mpr ⟨wt_416, ?_⟩
  refine List.forall_mem_cons.mpr ⟨wt_417, ?_⟩
  refine List.forall_mem_cons.mpr ⟨wt_418, ?_⟩
  refine List.forall_mem_cons.mpr ⟨wt_419, ?_⟩
  refine List.forall_mem_cons.mpr ⟨wt_420, ?_⟩
  refine List.forall_mem_cons.mpr ⟨wt_421, ?_⟩
  refine List.forall_mem_cons.mpr ⟨wt_422, ?_⟩
  refine List.forall_mem_cons.mpr ⟨wt_423, ?_⟩
  refine List.forall_mem_cons.mpr ⟨wt_424, ?_⟩
  refine List.forall_mem_cons.mpr ⟨wt_425, ?_⟩
  refine List.forall_mem_cons.mpr ⟨wt_426, ?_⟩
  refine List.forall_mem_cons.mpr ⟨wt_427, ?_⟩
  refine List.forall_mem_cons.mpr ⟨wt_428, ?_⟩
  refine List.forall_mem_cons.mpr ⟨wt_429, ?_⟩
  refine List.forall_mem_cons.mpr ⟨wt_430, ?_⟩
  refine List.forall_mem_cons.mpr ⟨wt_431, ?_⟩
  refine List.forall_mem_cons.mpr ⟨wt_432, ?_⟩
  refine List.forall_mem_cons.mpr ⟨wt_433, ?_⟩
  refine List.forall_mem_cons.mpr ⟨wt_434, ?_⟩
  refine List.forall_mem_cons.mpr ⟨wt_435, ?_⟩
  exact fun _ h => absurd h List.not_mem_nil
theorem wl_0 : Cond.methodLink "WideMachineLaw" 21 y_xm_word ∈ lw_tbl := List.mem_append_right _ (show _ ∈ tables_1 from List.mem_append_left _ (List.mem_of_getElem? (i := 103) rfl))
theorem wl_1 : Cond.code y_xm_word b_xm_word 3 (some .boolean) ∈ lw_tbl := List.mem_append_right _ (show _ ∈ tables_1 from List.mem_append_left _ (List.mem_of_getElem? (i := 106) rfl))
theorem wl_2 : Cond.initialized "WideMachine" ∈ lw_tbl := List.mem_append_right _ (show _ ∈ tables_1 from List.mem_append_left _ (List.mem_of_getElem? (i := 1) rfl))
theorem wl_3 : Cond.instanceMethod y_xm_word ∈ lw_tbl := List.mem_append_right _ (show _ ∈ tables_1 from List.mem_append_left _ (List.mem_of_getElem? (i := 104) rfl))
theorem wl_4 : Cond.selects "WideMachine" y_xm_word y_xm_word ∈ lw_tbl := List.mem_append_right _ (show _ ∈ tables_1 from List.mem_append_left _ (List.mem_of_getElem? (i := 105) rfl))
theorem wl_5 : Cond.methodLink "WideMachineLaw" 25 y_mm_word ∈ lw_tbl := List.mem_append_right _ (show _ ∈ tables_1 from List.mem_append_right _ (List.mem_append_left _ (List.mem_of_getElem? (i := 204) rfl)))
theorem wl_6 : Cond.code y_mm_word b_mm_word 3 (some .boolean) ∈ lw_tbl := List.mem_append_right _ (show _ ∈ tables_1 from List.mem_append_right _ (List.mem_append_left _ (List.mem_of_getElem? (i := 207) rfl)))
theorem wl_7 : Cond.initialized "WideMachineModel" ∈ lw_tbl := List.mem_append_right _ (show _ ∈ tables_1 from List.mem_append_left _ (List.mem_of_getElem? (i := 5) rfl))
theorem wl_8 : Cond.instanceMethod y_mm_word ∈ lw_tbl := List.mem_append_right _ (show _ ∈ tables_1 from List.mem_append_right _ (List.mem_append_left _ (List.mem_of_getElem? (i := 205) rfl)))
theorem wl_9 : Cond.selects "WideMachineModel" y_mm_word y_mm_word ∈ lw_tbl := List.mem_append_right _ (show _ ∈ tables_1 from List.mem_append_right _ (List.mem_append_left _ (List.mem_of_getElem? (i := 206) rfl)))
theorem wl_10 : Cond.methodLink "WideMachineLaw" 26 y_xm_poke ∈ lw_tbl := List.mem_append_right _ (show _ ∈ tables_1 from List.mem_append_left _ (List.mem_of_getElem? (i := 107) rfl))
theorem wl_11 : Cond.code y_xm_poke b_xm_poke 3 (some .boolean) ∈ lw_tbl := List.mem_append_right _ (show _ ∈ tables_1 from List.mem_append_left _ (List.mem_of_getElem? (i := 110) rfl))
theorem wl_12 : Cond.instanceMethod y_xm_poke ∈ lw_tbl := List.mem_append_right _ (show _ ∈ tables_1 from List.mem_append_left _ (List.mem_of_getElem? (i := 108) rfl))
theorem wl_13 : Cond.selects "WideMachine" y_xm_poke y_xm_poke ∈ lw_tbl := List.mem_append_right _ (show _ ∈ tables_1 from List.mem_append_left _ (List.mem_of_getElem? (i := 109) rfl))
theorem wl_14 : Cond.methodLink "WideMachineLaw" 29 y_mm_poke ∈ lw_tbl := List.mem_append_right _ (show _ ∈ tables_1 from List.mem_append_right _ (List.mem_append_left _ (List.mem_of_getElem? (i := 208) rfl)))
theorem wl_15 : Cond.code y_mm_poke b_mm_poke 3 (some .boolean) ∈ lw_tbl := List.mem_append_right _ (show _ ∈ tables_1 from List.mem_append_right _ (List.mem_append_left _ (List.mem_of_getElem? (i := 211) rfl)))
theorem wl_16 : Cond.instanceMethod y_mm_poke ∈ lw_tbl := List.mem_append_right _ (show _ ∈ tables_1 from List.mem_append_right _ (List.mem_append_left _ (List.mem_of_getElem? (i := 209) rfl)))
theorem wl_17 : Cond.selects "WideMachineModel" y_mm_poke y_mm_poke ∈ lw_tbl := List.mem_append_right _ (show _ ∈ tables_1 from List.mem_append_right _ (List.mem_append_left _ (List.mem_of_getElem? (i := 210) rfl)))
theorem wl_18 : Cond.methodLink "WideMachineLaw" 30 y_xm_peek ∈ lw_tbl := List.mem_append_right _ (show _ ∈ tables_1 from List.mem_append_left _ (List.mem_of_getElem? (i := 115) rfl))
theorem wl_19 : Cond.code y_xm_peek b_xm_peek 2 (some .int) ∈ lw_tbl := List.mem_append_right _ (show _ ∈ tables_1 from List.mem_append_left _ (List.mem_of_getElem? (i := 118) rfl))
theorem wl_20 : Cond.instanceMethod y_xm_peek ∈ lw_tbl := List.mem_append_right _ (show _ ∈ tables_1 from List.mem_append_left _ (List.mem_of_getElem? (i := 116) rfl))
theorem wl_21 : Cond.selects "WideMachine" y_xm_peek y_xm_peek ∈ lw_tbl := List.mem_append_right _ (show _ ∈ tables_1 from List.mem_append_left _ (List.mem_of_getElem? (i := 117) rfl))
theorem wl_22 : Cond.methodLink "WideMachineLaw" 34 y_mm_peek ∈ lw_tbl := List.mem_append_right _ (show _ ∈ tables_1 from List.mem_append_right _ (List.mem_append_left _ (List.mem_of_getElem? (i := 212) rfl)))
theorem wl_23 : Cond.code y_mm_peek b_mm_peek 2 (some .int) ∈ lw_tbl := List.mem_append_right _ (show _ ∈ tables_1 from List.mem_append_right _ (List.mem_append_left _ (List.mem_of_getElem? (i := 215) rfl)))
theorem wl_24 : Cond.instanceMethod y_mm_peek ∈ lw_tbl := List.mem_append_right _ (show _ ∈ tables_1 from List.mem_append_right _ (List.mem_append_left _ (List.mem_of_getElem? (i := 213) rfl)))
theorem wl_25 : Cond.selects "WideMachineModel" y_mm_peek y_mm_peek ∈ lw_tbl := List.mem_append_right _ (show _ ∈ tables_1 from List.mem_append_right _ (List.mem_append_left _ (List.mem_of_getElem? (i := 214) rfl)))
theorem wl_26 : Cond.methodLink "WideMachineLaw" 35 y_xm_set ∈ lw_tbl := List.mem_append_right _ (show _ ∈ tables_1 from List.mem_append_left _ (List.mem_of_getElem? (i := 119) rfl))
theorem wl_27 : Cond.code y_xm_set b_xm_set 3 (some .boolean) ∈ lw_tbl := List.mem_append_right _ (show _ ∈ tables_1 from List.mem_append_left _ (List.mem_of_getElem? (i := 122) rfl))
theorem wl_28 : Cond.instanceMethod y_xm_set ∈ lw_tbl := List.mem_append_right _ (show _ ∈ tables_1 from List.mem_append_left _ (List.mem_of_getElem? (i := 120) rfl))
theorem wl_29 : Cond.selects "WideMachine" y_xm_set y_xm_set ∈ lw_tbl := List.mem_append_right _ (show _ ∈ tables_1 from List.mem_append_left _ (List.mem_of_getElem? (i := 121) rfl))
theorem wl_30 : Cond.methodLink "WideMachineLaw" 38 y_mm_set ∈ lw_tbl := List.mem_append_right _ (show _ ∈ tables_1 from List.mem_append_right _ (List.mem_append_left _ (List.mem_of_getElem? (i := 216) rfl)))
theorem wl_31 : Cond.code y_mm_set b_mm_set 3 (some .boolean) ∈ lw_tbl := List.mem_append_right _ (show _ ∈ tables_1 from List.mem_append_right _ (List.mem_append_left _ (List.mem_of_getElem? (i := 219) rfl)))
theorem wl_32 : Cond.instanceMethod y_mm_set ∈ lw_tbl := List.mem_append_right _ (show _ ∈ tables_1 from List.mem_append_right _ (List.mem_append_left _ (List.mem_of_getElem? (i := 217) rfl)))
theorem wl_33 : Cond.selects "WideMachineModel" y_mm_set y_mm_set ∈ lw_tbl := List.mem_append_right _ (show _ ∈ tables_1 from List.mem_append_right _ (List.mem_append_left _ (List.mem_of_getElem? (i := 218) rfl)))
theorem wl_34 : Cond.methodLink "WideMachineLaw" 39 y_xm_get ∈ lw_tbl := List.mem_append_right _ (show _ ∈ tables_1 from List.mem_append_left _ (List.mem_of_getElem? (i := 123) rfl))
theorem wl_35 : Cond.code y_xm_get b_xm_get 2 (some .int) ∈ lw_tbl := List.mem_append_right _ (show _ ∈ tables_1 from List.mem_append_left _ (List.mem_of_getElem? (i := 126) rfl))
theorem wl_36 : Cond.instanceMethod y_xm_get ∈ lw_tbl := List.mem_append_right _ (show _ ∈ tables_1 from List.mem_append_left _ (List.mem_of_getElem? (i := 124) rfl))
theorem wl_37 : Cond.selects "WideMachine" y_xm_get y_xm_get ∈ lw_tbl := List.mem_append_right _ (show _ ∈ tables_1 from List.mem_append_left _ (List.mem_of_getElem? (i := 125) rfl))
theorem wl_38 : Cond.methodLink "WideMachineLaw" 42 y_mm_get ∈ lw_tbl := List.mem_append_right _ (show _ ∈ tables_1 from List.mem_append_right _ (List.mem_append_left _ (List.mem_of_getElem? (i := 220) rfl)))
theorem wl_39 : Cond.code y_mm_get b_mm_get 2 (some .int) ∈ lw_tbl := List.mem_append_right _ (show _ ∈ tables_1 from List.mem_append_right _ (List.mem_append_left _ (List.mem_of_getElem? (i := 223) rfl)))
theorem wl_40 : Cond.instanceMethod y_mm_get ∈ lw_tbl := List.mem_append_right _ (show _ ∈ tables_1 from List.mem_append_right _ (List.mem_append_left _ (List.mem_of_getElem? (i := 221) rfl)))
theorem wl_41 : Cond.selects "WideMachineModel" y_mm_get y_mm_get ∈ lw_tbl := List.mem_append_right _ (show _ ∈ tables_1 from List.mem_append_right _ (List.mem_append_left _ (List.mem_of_getElem? (i := 222) rfl)))
theorem wl_42 : Cond.methodLink "WideMachineLaw" 43 y_xm_run ∈ lw_tbl := List.mem_append_right _ (show _ ∈ tables_1 from List.mem_append_left _ (List.mem_of_getElem? (i := 127) rfl))
theorem wl_43 : Cond.code y_xm_run b_xm_run 3 (some .int) ∈ lw_tbl := List.mem_append_right _ (show _ ∈ tables_1 from List.mem_append_left _ (List.mem_of_getElem? (i := 130) rfl))
theorem wl_44 : Cond.instanceMethod y_xm_run ∈ lw_tbl := List.mem_append_right _ (show _ ∈ tables_1 from List.mem_append_left _ (List.mem_of_getElem? (i := 128) rfl))
theorem wl_45 : Cond.selects "WideMachine" y_xm_run y_xm_run ∈ lw_tbl := List.mem_append_right _ (show _ ∈ tables_1 from List.mem_append_left _ (List.mem_of_getElem? (i := 129) rfl))
theorem wl_46 : Cond.methodLink "WideMachineLaw" 46 y_mm_run ∈ lw_tbl := List.mem_append_right _ (show _ ∈ tables_1 from List.mem_append_right _ (List.mem_append_right _ (List.mem_of_getElem? (i := 4) rfl)))
theorem wl_47 : Cond.code y_mm_run b_mm_run 3 (some .int) ∈ lw_tbl := List.mem_append_right _ (show _ ∈ tables_1 from List.mem_append_right _ (List.mem_append_right _ (List.mem_of_getElem? (i := 7) rfl)))
theorem wl_48 : Cond.instanceMethod y_mm_run ∈ lw_tbl := List.mem_append_right _ (show _ ∈ tables_1 from List.mem_append_right _ (List.mem_append_right _ (List.mem_of_getElem? (i := 5) rfl)))
theorem wl_49 : Cond.selects "WideMachineModel" y_mm_run y_mm_run ∈ lw_tbl := List.mem_append_right _ (show _ ∈ tables_1 from List.mem_append_right _ (List.mem_append_right _ (List.mem_of_getElem? (i := 6) rfl)))
theorem wl_50 : Cond.methodLink "WideMachineLaw" 47 y_xm_about ∈ lw_tbl := List.mem_append_right _ (show _ ∈ tables_1 from List.mem_append_right _ (List.mem_append_left _ (List.mem_of_getElem? (i := 97) rfl)))
theorem wl_51 : Cond.code y_xm_about b_xm_about 2 (some .int) ∈ lw_tbl := List.mem_append_right _ (show _ ∈ tables_1 from List.mem_append_right _ (List.mem_append_left _ (List.mem_of_getElem? (i := 100) rfl)))
theorem wl_52 : Cond.instanceMethod y_xm_about ∈ lw_tbl := List.mem_append_right _ (show _ ∈ tables_1 from List.mem_append_right _ (List.mem_append_left _ (List.mem_of_getElem? (i := 98) rfl)))
theorem wl_53 : Cond.selects "WideMachine" y_xm_about y_xm_about ∈ lw_tbl := List.mem_append_right _ (show _ ∈ tables_1 from List.mem_append_right _ (List.mem_append_left _ (List.mem_of_getElem? (i := 99) rfl)))
theorem wl_54 : Cond.methodLink "WideMachineLaw" 50 y_mm_about ∈ lw_tbl := List.mem_append_right _ (show _ ∈ tables_1 from List.mem_append_right _ (List.mem_append_left _ (List.mem_of_getElem? (i := 224) rfl)))
theorem wl_55 : Cond.code y_mm_about b_mm_about 2 (some .int) ∈ lw_tbl := List.mem_append_right _ (show _ ∈ tables_1 from List.mem_append_right _ (List.mem_append_left _ (List.mem_of_getElem? (i := 227) rfl)))
theorem wl_56 : Cond.instanceMethod y_mm_about ∈ lw_tbl := List.mem_append_right _ (show _ ∈ tables_1 from List.mem_append_right _ (List.mem_append_left _ (List.mem_of_getElem? (i := 225) rfl)))
theorem wl_57 : Cond.selects "WideMachineModel" y_mm_about y_mm_about ∈ lw_tbl := List.mem_append_right _ (show _ ∈ tables_1 from List.mem_append_right _ (List.mem_append_left _ (List.mem_of_getElem? (i := 226) rfl)))
theorem wl_58 : Cond.methodLink "WideMachineLaw" 51 y_xm_due ∈ lw_tbl := List.mem_append_right _ (show _ ∈ tables_1 from List.mem_append_right _ (List.mem_append_left _ (List.mem_of_getElem? (i := 101) rfl)))
theorem wl_59 : Cond.code y_xm_due b_xm_due 3 (some .int) ∈ lw_tbl := List.mem_append_right _ (show _ ∈ tables_1 from List.mem_append_right _ (List.mem_append_left _ (List.mem_of_getElem? (i := 104) rfl)))
theorem wl_60 : Cond.instanceMethod y_xm_due ∈ lw_tbl := List.mem_append_right _ (show _ ∈ tables_1 from List.mem_append_right _ (List.mem_append_left _ (List.mem_of_getElem? (i := 102) rfl)))
theorem wl_61 : Cond.selects "WideMachine" y_xm_due y_xm_due ∈ lw_tbl := List.mem_append_right _ (show _ ∈ tables_1 from List.mem_append_right _ (List.mem_append_left _ (List.mem_of_getElem? (i := 103) rfl)))
theorem wl_62 : Cond.methodLink "WideMachineLaw" 55 y_mm_due ∈ lw_tbl := List.mem_append_right _ (show _ ∈ tables_1 from List.mem_append_right _ (List.mem_append_left _ (List.mem_of_getElem? (i := 228) rfl)))
theorem wl_63 : Cond.code y_mm_due b_mm_due 3 (some .int) ∈ lw_tbl := List.mem_append_right _ (show _ ∈ tables_1 from List.mem_append_right _ (List.mem_append_left _ (List.mem_of_getElem? (i := 231) rfl)))
theorem wl_64 : Cond.instanceMethod y_mm_due ∈ lw_tbl := List.mem_append_right _ (show _ ∈ tables_1 from List.mem_append_right _ (List.mem_append_left _ (List.mem_of_getElem? (i := 229) rfl)))
theorem wl_65 : Cond.selects "WideMachineModel" y_mm_due y_mm_due ∈ lw_tbl := List.mem_append_right _ (show _ ∈ tables_1 from List.mem_append_right _ (List.mem_append_left _ (List.mem_of_getElem? (i := 230) rfl)))
theorem wl_66 : Cond.methodLink "WideMachineLaw" 56 y_xm_raise ∈ lw_tbl := List.mem_append_right _ (show _ ∈ tables_1 from List.mem_append_right _ (List.mem_append_left _ (List.mem_of_getElem? (i := 105) rfl)))
theorem wl_67 : Cond.code y_xm_raise b_xm_raise 2 (some .boolean) ∈ lw_tbl := List.mem_append_right _ (show _ ∈ tables_1 from List.mem_append_right _ (List.mem_append_left _ (List.mem_of_getElem? (i := 108) rfl)))
theorem wl_68 : Cond.instanceMethod y_xm_raise ∈ lw_tbl := List.mem_append_right _ (show _ ∈ tables_1 from List.mem_append_right _ (List.mem_append_left _ (List.mem_of_getElem? (i := 106) rfl)))
theorem wl_69 : Cond.selects "WideMachine" y_xm_raise y_xm_raise ∈ lw_tbl := List.mem_append_right _ (show _ ∈ tables_1 from List.mem_append_right _ (List.mem_append_left _ (List.mem_of_getElem? (i := 107) rfl)))
theorem wl_70 : Cond.methodLink "WideMachineLaw" 60 y_mm_raise ∈ lw_tbl := List.mem_append_right _ (show _ ∈ tables_1 from List.mem_append_right _ (List.mem_append_left _ (List.mem_of_getElem? (i := 232) rfl)))
theorem wl_71 : Cond.code y_mm_raise b_mm_raise 2 (some .boolean) ∈ lw_tbl := List.mem_append_right _ (show _ ∈ tables_1 from List.mem_append_right _ (List.mem_append_left _ (List.mem_of_getElem? (i := 235) rfl)))
theorem wl_72 : Cond.instanceMethod y_mm_raise ∈ lw_tbl := List.mem_append_right _ (show _ ∈ tables_1 from List.mem_append_right _ (List.mem_append_left _ (List.mem_of_getElem? (i := 233) rfl)))
theorem wl_73 : Cond.selects "WideMachineModel" y_mm_raise y_mm_raise ∈ lw_tbl := List.mem_append_right _ (show _ ∈ tables_1 from List.mem_append_right _ (List.mem_append_left _ (List.mem_of_getElem? (i := 234) rfl)))
theorem wl_74 : Cond.methodLink "WideMachineLaw" 61 y_xm_letIn ∈ lw_tbl := List.mem_append_right _ (show _ ∈ tables_1 from List.mem_append_right _ (List.mem_append_left _ (List.mem_of_getElem? (i := 109) rfl)))
theorem wl_75 : Cond.code y_xm_letIn b_xm_letIn 2 none ∈ lw_tbl := List.mem_append_right _ (show _ ∈ tables_1 from List.mem_append_right _ (List.mem_append_left _ (List.mem_of_getElem? (i := 112) rfl)))
theorem wl_76 : Cond.instanceMethod y_xm_letIn ∈ lw_tbl := List.mem_append_right _ (show _ ∈ tables_1 from List.mem_append_right _ (List.mem_append_left _ (List.mem_of_getElem? (i := 110) rfl)))
theorem wl_77 : Cond.selects "WideMachine" y_xm_letIn y_xm_letIn ∈ lw_tbl := List.mem_append_right _ (show _ ∈ tables_1 from List.mem_append_right _ (List.mem_append_left _ (List.mem_of_getElem? (i := 111) rfl)))
theorem wl_78 : Cond.methodLink "WideMachineLaw" 65 y_mm_letIn ∈ lw_tbl := List.mem_append_right _ (show _ ∈ tables_1 from List.mem_append_right _ (List.mem_append_left _ (List.mem_of_getElem? (i := 236) rfl)))
theorem wl_79 : Cond.code y_mm_letIn b_mm_letIn 2 none ∈ lw_tbl := List.mem_append_right _ (show _ ∈ tables_1 from List.mem_append_right _ (List.mem_append_left _ (List.mem_of_getElem? (i := 239) rfl)))
theorem wl_80 : Cond.instanceMethod y_mm_letIn ∈ lw_tbl := List.mem_append_right _ (show _ ∈ tables_1 from List.mem_append_right _ (List.mem_append_left _ (List.mem_of_getElem? (i := 237) rfl)))
theorem wl_81 : Cond.selects "WideMachineModel" y_mm_letIn y_mm_letIn ∈ lw_tbl := List.mem_append_right _ (show _ ∈ tables_1 from List.mem_append_right _ (List.mem_append_left _ (List.mem_of_getElem? (i := 238) rfl)))
theorem wl_82 : Cond.methodLink "WideMachineLaw" 66 y_xm_start ∈ lw_tbl := List.mem_append_right _ (show _ ∈ tables_1 from List.mem_append_right _ (List.mem_append_left _ (List.mem_of_getElem? (i := 113) rfl)))
theorem wl_83 : Cond.code y_xm_start b_xm_start 2 (some .boolean) ∈ lw_tbl := List.mem_append_right _ (show _ ∈ tables_1 from List.mem_append_right _ (List.mem_append_left _ (List.mem_of_getElem? (i := 116) rfl)))
theorem wl_84 : Cond.instanceMethod y_xm_start ∈ lw_tbl := List.mem_append_right _ (show _ ∈ tables_1 from List.mem_append_right _ (List.mem_append_left _ (List.mem_of_getElem? (i := 114) rfl)))
theorem wl_85 : Cond.selects "WideMachine" y_xm_start y_xm_start ∈ lw_tbl := List.mem_append_right _ (show _ ∈ tables_1 from List.mem_append_right _ (List.mem_append_left _ (List.mem_of_getElem? (i := 115) rfl)))
theorem wl_86 : Cond.methodLink "WideMachineLaw" 69 y_mm_start ∈ lw_tbl := List.mem_append_right _ (show _ ∈ tables_1 from List.mem_append_right _ (List.mem_append_right _ (List.mem_of_getElem? (i := 0) rfl)))
theorem wl_87 : Cond.code y_mm_start b_mm_start 2 (some .boolean) ∈ lw_tbl := List.mem_append_right _ (show _ ∈ tables_1 from List.mem_append_right _ (List.mem_append_right _ (List.mem_of_getElem? (i := 3) rfl)))
theorem wl_88 : Cond.instanceMethod y_mm_start ∈ lw_tbl := List.mem_append_right _ (show _ ∈ tables_1 from List.mem_append_right _ (List.mem_append_right _ (List.mem_of_getElem? (i := 1) rfl)))
theorem wl_89 : Cond.selects "WideMachineModel" y_mm_start y_mm_start ∈ lw_tbl := List.mem_append_right _ (show _ ∈ tables_1 from List.mem_append_right _ (List.mem_append_right _ (List.mem_of_getElem? (i := 2) rfl)))
set_option maxRecDepth 100000 in
set_option maxHeartbeats 4000000 in
theorem vw_L_in : ∀ w ∈ vw_L, w ∈ lw_tbl := by
  refine List.forall_mem_cons.mpr ⟨wl_0, ?_⟩
  refine List.forall_mem_cons.mpr ⟨wl_1, ?_⟩
  refine List.forall_mem_cons.mpr ⟨wl_2, ?_⟩
  refine List.forall_mem_cons.mpr ⟨wl_3, ?_⟩
  refine List.forall_mem_cons.mpr ⟨wl_4, ?_⟩
  refine List.forall_mem_cons.mpr ⟨wl_5, ?_⟩
  refine List.forall_mem_cons.mpr ⟨wl_6, ?_⟩
  refine List.forall_mem_cons.mpr ⟨wl_7, ?_⟩
  refine List.forall_mem_cons.mpr ⟨wl_8, ?_⟩
  refine List.forall_mem_cons.mpr ⟨wl_9, ?_⟩
  refine List.forall_mem_cons.mpr ⟨wl_10, ?_⟩
  refine List.forall_mem_cons.mpr ⟨wl_11, ?_⟩
  refine List.forall_mem_cons.mpr ⟨wl_12, ?_⟩
  refine List.forall_mem_cons.mpr ⟨wl_13, ?_⟩
  refine List.forall_mem_cons.mpr ⟨wl_14, ?_⟩
  refine List.forall_mem_cons.mpr ⟨wl_15, ?_⟩
  refine List.forall_mem_cons.mpr ⟨wl_16, ?_⟩
  refine List.forall_mem_cons.mpr ⟨wl_17, ?_⟩
  refine List.forall_mem_cons.mpr ⟨wl_18, ?_⟩
  refine List.forall_mem_cons.mpr ⟨wl_19, ?_⟩
  refine List.forall_mem_cons.mpr ⟨wl_20, ?_⟩
  refine List.forall_mem_cons.mpr ⟨wl_21, ?_⟩
  refine List.forall_mem_cons.mpr ⟨wl_22, ?_⟩
  refine List.forall_mem_cons.mpr ⟨wl_23, ?_⟩
  refine List.forall_mem_cons.mpr ⟨wl_24, ?_⟩
  refine List.forall_mem_cons.mpr ⟨wl_25, ?_⟩
  refine List.forall_mem_cons.mpr ⟨wl_26, ?_⟩
  refine List.forall_mem_cons.mpr ⟨wl_27, ?_⟩
  refine List.forall_mem_cons.mpr ⟨wl_28, ?_⟩
  refine List.forall_mem_cons.mpr ⟨wl_29, ?_⟩
  refine List.forall_mem_cons.mpr ⟨wl_30, ?_⟩
  refine List.forall_mem_cons.mpr ⟨wl_31, ?_⟩
  refine List.forall_mem_cons.mpr ⟨wl_32, ?_⟩
  refine List.forall_mem_cons.mpr ⟨wl_33, ?_⟩
  refine List.forall_mem_cons.mpr ⟨wl_34, ?_⟩
  refine List.forall_mem_cons.mpr ⟨wl_35, ?_⟩
  refine List.forall_mem_cons.mpr ⟨wl_36, ?_⟩
  refine List.forall_mem_cons.mpr ⟨wl_37, ?_⟩
  refine List.forall_mem_cons.mpr ⟨wl_38, ?_⟩
  refine List.forall_mem_cons.mpr ⟨wl_39, ?_⟩
  refine List.forall_mem_cons.mpr ⟨wl_40, ?_⟩
  refine List.forall_mem_cons.mpr ⟨wl_41, ?_⟩
  refine List.forall_mem_cons.mpr ⟨wl_42, ?_⟩
  refine List.forall_mem_cons.mpr ⟨wl_43, ?_⟩
  refine List.forall_mem_cons.mpr ⟨wl_44, ?_⟩
  refine List.forall_mem_cons.mpr ⟨wl_45, ?_⟩
  refine List.forall_mem_cons.mpr ⟨wl_46, ?_⟩
  refine List.forall_mem_cons.mpr ⟨wl_47, ?_⟩
  refine List.forall_mem_cons.mpr ⟨wl_48, ?_⟩
  refine List.forall_mem_cons.mpr ⟨wl_49, ?_⟩
  refine List.forall_mem_cons.mpr ⟨wl_50, ?_⟩
  refine List.forall_mem_cons.mpr ⟨wl_51, ?_⟩
  refine List.forall_mem_cons.mpr ⟨wl_52, ?_⟩
  refine List.forall_mem_cons.mpr ⟨wl_53, ?_⟩
  refine List.forall_mem_cons.mpr ⟨wl_54, ?_⟩
  refine List.forall_mem_cons.mpr ⟨wl_55, ?_⟩
  refine List.forall_mem_cons.mpr ⟨wl_56, ?_⟩
  refine List.forall_mem_cons.mpr ⟨wl_57, ?_⟩
  refine List.forall_mem_cons.mpr ⟨wl_58, ?_⟩
  refine List.forall_mem_cons.mpr ⟨wl_59, ?_⟩
  refine List.forall_mem_cons.mpr ⟨wl_60, ?_⟩
  refine List.forall_mem_cons.mpr ⟨wl_61, ?_⟩
  refine List.forall_mem_cons.mpr ⟨wl_62, ?_⟩
  refine List.forall_mem_cons.mpr ⟨wl_63, ?_⟩
  refine List.forall_mem_cons.mpr ⟨wl_64, ?_⟩
  refine List.forall_mem_cons.mpr ⟨wl_65, ?_⟩
  refine List.forall_mem_cons.mpr ⟨wl_66, ?_⟩
  refine List.forall_mem_cons.mpr ⟨wl_67, ?_⟩
  refine List.forall_mem_cons.mpr ⟨wl_68, ?_⟩
  refine List.forall_mem_cons.mpr ⟨wl_69, ?_⟩
  refine List.forall_mem_cons.mpr ⟨wl_70, ?_⟩
  refine List.forall_mem_cons.mpr ⟨wl_71, ?_⟩
  refine List.forall_mem_cons.mpr ⟨wl_72, ?_⟩
  refine List.forall_mem_cons.mpr ⟨wl_73, ?_⟩
  refine List.forall_mem_cons.mpr ⟨wl_74, ?_⟩
  refine List.forall_mem_cons.mpr ⟨wl_75, ?_⟩
  refine List.forall_mem_cons.mpr ⟨wl_76, ?_⟩
  refine List.forall_mem_cons.mpr ⟨wl_77, ?_⟩
  refine List.forall_mem_cons.mpr ⟨wl_78, ?_⟩
  refine List.forall_mem_cons.mpr ⟨wl_79, ?_⟩
  refine List.forall_mem_cons.mpr ⟨wl_80, ?_⟩
  refine List.forall_mem_cons.mpr ⟨wl_81, ?_⟩
  refine List.forall_mem_cons.mpr ⟨wl_82, ?_⟩
  refine List.forall_mem_cons.mpr ⟨wl_83, ?_⟩
  refine List.forall_mem_cons.mpr ⟨wl_84, ?_⟩
  refine List.forall_mem_cons.mpr ⟨wl_85, ?_⟩
  refine List.forall_mem_cons.mpr ⟨wl_86, ?_⟩
  refine List.forall_mem_cons.mpr ⟨wl_87, ?_⟩
  refine List.forall_mem_cons.mpr ⟨wl_88, ?_⟩
  refine List.forall_mem_cons.mpr ⟨wl_89, ?_⟩
  exact fun _ h => absurd h List.not_mem_nil
theorem wk_0 : Cond.code y_xq_init b_xq_init 1 none ∈ lw_tbl := List.mem_append_right _ (show _ ∈ tables_1 from List.mem_append_left _ (List.mem_of_getElem? (i := 29) rfl))
theorem wk_1 : Cond.instanceMethod y_xq_init ∈ lw_tbl := List.mem_append_right _ (show _ ∈ tables_1 from List.mem_append_left _ (List.mem_of_getElem? (i := 28) rfl))
theorem wk_2 : Cond.initialized "WideMachine$Writes" ∈ lw_tbl := List.mem_append_right _ (show _ ∈ tables_1 from List.mem_append_left _ (List.mem_of_getElem? (i := 3) rfl))
theorem wk_3 : Cond.methodLink "WideMachine$Writes" 1 objectInit ∈ lw_tbl := List.mem_append_right _ (show _ ∈ tables_1 from List.mem_append_left _ (List.mem_of_getElem? (i := 30) rfl))
theorem wk_4 : Cond.instanceMethod objectInit ∈ lw_tbl := List.mem_append_right _ (show _ ∈ tables_1 from List.mem_append_left _ (List.mem_of_getElem? (i := 14) rfl))
theorem wk_5 : Cond.code objectInit ⟨#[0xb1]⟩ 1 none ∈ lw_tbl := List.mem_append_right _ (show _ ∈ tables_1 from List.mem_append_left _ (List.mem_of_getElem? (i := 15) rfl))
theorem wk_6 : Cond.arrayClass .int ∈ lw_tbl := List.mem_append_right _ (show _ ∈ tables_1 from List.mem_append_left _ (List.mem_of_getElem? (i := 48) rfl))
theorem wk_7 : Cond.fieldLink "WideMachine$Writes" 9 "WideMachine$Writes" "targets" "[I" ∈ lw_tbl := List.mem_append_right _ (show _ ∈ tables_1 from List.mem_append_left _ (List.mem_of_getElem? (i := 31) rfl))
theorem wk_8 : Cond.fieldLink "WideMachine$Writes" 13 "WideMachine$Writes" "values" "[I" ∈ lw_tbl := List.mem_append_right _ (show _ ∈ tables_1 from List.mem_append_left _ (List.mem_of_getElem? (i := 33) rfl))
theorem wk_9 : Cond.fieldLink "WideMachine$Writes" 16 "WideMachine$Writes" "times" "[I" ∈ lw_tbl := List.mem_append_right _ (show _ ∈ tables_1 from List.mem_append_left _ (List.mem_of_getElem? (i := 35) rfl))
theorem wk_10 : Cond.code y_xb_init b_xb_init 1 none ∈ lw_tbl := List.mem_append_right _ (show _ ∈ tables_1 from List.mem_append_left _ (List.mem_of_getElem? (i := 53) rfl))
theorem wk_11 : Cond.instanceMethod y_xb_init ∈ lw_tbl := List.mem_append_right _ (show _ ∈ tables_1 from List.mem_append_left _ (List.mem_of_getElem? (i := 52) rfl))
theorem wk_12 : Cond.initialized "WideMachine$Branches" ∈ lw_tbl := List.mem_append_right _ (show _ ∈ tables_1 from List.mem_append_left _ (List.mem_of_getElem? (i := 4) rfl))
theorem wk_13 : Cond.methodLink "WideMachine$Branches" 3 objectInit ∈ lw_tbl := List.mem_append_right _ (show _ ∈ tables_1 from List.mem_append_left _ (List.mem_of_getElem? (i := 54) rfl))
theorem wk_14 : Cond.fieldLink "WideMachine$Branches" 9 "WideMachine$Branches" "targets" "[I" ∈ lw_tbl := List.mem_append_right _ (show _ ∈ tables_1 from List.mem_append_left _ (List.mem_of_getElem? (i := 55) rfl))
theorem wk_15 : Cond.fieldLink "WideMachine$Branches" 13 "WideMachine$Branches" "times" "[I" ∈ lw_tbl := List.mem_append_right _ (show _ ∈ tables_1 from List.mem_append_left _ (List.mem_of_getElem? (i := 56) rfl))
theorem wk_16 : Cond.code y_xm_init b_xm_init 3 none ∈ lw_tbl := List.mem_append_right _ (show _ ∈ tables_1 from List.mem_append_left _ (List.mem_of_getElem? (i := 12) rfl))
theorem wk_17 : Cond.instanceMethod y_xm_init ∈ lw_tbl := List.mem_append_right _ (show _ ∈ tables_1 from List.mem_append_left _ (List.mem_of_getElem? (i := 11) rfl))
theorem wk_18 : Cond.initialized "WideMachine" ∈ lw_tbl := List.mem_append_right _ (show _ ∈ tables_1 from List.mem_append_left _ (List.mem_of_getElem? (i := 1) rfl))
theorem wk_19 : Cond.methodLink "WideMachine" 1 objectInit ∈ lw_tbl := List.mem_append_right _ (show _ ∈ tables_1 from List.mem_append_left _ (List.mem_of_getElem? (i := 13) rfl))
theorem wk_20 : Cond.code y_xm_nearestSize b_xm_nearestSize 1 (some .int) ∈ lw_tbl := List.mem_append_right _ (show _ ∈ tables_1 from List.mem_append_left _ (List.mem_of_getElem? (i := 18) rfl))
theorem wk_21 : Cond.methodLink "WideMachine" 7 y_xm_nearestSize ∈ lw_tbl := List.mem_append_right _ (show _ ∈ tables_1 from List.mem_append_left _ (List.mem_of_getElem? (i := 16) rfl))
theorem wk_22 : Cond.static y_xm_nearestSize ∈ lw_tbl := List.mem_append_right _ (show _ ∈ tables_1 from List.mem_append_left _ (List.mem_of_getElem? (i := 17) rfl))
theorem wk_23 : Cond.fieldLink "WideMachine" 13 "WideMachine" "program" "[I" ∈ lw_tbl := List.mem_append_right _ (show _ ∈ tables_1 from List.mem_append_left _ (List.mem_of_getElem? (i := 66) rfl))
theorem wk_24 : Cond.fieldLink "WideMachine" 17 "WideMachine" "data" "[I" ∈ lw_tbl := List.mem_append_right _ (show _ ∈ tables_1 from List.mem_append_left _ (List.mem_of_getElem? (i := 67) rfl))
theorem wk_25 : Cond.fieldLink "WideMachine" 20 "WideMachine" "registers" "[I" ∈ lw_tbl := List.mem_append_right _ (show _ ∈ tables_1 from List.mem_append_left _ (List.mem_of_getElem? (i := 68) rfl))
theorem wk_26 : Cond.classLink "WideMachine" 23 "WideMachine$Writes" ∈ lw_tbl := List.mem_append_right _ (show _ ∈ tables_1 from List.mem_append_left _ (List.mem_of_getElem? (i := 25) rfl))
theorem wk_27 : Cond.instantiable "WideMachine$Writes" 4 ∈ lw_tbl := List.mem_append_right _ (show _ ∈ tables_1 from List.mem_append_left _ (List.mem_of_getElem? (i := 26) rfl))
theorem wk_28 : Cond.fieldLink "WideMachine" 26 "WideMachine" "writes" "LWideMachine$Writes;" ∈ lw_tbl := List.mem_append_right _ (show _ ∈ tables_1 from List.mem_append_left _ (List.mem_of_getElem? (i := 69) rfl))
theorem wk_29 : Cond.classLink "WideMachine" 30 "WideMachine$Branches" ∈ lw_tbl := List.mem_append_right _ (show _ ∈ tables_1 from List.mem_append_left _ (List.mem_of_getElem? (i := 49) rfl))
theorem wk_30 : Cond.instantiable "WideMachine$Branches" 3 ∈ lw_tbl := List.mem_append_right _ (show _ ∈ tables_1 from List.mem_append_left _ (List.mem_of_getElem? (i := 50) rfl))
theorem wk_31 : Cond.fieldLink "WideMachine" 33 "WideMachine" "branches" "LWideMachine$Branches;" ∈ lw_tbl := List.mem_append_right _ (show _ ∈ tables_1 from List.mem_append_left _ (List.mem_of_getElem? (i := 70) rfl))
theorem wk_32 : Cond.code y_mm_init b_mm_init 3 none ∈ lw_tbl := List.mem_append_right _ (show _ ∈ tables_1 from List.mem_append_right _ (List.mem_append_left _ (List.mem_of_getElem? (i := 132) rfl)))
theorem wk_33 : Cond.instanceMethod y_mm_init ∈ lw_tbl := List.mem_append_right _ (show _ ∈ tables_1 from List.mem_append_right _ (List.mem_append_left _ (List.mem_of_getElem? (i := 131) rfl)))
theorem wk_34 : Cond.initialized "WideMachineModel" ∈ lw_tbl := List.mem_append_right _ (show _ ∈ tables_1 from List.mem_append_left _ (List.mem_of_getElem? (i := 5) rfl))
theorem wk_35 : Cond.methodLink "WideMachineModel" 1 objectInit ∈ lw_tbl := List.mem_append_right _ (show _ ∈ tables_1 from List.mem_append_right _ (List.mem_append_left _ (List.mem_of_getElem? (i := 133) rfl)))
theorem wk_36 : Cond.fieldLink "WideMachineModel" 7 "WideMachineModel" "program" "[I" ∈ lw_tbl := List.mem_append_right _ (show _ ∈ tables_1 from List.mem_append_right _ (List.mem_append_left _ (List.mem_of_getElem? (i := 137) rfl)))
theorem wk_37 : Cond.fieldLink "WideMachineModel" 13 "WideMachineModel" "data" "[I" ∈ lw_tbl := List.mem_append_right _ (show _ ∈ tables_1 from List.mem_append_right _ (List.mem_append_left _ (List.mem_of_getElem? (i := 138) rfl)))
theorem wk_38 : Cond.fieldLink "WideMachineModel" 16 "WideMachineModel" "registers" "[I" ∈ lw_tbl := List.mem_append_right _ (show _ ∈ tables_1 from List.mem_append_right _ (List.mem_append_left _ (List.mem_of_getElem? (i := 139) rfl)))
theorem wk_39 : Cond.fieldLink "WideMachineModel" 19 "WideMachineModel" "register" "[I" ∈ lw_tbl := List.mem_append_right _ (show _ ∈ tables_1 from List.mem_append_right _ (List.mem_append_left _ (List.mem_of_getElem? (i := 148) rfl)))
theorem wk_40 : Cond.fieldLink "WideMachineModel" 22 "WideMachineModel" "value" "[I" ∈ lw_tbl := List.mem_append_right _ (show _ ∈ tables_1 from List.mem_append_right _ (List.mem_append_left _ (List.mem_of_getElem? (i := 149) rfl)))
theorem wk_41 : Cond.fieldLink "WideMachineModel" 25 "WideMachineModel" "when" "[I" ∈ lw_tbl := List.mem_append_right _ (show _ ∈ tables_1 from List.mem_append_right _ (List.mem_append_left _ (List.mem_of_getElem? (i := 150) rfl)))
theorem wk_42 : Cond.fieldLink "WideMachineModel" 28 "WideMachineModel" "target" "[I" ∈ lw_tbl := List.mem_append_right _ (show _ ∈ tables_1 from List.mem_append_right _ (List.mem_append_left _ (List.mem_of_getElem? (i := 152) rfl)))
theorem wk_43 : Cond.fieldLink "WideMachineModel" 31 "WideMachineModel" "goes" "[I" ∈ lw_tbl := List.mem_append_right _ (show _ ∈ tables_1 from List.mem_append_right _ (List.mem_append_left _ (List.mem_of_getElem? (i := 153) rfl)))
theorem wk_44 : Cond.fieldLink "WideMachineModel" 34 "WideMachineModel" "where" "[I" ∈ lw_tbl := List.mem_append_right _ (show _ ∈ tables_1 from List.mem_append_right _ (List.mem_append_left _ (List.mem_of_getElem? (i := 155) rfl)))
theorem wk_45 : Cond.fieldLink "WideMachineModel" 37 "WideMachineModel" "what" "[I" ∈ lw_tbl := List.mem_append_right _ (show _ ∈ tables_1 from List.mem_append_right _ (List.mem_append_left _ (List.mem_of_getElem? (i := 156) rfl)))
theorem wk_46 : Cond.fieldLink "WideMachineModel" 40 "WideMachineModel" "words" "I" ∈ lw_tbl := List.mem_append_right _ (show _ ∈ tables_1 from List.mem_append_right _ (List.mem_append_left _ (List.mem_of_getElem? (i := 135) rfl)))
theorem wk_47 : Cond.fieldLink "WideMachineModel" 44 "WideMachineModel" "size" "I" ∈ lw_tbl := List.mem_append_right _ (show _ ∈ tables_1 from List.mem_append_right _ (List.mem_append_left _ (List.mem_of_getElem? (i := 136) rfl)))
theorem wk_48 : Cond.methodLink "WideMachine" 87 Lib.Math.min.name ∈ lw_tbl := List.mem_append_right _ (show _ ∈ tables_1 from List.mem_append_left _ (List.mem_of_getElem? (i := 19) rfl))
theorem wk_49 : Cond.static Lib.Math.min.name ∈ lw_tbl := List.mem_append_right _ (show _ ∈ tables_1 from List.mem_append_left _ (List.mem_of_getElem? (i := 20) rfl))
theorem wk_50 : Cond.initialized "java/lang/Math" ∈ lw_tbl := List.mem_append_right _ (show _ ∈ tables_1 from List.mem_append_left _ (List.mem_of_getElem? (i := 2) rfl))
theorem wk_51 : Cond.code Lib.Math.min.name Lib.Math.min.code 2 (some .int) ∈ lw_tbl := List.mem_append_right _ (show _ ∈ tables_1 from List.mem_append_left _ (List.mem_of_getElem? (i := 21) rfl))
theorem wk_52 : Cond.methodLink "WideMachine" 93 Lib.Math.max.name ∈ lw_tbl := List.mem_append_right _ (show _ ∈ tables_1 from List.mem_append_left _ (List.mem_of_getElem? (i := 22) rfl))
theorem wk_53 : Cond.static Lib.Math.max.name ∈ lw_tbl := List.mem_append_right _ (show _ ∈ tables_1 from List.mem_append_left _ (List.mem_of_getElem? (i := 23) rfl))
theorem wk_54 : Cond.code Lib.Math.max.name Lib.Math.max.code 2 (some .int) ∈ lw_tbl := List.mem_append_right _ (show _ ∈ tables_1 from List.mem_append_left _ (List.mem_of_getElem? (i := 24) rfl))
set_option maxRecDepth 100000 in
set_option maxHeartbeats 4000000 in
theorem vw_K_in : ∀ w ∈ vw_K, w ∈ lw_tbl := by
  refine List.forall_mem_cons.mpr ⟨wk_0, ?_⟩
  refine List.forall_mem_cons.mpr ⟨wk_1, ?_⟩
  refine List.forall_mem_cons.mpr ⟨wk_2, ?_⟩
  refine List.forall_mem_cons.mpr ⟨wk_3, ?_⟩
  refine List.forall_mem_cons.mpr ⟨wk_4, ?_⟩
  refine List.forall_mem_cons.mpr ⟨wk_5, ?_⟩
  refine List.forall_mem_cons.mpr ⟨wk_6, ?_⟩
  refine List.forall_mem_cons.mpr ⟨wk_7, ?_⟩
  refine List.forall_mem_cons.mpr ⟨wk_8, ?_⟩
  refine List.forall_mem_cons.mpr ⟨wk_9, ?_⟩
  refine List.forall_mem_cons.mpr ⟨wk_10, ?_⟩
  refine List.forall_mem_cons.mpr ⟨wk_11, ?_⟩
  refine List.forall_mem_cons.mpr ⟨wk_12, ?_⟩
  refine List.forall_mem_cons.mpr ⟨wk_13, ?_⟩
  refine List.forall_mem_cons.mpr ⟨wk_14, ?_⟩
  refine List.forall_mem_cons.mpr ⟨wk_15, ?_⟩
  refine List.forall_mem_cons.mpr ⟨wk_16, ?_⟩
  refine List.forall_mem_cons.mpr ⟨wk_17, ?_⟩
  refine List.forall_mem_cons.mpr ⟨wk_18, ?_⟩
  refine List.forall_mem_cons.mpr ⟨wk_19, ?_⟩
  refine List.forall_mem_cons.mpr ⟨wk_20, ?_⟩
  refine List.forall_mem_cons.mpr ⟨wk_21, ?_⟩
  refine List.forall_mem_cons.mpr ⟨wk_22, ?_⟩
  refine List.forall_mem_cons.mpr ⟨wk_23, ?_⟩
  refine List.forall_mem_cons.mpr ⟨wk_24, ?_⟩
  refine List.forall_mem_cons.mpr ⟨wk_25, ?_⟩
  refine List.forall_mem_cons.mpr ⟨wk_26, ?_⟩
  refine List.forall_mem_cons.mpr ⟨wk_27, ?_⟩
  refine List.forall_mem_cons.mpr ⟨wk_28, ?_⟩
  refine List.forall_mem_cons.mpr ⟨wk_29, ?_⟩
  refine List.forall_mem_cons.mpr ⟨wk_30, ?_⟩
  refine List.forall_mem_cons.mpr ⟨wk_31, ?_⟩
  refine List.forall_mem_cons.mpr ⟨wk_32, ?_⟩
  refine List.forall_mem_cons.mpr ⟨wk_33, ?_⟩
  refine List.forall_mem_cons.mpr ⟨wk_34, ?_⟩
  refine List.forall_mem_cons.mpr ⟨wk_35, ?_⟩
  refine List.forall_mem_cons.mpr ⟨wk_36, ?_⟩
  refine List.forall_mem_cons.mpr ⟨wk_37, ?_⟩
  refine List.forall_mem_cons.mpr ⟨wk_38, ?_⟩
  refine List.forall_mem_cons.mpr ⟨wk_39, ?_⟩
  refine List.forall_mem_cons.mpr ⟨wk_40, ?_⟩
  refine List.forall_mem_cons.mpr ⟨wk_41, ?_⟩
  refine List.forall_mem_cons.mpr ⟨wk_42, ?_⟩
  refine List.forall_mem_cons.mpr ⟨wk_43, ?_⟩
  refine List.forall_mem_cons.mpr ⟨wk_44, ?_⟩
  refine List.forall_mem_cons.mpr ⟨wk_45, ?_⟩
  refine List.forall_mem_cons.mpr ⟨wk_46, ?_⟩
  refine List.forall_mem_cons.mpr ⟨wk_47, ?_⟩
  refine List.forall_mem_cons.mpr ⟨wk_48, ?_⟩
  refine List.forall_mem_cons.mpr ⟨wk_49, ?_⟩
  refine List.forall_mem_cons.mpr ⟨wk_50, ?_⟩
  refine List.forall_mem_cons.mpr ⟨wk_51, ?_⟩
  refine List.forall_mem_cons.mpr ⟨wk_52, ?_⟩
  refine List.forall_mem_cons.mpr ⟨wk_53, ?_⟩
  refine List.forall_mem_cons.mpr ⟨wk_54, ?_⟩
  exact fun _ h => absurd h List.not_mem_nil
