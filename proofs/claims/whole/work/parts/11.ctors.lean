/-! the constructors -/
def vw_K : List Cond := [
  .code y_xq_init b_xq_init 1 none,
  .instanceMethod y_xq_init,
  .initialized "WideMachine$Writes",
  .methodLink "WideMachine$Writes" 1 objectInit,
  .instanceMethod objectInit,
  .code objectInit ⟨#[0xb1]⟩ 1 none,
  .arrayClass .int,
  .fieldLink "WideMachine$Writes" 9 "WideMachine$Writes" "targets" "[I",
  .fieldLink "WideMachine$Writes" 13 "WideMachine$Writes" "values" "[I",
  .fieldLink "WideMachine$Writes" 16 "WideMachine$Writes" "times" "[I",
  .code y_xb_init b_xb_init 1 none,
  .instanceMethod y_xb_init,
  .initialized "WideMachine$Branches",
  .methodLink "WideMachine$Branches" 3 objectInit,
  .fieldLink "WideMachine$Branches" 9 "WideMachine$Branches" "targets" "[I",
  .fieldLink "WideMachine$Branches" 13 "WideMachine$Branches" "times" "[I",
  .code y_xm_init b_xm_init 3 none,
  .instanceMethod y_xm_init,
  .initialized "WideMachine",
  .methodLink "WideMachine" 1 objectInit,
  .code y_xm_nearestSize b_xm_nearestSize 1 (some .int),
  .methodLink "WideMachine" 7 y_xm_nearestSize,
  .static y_xm_nearestSize,
  .fieldLink "WideMachine" 13 "WideMachine" "program" "[I",
  .fieldLink "WideMachine" 17 "WideMachine" "data" "[I",
  .fieldLink "WideMachine" 20 "WideMachine" "registers" "[I",
  .classLink "WideMachine" 23 "WideMachine$Writes",
  .instantiable "WideMachine$Writes" 4,
  .fieldLink "WideMachine" 26 "WideMachine" "writes" "LWideMachine$Writes;",
  .classLink "WideMachine" 30 "WideMachine$Branches",
  .instantiable "WideMachine$Branches" 3,
  .fieldLink "WideMachine" 33 "WideMachine" "branches" "LWideMachine$Branches;",
  .code y_mm_init b_mm_init 3 none,
  .instanceMethod y_mm_init,
  .initialized "WideMachineModel",
  .methodLink "WideMachineModel" 1 objectInit,
  .fieldLink "WideMachineModel" 7 "WideMachineModel" "program" "[I",
  .fieldLink "WideMachineModel" 13 "WideMachineModel" "data" "[I",
  .fieldLink "WideMachineModel" 16 "WideMachineModel" "registers" "[I",
  .fieldLink "WideMachineModel" 19 "WideMachineModel" "register" "[I",
  .fieldLink "WideMachineModel" 22 "WideMachineModel" "value" "[I",
  .fieldLink "WideMachineModel" 25 "WideMachineModel" "when" "[I",
  .fieldLink "WideMachineModel" 28 "WideMachineModel" "target" "[I",
  .fieldLink "WideMachineModel" 31 "WideMachineModel" "goes" "[I",
  .fieldLink "WideMachineModel" 34 "WideMachineModel" "where" "[I",
  .fieldLink "WideMachineModel" 37 "WideMachineModel" "what" "[I",
  .fieldLink "WideMachineModel" 40 "WideMachineModel" "words" "I",
  .fieldLink "WideMachineModel" 44 "WideMachineModel" "size" "I",
  .methodLink "WideMachine" 87 Lib.Math.min.name,
  .static Lib.Math.min.name,
  .initialized "java/lang/Math",
  .code Lib.Math.min.name Lib.Math.min.code 2 (some .int),
  .methodLink "WideMachine" 93 Lib.Math.max.name,
  .static Lib.Math.max.name,
  .code Lib.Math.max.name Lib.Math.max.code 2 (some .int)]
def vw_Q : List Cond := vw_K ++ vw_T
theorem goodIn_all {ws : List Cond} (h : ws.all goodWord = true) : GoodIn ws ws := fun w hw => ⟨hw, good_of_word (List.all_eq_true.mp h w hw)⟩
theorem vk_0 : Cond.code y_xq_init b_xq_init 1 none ∈ vw_Q := List.mem_append_left _ (List.mem_of_getElem? (i := 0) rfl)
theorem vk_1 : Cond.instanceMethod y_xq_init ∈ vw_Q := List.mem_append_left _ (List.mem_of_getElem? (i := 1) rfl)
theorem vk_2 : Cond.initialized "WideMachine$Writes" ∈ vw_Q := List.mem_append_left _ (List.mem_of_getElem? (i := 2) rfl)
theorem vk_3 : Cond.methodLink "WideMachine$Writes" 1 objectInit ∈ vw_Q := List.mem_append_left _ (List.mem_of_getElem? (i := 3) rfl)
theorem vk_4 : Cond.instanceMethod objectInit ∈ vw_Q := List.mem_append_left _ (List.mem_of_getElem? (i := 4) rfl)
theorem vk_5 : Cond.code objectInit ⟨#[0xb1]⟩ 1 none ∈ vw_Q := List.mem_append_left _ (List.mem_of_getElem? (i := 5) rfl)
theorem vk_6 : Cond.arrayClass .int ∈ vw_Q := List.mem_append_left _ (List.mem_of_getElem? (i := 6) rfl)
theorem vk_7 : Cond.fieldLink "WideMachine$Writes" 9 "WideMachine$Writes" "targets" "[I" ∈ vw_Q := List.mem_append_left _ (List.mem_of_getElem? (i := 7) rfl)
theorem vk_8 : Cond.fieldLink "WideMachine$Writes" 13 "WideMachine$Writes" "values" "[I" ∈ vw_Q := List.mem_append_left _ (List.mem_of_getElem? (i := 8) rfl)
theorem vk_9 : Cond.fieldLink "WideMachine$Writes" 16 "WideMachine$Writes" "times" "[I" ∈ vw_Q := List.mem_append_left _ (List.mem_of_getElem? (i := 9) rfl)
theorem vk_10 : Cond.code y_xb_init b_xb_init 1 none ∈ vw_Q := List.mem_append_left _ (List.mem_of_getElem? (i := 10) rfl)
theorem vk_11 : Cond.instanceMethod y_xb_init ∈ vw_Q := List.mem_append_left _ (List.mem_of_getElem? (i := 11) rfl)
theorem vk_12 : Cond.initialized "WideMachine$Branches" ∈ vw_Q := List.mem_append_left _ (List.mem_of_getElem? (i := 12) rfl)
theorem vk_13 : Cond.methodLink "WideMachine$Branches" 3 objectInit ∈ vw_Q := List.mem_append_left _ (List.mem_of_getElem? (i := 13) rfl)
theorem vk_14 : Cond.fieldLink "WideMachine$Branches" 9 "WideMachine$Branches" "targets" "[I" ∈ vw_Q := List.mem_append_left _ (List.mem_of_getElem? (i := 14) rfl)
theorem vk_15 : Cond.fieldLink "WideMachine$Branches" 13 "WideMachine$Branches" "times" "[I" ∈ vw_Q := List.mem_append_left _ (List.mem_of_getElem? (i := 15) rfl)
theorem vk_16 : Cond.code y_xm_init b_xm_init 3 none ∈ vw_Q := List.mem_append_left _ (List.mem_of_getElem? (i := 16) rfl)
theorem vk_17 : Cond.instanceMethod y_xm_init ∈ vw_Q := List.mem_append_left _ (List.mem_of_getElem? (i := 17) rfl)
theorem vk_18 : Cond.initialized "WideMachine" ∈ vw_Q := List.mem_append_left _ (List.mem_of_getElem? (i := 18) rfl)
theorem vk_19 : Cond.methodLink "WideMachine" 1 objectInit ∈ vw_Q := List.mem_append_left _ (List.mem_of_getElem? (i := 19) rfl)
theorem vk_20 : Cond.code y_xm_nearestSize b_xm_nearestSize 1 (some .int) ∈ vw_Q := List.mem_append_left _ (List.mem_of_getElem? (i := 20) rfl)
theorem vk_21 : Cond.methodLink "WideMachine" 7 y_xm_nearestSize ∈ vw_Q := List.mem_append_left _ (List.mem_of_getElem? (i := 21) rfl)
theorem vk_22 : Cond.static y_xm_nearestSize ∈ vw_Q := List.mem_append_left _ (List.mem_of_getElem? (i := 22) rfl)
theorem vk_23 : Cond.fieldLink "WideMachine" 13 "WideMachine" "program" "[I" ∈ vw_Q := List.mem_append_left _ (List.mem_of_getElem? (i := 23) rfl)
theorem vk_24 : Cond.fieldLink "WideMachine" 17 "WideMachine" "data" "[I" ∈ vw_Q := List.mem_append_left _ (List.mem_of_getElem? (i := 24) rfl)
theorem vk_25 : Cond.fieldLink "WideMachine" 20 "WideMachine" "registers" "[I" ∈ vw_Q := List.mem_append_left _ (List.mem_of_getElem? (i := 25) rfl)
theorem vk_26 : Cond.classLink "WideMachine" 23 "WideMachine$Writes" ∈ vw_Q := List.mem_append_left _ (List.mem_of_getElem? (i := 26) rfl)
theorem vk_27 : Cond.instantiable "WideMachine$Writes" 4 ∈ vw_Q := List.mem_append_left _ (List.mem_of_getElem? (i := 27) rfl)
theorem vk_28 : Cond.fieldLink "WideMachine" 26 "WideMachine" "writes" "LWideMachine$Writes;" ∈ vw_Q := List.mem_append_left _ (List.mem_of_getElem? (i := 28) rfl)
theorem vk_29 : Cond.classLink "WideMachine" 30 "WideMachine$Branches" ∈ vw_Q := List.mem_append_left _ (List.mem_of_getElem? (i := 29) rfl)
theorem vk_30 : Cond.instantiable "WideMachine$Branches" 3 ∈ vw_Q := List.mem_append_left _ (List.mem_of_getElem? (i := 30) rfl)
theorem vk_31 : Cond.fieldLink "WideMachine" 33 "WideMachine" "branches" "LWideMachine$Branches;" ∈ vw_Q := List.mem_append_left _ (List.mem_of_getElem? (i := 31) rfl)
theorem vk_32 : Cond.code y_mm_init b_mm_init 3 none ∈ vw_Q := List.mem_append_left _ (List.mem_of_getElem? (i := 32) rfl)
theorem vk_33 : Cond.instanceMethod y_mm_init ∈ vw_Q := List.mem_append_left _ (List.mem_of_getElem? (i := 33) rfl)
theorem vk_34 : Cond.initialized "WideMachineModel" ∈ vw_Q := List.mem_append_left _ (List.mem_of_getElem? (i := 34) rfl)
theorem vk_35 : Cond.methodLink "WideMachineModel" 1 objectInit ∈ vw_Q := List.mem_append_left _ (List.mem_of_getElem? (i := 35) rfl)
theorem vk_36 : Cond.fieldLink "WideMachineModel" 7 "WideMachineModel" "program" "[I" ∈ vw_Q := List.mem_append_left _ (List.mem_of_getElem? (i := 36) rfl)
theorem vk_37 : Cond.fieldLink "WideMachineModel" 13 "WideMachineModel" "data" "[I" ∈ vw_Q := List.mem_append_left _ (List.mem_of_getElem? (i := 37) rfl)
theorem vk_38 : Cond.fieldLink "WideMachineModel" 16 "WideMachineModel" "registers" "[I" ∈ vw_Q := List.mem_append_left _ (List.mem_of_getElem? (i := 38) rfl)
theorem vk_39 : Cond.fieldLink "WideMachineModel" 19 "WideMachineModel" "register" "[I" ∈ vw_Q := List.mem_append_left _ (List.mem_of_getElem? (i := 39) rfl)
theorem vk_40 : Cond.fieldLink "WideMachineModel" 22 "WideMachineModel" "value" "[I" ∈ vw_Q := List.mem_append_left _ (List.mem_of_getElem? (i := 40) rfl)
theorem vk_41 : Cond.fieldLink "WideMachineModel" 25 "WideMachineModel" "when" "[I" ∈ vw_Q := List.mem_append_left _ (List.mem_of_getElem? (i := 41) rfl)
theorem vk_42 : Cond.fieldLink "WideMachineModel" 28 "WideMachineModel" "target" "[I" ∈ vw_Q := List.mem_append_left _ (List.mem_of_getElem? (i := 42) rfl)
theorem vk_43 : Cond.fieldLink "WideMachineModel" 31 "WideMachineModel" "goes" "[I" ∈ vw_Q := List.mem_append_left _ (List.mem_of_getElem? (i := 43) rfl)
theorem vk_44 : Cond.fieldLink "WideMachineModel" 34 "WideMachineModel" "where" "[I" ∈ vw_Q := List.mem_append_left _ (List.mem_of_getElem? (i := 44) rfl)
theorem vk_45 : Cond.fieldLink "WideMachineModel" 37 "WideMachineModel" "what" "[I" ∈ vw_Q := List.mem_append_left _ (List.mem_of_getElem? (i := 45) rfl)
theorem vk_46 : Cond.fieldLink "WideMachineModel" 40 "WideMachineModel" "words" "I" ∈ vw_Q := List.mem_append_left _ (List.mem_of_getElem? (i := 46) rfl)
theorem vk_47 : Cond.fieldLink "WideMachineModel" 44 "WideMachineModel" "size" "I" ∈ vw_Q := List.mem_append_left _ (List.mem_of_getElem? (i := 47) rfl)
theorem vk_48 : Cond.methodLink "WideMachine" 87 Lib.Math.min.name ∈ vw_Q := List.mem_append_left _ (List.mem_of_getElem? (i := 48) rfl)
theorem vk_49 : Cond.static Lib.Math.min.name ∈ vw_Q := List.mem_append_left _ (List.mem_of_getElem? (i := 49) rfl)
theorem vk_50 : Cond.initialized "java/lang/Math" ∈ vw_Q := List.mem_append_left _ (List.mem_of_getElem? (i := 50) rfl)
theorem vk_51 : Cond.code Lib.Math.min.name Lib.Math.min.code 2 (some .int) ∈ vw_Q := List.mem_append_left _ (List.mem_of_getElem? (i := 51) rfl)
theorem vk_52 : Cond.methodLink "WideMachine" 93 Lib.Math.max.name ∈ vw_Q := List.mem_append_left _ (List.mem_of_getElem? (i := 52) rfl)
theorem vk_53 : Cond.static Lib.Math.max.name ∈ vw_Q := List.mem_append_left _ (List.mem_of_getElem? (i := 53) rfl)
theorem vk_54 : Cond.code Lib.Math.max.name Lib.Math.max.code 2 (some .int) ∈ vw_Q := List.mem_append_left _ (List.mem_of_getElem? (i := 54) rfl)
theorem uk_0 : ∀ w ∈ u_ws "WideMachine" ff_0 12, w ∈ vw_Q := fun w h => List.mem_append_right _ (ui_0 w h)
theorem uk_1 : ∀ w ∈ u_ws "WideMachine$Writes" ff_1 4, w ∈ vw_Q := fun w h => List.mem_append_right _ (ui_1 w h)
theorem uk_2 : ∀ w ∈ u_ws "WideMachine$Branches" ff_2 3, w ∈ vw_Q := fun w h => List.mem_append_right _ (ui_2 w h)
theorem uk_3 : ∀ w ∈ u_ws "WideMachineModel" ff_3 23, w ∈ vw_Q := fun w h => List.mem_append_right _ (ui_3 w h)
theorem vw_KG : GoodIn vw_Q vw_Q := goodIn_all (by decide +kernel)
theorem ck_good {y : MethodName} {bytes : ByteArray} {maxL : Nat} {rt : Option FieldType} (h : Cond.code y bytes maxL rt ∈ vw_Q) : GoodIn vw_Q (Cond.code y bytes maxL rt :: vw_Q) := mx_good vw_KG h
def mx_0 : mx_S := (fun _ _ => 0, fun _ _ => 0)
def ml_near (a : Int32) : Int32 := if 16 < (if a < 256 then a else 256) then (if a < 256 then a else 256) else 16
/-- a size asked for, and the one that is given -/
def ml_is (a : Int32) (n : Nat) : Prop := ∃ r : Int32, r = ml_near a ∧ ¬ r < 0 ∧ r.toNatClampNeg = n ∧ n ≤ 256
def ml_clamp (a : Int32) : Int32 := if 16 ≤ a then (if a ≤ 256 then a else 256) else 16
theorem ml_clamp_lo {a : Int32} (h : ¬ 16 ≤ a) : 16 = ml_clamp a := (if_neg h).symm
theorem ml_clamp_hi {a : Int32} (h : 16 ≤ a) (h2 : ¬ a ≤ 256) : 256 = ml_clamp a := ((if_pos h).trans (if_neg h2)).symm
theorem ml_clamp_in {a : Int32} (h : 16 ≤ a) (h2 : a ≤ 256) : a = ml_clamp a := ((if_pos h).trans (if_pos h2)).symm
theorem ml_near_b (a : Int32) : 16 ≤ (ml_near a).toInt ∧ (ml_near a).toInt ≤ 256 := by
  unfold ml_near
  by_cases h1 : a < 256
  · rw [if_pos h1]
    by_cases h2 : 16 < a
    · rw [if_pos h2]
      rw [Int32.lt_iff_toInt_lt] at h1 h2
      have e1 : (256 : Int32).toInt = 256 := by decide
      have e2 : (16 : Int32).toInt = 16 := by decide
      omega
    · rw [if_neg h2]
      decide
  · rw [if_neg h1]
    decide
theorem ml_near_n (a : Int32) {r : Int32} (h : r = ml_near a) : ∃ n : Nat, r = ml_near a ∧ ¬ r < 0 ∧ r.toNatClampNeg = n ∧ n ≤ 256 := by
  have hb := ml_near_b a
  rw [← h] at hb
  refine ⟨r.toNatClampNeg, h, ?_, rfl, ?_⟩
  · rw [Int32.lt_iff_toInt_lt, Int32.toInt_zero]
    omega
  · show r.toInt.toNat ≤ 256
    omega
set_option maxRecDepth 100000 in
set_option maxHeartbeats 4000000 in
theorem c_near (l : Launch) (a : Int32) : Met l y_xm_nearestSize (.code y_xm_nearestSize b_xm_nearestSize 1 (some .int) :: vw_Q) { frames := 1, cells := 0, slots := 0, locals := 21 } (va_Pc [.int a] (fun _ => True)) (vp_Si (fun r => r = ml_near a)) 0 0 (fun _ => False) := by
  refine Met.ofW (cc := b_xm_nearestSize) (maxL := 1) (ret := some .int) (by decide) rfl ?_
  intro p e s m args below meth c s₁ B hml hv
  obtain ⟨rfl, -⟩ := hv
  have hx := B.exec
  have hb := B.bytes
  have hr := B.returns
  have hts0 := atoms_spec (ws := .code y_xm_nearestSize b_xm_nearestSize 1 (some .int) :: vw_Q) B.pre
  have hts : ∀ w ∈ vw_Q, w.before _ s = true := fun w hw => hts0 w (List.mem_cons_of_mem _ hw)
  have hown : s.vm.findClass "WideMachine" = some m.cls := findClass_of_methodNamed B.named
  have hlocks := B.notSynchronized
  have hl := lv_entry ([.int a]) (n := 1) (Nat.le_of_ble_eq_true rfl)
  rw [lg_entry_eq]
  generalize (lg_sl ([.int a]) ++ List.replicate (1 - (lg_sl ([.int a])).length) Slot.unset).toArray = ls at hl ⊢
  have hl : lv_has ls 1 [(0, .int a)] := hl
  refine lv_bipush (v := 16) hx hb (show decode b_xm_nearestSize 0 = .ok (.bipush 16, 2) by decide +kernel) (by decide) ?_
  refine lv_sipush (v := 256) hx hb (show decode b_xm_nearestSize 2 = .ok (.sipush 256, 3) by decide +kernel) (by decide) ?_
  refine lv_iload_n hx hb (show decode b_xm_nearestSize 5 = .ok (.iload_n 0, 1) by decide +kernel) rfl (lv_at hl 0 rfl) ?_
  refine va_mmin hx hb (hml.trans hl.1.symm) hown (hts _ vk_48) (hts _ vk_49) (hts _ vk_50) (hts _ vk_51) (Nat.le_of_ble_eq_true rfl) (Nat.le_of_ble_eq_true rfl) (Nat.zero_le _) (Nat.zero_le _) (show decode b_xm_nearestSize 6 = .ok (.invokestatic 87, 3) by decide +kernel) ?_
  refine va_mmax hx hb (hml.trans hl.1.symm) hown (hts _ vk_52) (hts _ vk_53) (hts _ vk_50) (hts _ vk_54) (Nat.le_of_ble_eq_true rfl) (Nat.le_of_ble_eq_true rfl) (Nat.zero_le _) (Nat.zero_le _) (show decode b_xm_nearestSize 9 = .ok (.invokestatic 93, 3) by decide +kernel) ?_
  exact W.iret hx hb hr (fun t ht hW => ⟨_, rfl, rfl, ht⟩) (fun q h => by cases h) (show decode b_xm_nearestSize 12 = .ok (.ireturn, 1) by decide +kernel)
set_option maxRecDepth 100000 in
set_option maxHeartbeats 4000000 in
theorem ci_xq_init (l : Launch) (D : va_G) (cA : ClassId) (h0 sz : Nat) : Met l y_xq_init (.code y_xq_init b_xq_init 1 none :: vw_Q) { frames := 1, cells := 3, slots := 54, locals := 12 } (va_Pc [.ref h0] (fun U => U.heap.size = sz ∧ va_P D vw_cl [(h0, .inr (1, [.null, .null, .null, .int 0]))] U.heap ∧ va_K D vw_cl [(cA, .int)] U ∧ va_D (fun _ => True) [(h0, .inr (1, [.null, .null, .null, .int 0]))])) (va_Qv (fun _ : Nat × Nat × Nat => True) (fun u t => va_P D vw_cl [(h0, .inr (1, [.ref u.1, .ref u.2.1, .ref u.2.2, .int 0])), (u.1, .inl (cA, 18, .inl (fun _ => 0))), (u.2.1, .inl (cA, 18, .inl (fun _ => 0))), (u.2.2, .inl (cA, 18, .inl (fun _ => 0)))] t.heap ∧ va_D (va_A [(h0, .inr (1, [.null, .null, .null, .int 0]))] sz) [(h0, .inr (1, [.ref u.1, .ref u.2.1, .ref u.2.2, .int 0])), (u.1, .inl (cA, 18, .inl (fun _ => 0))), (u.2.1, .inl (cA, 18, .inl (fun _ => 0))), (u.2.2, .inl (cA, 18, .inl (fun _ => 0)))]) (va_A [(h0, .inr (1, [.null, .null, .null, .int 0]))] sz)) 3 54 (va_A [(h0, .inr (1, [.null, .null, .null, .int 0]))] sz) := by
  refine Met.ofW (cc := b_xq_init) (maxL := 1) (ret := none) (by decide) rfl ?_
  intro p e s m args below meth c s₁ B hml hv
  obtain ⟨rfl, hsz, hP, hK, hD0⟩ := hv
  have hx := B.exec
  have hb := B.bytes
  have hr := B.returns
  have hts0 := atoms_spec (ws := .code y_xq_init b_xq_init 1 none :: vw_Q) B.pre
  have hts : ∀ w ∈ vw_Q, w.before _ s = true := fun w hw => hts0 w (List.mem_cons_of_mem _ hw)
  have hown : s.vm.findClass "WideMachine$Writes" = some m.cls := findClass_of_methodNamed B.named
  have hlocks := B.notSynchronized
  have hin : meth.name = "<init>" := (name_of_methodNamed B.named B.method).1
  subst hsz
  have hD := hD0.self (sz := s.heap.size)
  generalize hAe : va_A [(h0, .inr (1, [.null, .null, .null, .int 0]))] s.heap.size = A at hD ⊢
  have hA : ∀ q : Nat, s.heap.size ≤ q → A q := fun q h => by rw [← hAe]; exact Or.inr h
  have hS : va_S A s.heap s.heap [] := va_S.rf
  have hl := lv_entry ([.ref h0]) (n := 1) (Nat.le_of_ble_eq_true rfl)
  rw [lg_entry_eq]
  generalize (lg_sl ([.ref h0]) ++ List.replicate (1 - (lg_sl ([.ref h0])).length) Slot.unset).toArray = ls at hl ⊢
  have hl : lv_has ls 1 [(0, .ref h0)] := hl
  refine lv_aload_n hx hb (show decode b_xq_init 0 = .ok (.aload_n 0, 1) by decide +kernel) rfl (lv_at hl 0 rfl) ?_
  refine W.objInit hx hb hown (hts _ vk_3) (hts _ vk_4) (hts _ vk_5) rfl (by rw [hml]; exact hl.1) rfl (show decode b_xq_init 1 = .ok (.invokespecial 1, 3) by decide +kernel) (Nat.le_of_ble_eq_true rfl) (Nat.le_of_ble_eq_true rfl) ?_
  refine W.eq (g2 := F0 m 4 ls []) rfl ?_
  refine lv_aload_n hx hb (show decode b_xq_init 4 = .ok (.aload_n 0, 1) by decide +kernel) rfl (lv_at hl 0 rfl) ?_
  refine lv_bipush (v := 18) hx hb (show decode b_xq_init 5 = .ok (.bipush 18, 2) by decide +kernel) (by decide) ?_
  refine va_newa (atype := .int) (a0 := (18, .inl (fun _ => 0))) (N' := 18) hx hb (hts _ vk_6) rfl hK hP hD hS hA (fun _ => rfl) (by decide) (by decide) (by decide) (by show _ ≤ 3; omega) (by show _ ≤ 54; omega) (show decode b_xq_init 7 = .ok (.newarray .int, 2) by decide +kernel) (fun q7 cA' H hK1 hP hD hS => ?_)
  have ecA : cA = cA' := Option.some.inj ((hK1.2 0 _ rfl).2.symm.trans (hK1.2 1 _ rfl).2)
  subst ecA
  have hP : va_P D vw_cl [(h0, .inr (1, [.null, .null, .null, .int 0])), (q7, .inl (cA, 18, .inl (fun _ => 0)))] H := hP
  have hD : va_D A [(h0, .inr (1, [.null, .null, .null, .int 0])), (q7, .inl (cA, 18, .inl (fun _ => 0)))] := hD
  refine W.widen (k := 1) (n := 0 + 18) (by omega) (by omega) ?_
  refine va_putF (D := D) (ci := 1) (v := .ref q7) (ty := .array .int) (C := "WideMachine$Writes") (T := ff_1) (N := 4) hx hb hts uk_1 ft_1 fo_1 fn_1 hown hK hP hD hS 0 rfl rfl 0 (by decide) (hts _ vk_7) (fun _ h9 => h9) rfl hin rfl (by decide +kernel) rfl rfl (Nat.le_of_ble_eq_true rfl) (show decode b_xq_init 9 = .ok (.putfield 9, 3) by decide +kernel) (fun H locs hP hD hS => ?_)
  have hP : va_P D vw_cl [(h0, .inr (1, [.ref q7, .null, .null, .int 0])), (q7, .inl (cA, 18, .inl (fun _ => 0)))] H := hP
  have hD : va_D A [(h0, .inr (1, [.ref q7, .null, .null, .int 0])), (q7, .inl (cA, 18, .inl (fun _ => 0)))] := hD
  refine lv_aload_n hx hb (show decode b_xq_init 12 = .ok (.aload_n 0, 1) by decide +kernel) rfl (lv_at hl 0 rfl) ?_
  refine lv_bipush (v := 18) hx hb (show decode b_xq_init 13 = .ok (.bipush 18, 2) by decide +kernel) (by decide) ?_
  refine va_newa (atype := .int) (a0 := (18, .inl (fun _ => 0))) (N' := 18) hx hb (hts _ vk_6) rfl hK hP hD hS hA (fun _ => rfl) (by decide) (by decide) (by decide) (by show _ ≤ 3; omega) (by show _ ≤ 54; omega) (show decode b_xq_init 15 = .ok (.newarray .int, 2) by decide +kernel) (fun q15 cA' H hK1 hP hD hS => ?_)
  have ecA : cA = cA' := Option.some.inj ((hK1.2 0 _ rfl).2.symm.trans (hK1.2 1 _ rfl).2)
  subst ecA
  have hP : va_P D vw_cl [(h0, .inr (1, [.ref q7, .null, .null, .int 0])), (q7, .inl (cA, 18, .inl (fun _ => 0))), (q15, .inl (cA, 18, .inl (fun _ => 0)))] H := hP
  have hD : va_D A [(h0, .inr (1, [.ref q7, .null, .null, .int 0])), (q7, .inl (cA, 18, .inl (fun _ => 0))), (q15, .inl (cA, 18, .inl (fun _ => 0)))] := hD
  refine W.widen (k := 2) (n := 0 + 18 + 18) (by omega) (by omega) ?_
  refine va_putF (D := D) (ci := 1) (v := .ref q15) (ty := .array .int) (C := "WideMachine$Writes") (T := ff_1) (N := 4) hx hb hts uk_1 ft_1 fo_1 fn_1 hown hK hP hD hS 0 rfl rfl 1 (by decide) (hts _ vk_8) (fun _ h9 => h9) rfl hin rfl (by decide +kernel) rfl rfl (Nat.le_of_ble_eq_true rfl) (show decode b_xq_init 17 = .ok (.putfield 13, 3) by decide +kernel) (fun H locs hP hD hS => ?_)
  have hP : va_P D vw_cl [(h0, .inr (1, [.ref q7, .ref q15, .null, .int 0])), (q7, .inl (cA, 18, .inl (fun _ => 0))), (q15, .inl (cA, 18, .inl (fun _ => 0)))] H := hP
  have hD : va_D A [(h0, .inr (1, [.ref q7, .ref q15, .null, .int 0])), (q7, .inl (cA, 18, .inl (fun _ => 0))), (q15, .inl (cA, 18, .inl (fun _ => 0)))] := hD
  refine lv_aload_n hx hb (show decode b_xq_init 20 = .ok (.aload_n 0, 1) by decide +kernel) rfl (lv_at hl 0 rfl) ?_
  refine lv_bipush (v := 18) hx hb (show decode b_xq_init 21 = .ok (.bipush 18, 2) by decide +kernel) (by decide) ?_
  refine va_newa (atype := .int) (a0 := (18, .inl (fun _ => 0))) (N' := 18) hx hb (hts _ vk_6) rfl hK hP hD hS hA (fun _ => rfl) (by decide) (by decide) (by decide) (by show _ ≤ 3; omega) (by show _ ≤ 54; omega) (show decode b_xq_init 23 = .ok (.newarray .int, 2) by decide +kernel) (fun q23 cA' H hK1 hP hD hS => ?_)
  have ecA : cA = cA' := Option.some.inj ((hK1.2 0 _ rfl).2.symm.trans (hK1.2 1 _ rfl).2)
  subst ecA
  have hP : va_P D vw_cl [(h0, .inr (1, [.ref q7, .ref q15, .null, .int 0])), (q7, .inl (cA, 18, .inl (fun _ => 0))), (q15, .inl (cA, 18, .inl (fun _ => 0))), (q23, .inl (cA, 18, .inl (fun _ => 0)))] H := hP
  have hD : va_D A [(h0, .inr (1, [.ref q7, .ref q15, .null, .int 0])), (q7, .inl (cA, 18, .inl (fun _ => 0))), (q15, .inl (cA, 18, .inl (fun _ => 0))), (q23, .inl (cA, 18, .inl (fun _ => 0)))] := hD
  refine W.widen (k := 3) (n := 0 + 18 + 18 + 18) (by omega) (by omega) ?_
  refine va_putF (D := D) (ci := 1) (v := .ref q23) (ty := .array .int) (C := "WideMachine$Writes") (T := ff_1) (N := 4) hx hb hts uk_1 ft_1 fo_1 fn_1 hown hK hP hD hS 0 rfl rfl 2 (by decide) (hts _ vk_9) (fun _ h9 => h9) rfl hin rfl (by decide +kernel) rfl rfl (Nat.le_of_ble_eq_true rfl) (show decode b_xq_init 25 = .ok (.putfield 16, 3) by decide +kernel) (fun H locs hP hD hS => ?_)
  have hP : va_P D vw_cl [(h0, .inr (1, [.ref q7, .ref q15, .ref q23, .int 0])), (q7, .inl (cA, 18, .inl (fun _ => 0))), (q15, .inl (cA, 18, .inl (fun _ => 0))), (q23, .inl (cA, 18, .inl (fun _ => 0)))] H := hP
  have hD : va_D A [(h0, .inr (1, [.ref q7, .ref q15, .ref q23, .int 0])), (q7, .inl (cA, 18, .inl (fun _ => 0))), (q15, .inl (cA, 18, .inl (fun _ => 0))), (q23, .inl (cA, 18, .inl (fun _ => 0)))] := hD
  refine W.widen (k := 3) (n := 54) (by omega) (by omega) ?_
  exact W.vret hx hb hr (fun t ht hW => ⟨⟨(q7, q15, q23), rfl, trivial, by rw [ht]; exact hP, hD⟩, hS.F ht⟩) hS.2.2 (show decode b_xq_init 28 = .ok (.return_, 1) by decide +kernel)
set_option maxRecDepth 100000 in
set_option maxHeartbeats 4000000 in
theorem ci_xb_init (l : Launch) (D : va_G) (cA : ClassId) (h0 sz : Nat) : Met l y_xb_init (.code y_xb_init b_xb_init 1 none :: vw_Q) { frames := 1, cells := 2, slots := 24, locals := 12 } (va_Pc [.ref h0] (fun U => U.heap.size = sz ∧ va_P D vw_cl [(h0, .inr (2, [.null, .null, .int 0]))] U.heap ∧ va_K D vw_cl [(cA, .int)] U ∧ va_D (fun _ => True) [(h0, .inr (2, [.null, .null, .int 0]))])) (va_Qv (fun _ : Nat × Nat => True) (fun u t => va_P D vw_cl [(h0, .inr (2, [.ref u.1, .ref u.2, .int 0])), (u.1, .inl (cA, 12, .inl (fun _ => 0))), (u.2, .inl (cA, 12, .inl (fun _ => 0)))] t.heap ∧ va_D (va_A [(h0, .inr (2, [.null, .null, .int 0]))] sz) [(h0, .inr (2, [.ref u.1, .ref u.2, .int 0])), (u.1, .inl (cA, 12, .inl (fun _ => 0))), (u.2, .inl (cA, 12, .inl (fun _ => 0)))]) (va_A [(h0, .inr (2, [.null, .null, .int 0]))] sz)) 2 24 (va_A [(h0, .inr (2, [.null, .null, .int 0]))] sz) := by
  refine Met.ofW (cc := b_xb_init) (maxL := 1) (ret := none) (by decide) rfl ?_
  intro p e s m args below meth c s₁ B hml hv
  obtain ⟨rfl, hsz, hP, hK, hD0⟩ := hv
  have hx := B.exec
  have hb := B.bytes
  have hr := B.returns
  have hts0 := atoms_spec (ws := .code y_xb_init b_xb_init 1 none :: vw_Q) B.pre
  have hts : ∀ w ∈ vw_Q, w.before _ s = true := fun w hw => hts0 w (List.mem_cons_of_mem _ hw)
  have hown : s.vm.findClass "WideMachine$Branches" = some m.cls := findClass_of_methodNamed B.named
  have hlocks := B.notSynchronized
  have hin : meth.name = "<init>" := (name_of_methodNamed B.named B.method).1
  subst hsz
  have hD := hD0.self (sz := s.heap.size)
  generalize hAe : va_A [(h0, .inr (2, [.null, .null, .int 0]))] s.heap.size = A at hD ⊢
  have hA : ∀ q : Nat, s.heap.size ≤ q → A q := fun q h => by rw [← hAe]; exact Or.inr h
  have hS : va_S A s.heap s.heap [] := va_S.rf
  have hl := lv_entry ([.ref h0]) (n := 1) (Nat.le_of_ble_eq_true rfl)
  rw [lg_entry_eq]
  generalize (lg_sl ([.ref h0]) ++ List.replicate (1 - (lg_sl ([.ref h0])).length) Slot.unset).toArray = ls at hl ⊢
  have hl : lv_has ls 1 [(0, .ref h0)] := hl
  refine lv_aload_n hx hb (show decode b_xb_init 0 = .ok (.aload_n 0, 1) by decide +kernel) rfl (lv_at hl 0 rfl) ?_
  refine W.objInit hx hb hown (hts _ vk_13) (hts _ vk_4) (hts _ vk_5) rfl (by rw [hml]; exact hl.1) rfl (show decode b_xb_init 1 = .ok (.invokespecial 3, 3) by decide +kernel) (Nat.le_of_ble_eq_true rfl) (Nat.le_of_ble_eq_true rfl) ?_
  refine W.eq (g2 := F0 m 4 ls []) rfl ?_
  refine lv_aload_n hx hb (show decode b_xb_init 4 = .ok (.aload_n 0, 1) by decide +kernel) rfl (lv_at hl 0 rfl) ?_
  refine lv_bipush (v := 12) hx hb (show decode b_xb_init 5 = .ok (.bipush 12, 2) by decide +kernel) (by decide) ?_
  refine va_newa (atype := .int) (a0 := (12, .inl (fun _ => 0))) (N' := 12) hx hb (hts _ vk_6) rfl hK hP hD hS hA (fun _ => rfl) (by decide) (by decide) (by decide) (by show _ ≤ 2; omega) (by show _ ≤ 24; omega) (show decode b_xb_init 7 = .ok (.newarray .int, 2) by decide +kernel) (fun q7 cA' H hK1 hP hD hS => ?_)
  have ecA : cA = cA' := Option.some.inj ((hK1.2 0 _ rfl).2.symm.trans (hK1.2 1 _ rfl).2)
  subst ecA
  have hP : va_P D vw_cl [(h0, .inr (2, [.null, .null, .int 0])), (q7, .inl (cA, 12, .inl (fun _ => 0)))] H := hP
  have hD : va_D A [(h0, .inr (2, [.null, .null, .int 0])), (q7, .inl (cA, 12, .inl (fun _ => 0)))] := hD
  refine W.widen (k := 1) (n := 0 + 12) (by omega) (by omega) ?_
  refine va_putF (D := D) (ci := 2) (v := .ref q7) (ty := .array .int) (C := "WideMachine$Branches") (T := ff_2) (N := 3) hx hb hts uk_2 ft_2 fo_2 fn_2 hown hK hP hD hS 0 rfl rfl 0 (by decide) (hts _ vk_14) (fun _ h9 => h9) rfl hin rfl (by decide +kernel) rfl rfl (Nat.le_of_ble_eq_true rfl) (show decode b_xb_init 9 = .ok (.putfield 9, 3) by decide +kernel) (fun H locs hP hD hS => ?_)
  have hP : va_P D vw_cl [(h0, .inr (2, [.ref q7, .null, .int 0])), (q7, .inl (cA, 12, .inl (fun _ => 0)))] H := hP
  have hD : va_D A [(h0, .inr (2, [.ref q7, .null, .int 0])), (q7, .inl (cA, 12, .inl (fun _ => 0)))] := hD
  refine lv_aload_n hx hb (show decode b_xb_init 12 = .ok (.aload_n 0, 1) by decide +kernel) rfl (lv_at hl 0 rfl) ?_
  refine lv_bipush (v := 12) hx hb (show decode b_xb_init 13 = .ok (.bipush 12, 2) by decide +kernel) (by decide) ?_
  refine va_newa (atype := .int) (a0 := (12, .inl (fun _ => 0))) (N' := 12) hx hb (hts _ vk_6) rfl hK hP hD hS hA (fun _ => rfl) (by decide) (by decide) (by decide) (by show _ ≤ 2; omega) (by show _ ≤ 24; omega) (show decode b_xb_init 15 = .ok (.newarray .int, 2) by decide +kernel) (fun q15 cA' H hK1 hP hD hS => ?_)
  have ecA : cA = cA' := Option.some.inj ((hK1.2 0 _ rfl).2.symm.trans (hK1.2 1 _ rfl).2)
  subst ecA
  have hP : va_P D vw_cl [(h0, .inr (2, [.ref q7, .null, .int 0])), (q7, .inl (cA, 12, .inl (fun _ => 0))), (q15, .inl (cA, 12, .inl (fun _ => 0)))] H := hP
  have hD : va_D A [(h0, .inr (2, [.ref q7, .null, .int 0])), (q7, .inl (cA, 12, .inl (fun _ => 0))), (q15, .inl (cA, 12, .inl (fun _ => 0)))] := hD
  refine W.widen (k := 2) (n := 0 + 12 + 12) (by omega) (by omega) ?_
  refine va_putF (D := D) (ci := 2) (v := .ref q15) (ty := .array .int) (C := "WideMachine$Branches") (T := ff_2) (N := 3) hx hb hts uk_2 ft_2 fo_2 fn_2 hown hK hP hD hS 0 rfl rfl 1 (by decide) (hts _ vk_15) (fun _ h9 => h9) rfl hin rfl (by decide +kernel) rfl rfl (Nat.le_of_ble_eq_true rfl) (show decode b_xb_init 17 = .ok (.putfield 13, 3) by decide +kernel) (fun H locs hP hD hS => ?_)
  have hP : va_P D vw_cl [(h0, .inr (2, [.ref q7, .ref q15, .int 0])), (q7, .inl (cA, 12, .inl (fun _ => 0))), (q15, .inl (cA, 12, .inl (fun _ => 0)))] H := hP
  have hD : va_D A [(h0, .inr (2, [.ref q7, .ref q15, .int 0])), (q7, .inl (cA, 12, .inl (fun _ => 0))), (q15, .inl (cA, 12, .inl (fun _ => 0)))] := hD
  refine W.widen (k := 2) (n := 24) (by omega) (by omega) ?_
  exact W.vret hx hb hr (fun t ht hW => ⟨⟨(q7, q15), rfl, trivial, by rw [ht]; exact hP, hD⟩, hS.F ht⟩) hS.2.2 (show decode b_xb_init 20 = .ok (.return_, 1) by decide +kernel)
set_option maxRecDepth 100000 in
set_option maxHeartbeats 4000000 in
theorem ci_xm_init (l : Launch) (D : va_G) (cA : ClassId) (h0 sz : Nat) (a1 a2 : Int32) : Met l y_xm_init (.code y_xm_init b_xm_init 3 none :: vw_Q) { frames := 2, cells := 10, slots := 1000, locals := 60 } (va_Pc [.ref h0, .int a1, .int a2] (fun U => U.heap.size = sz ∧ va_P D vw_cl [(h0, .inr (0, [.null, .null, .null, .null, .null, .int 0, .int 0, .int 0, .int 0, .int 0, .int 0, .int 0]))] U.heap ∧ va_K D vw_cl [(cA, .int)] U ∧ va_D (fun _ => True) [(h0, .inr (0, [.null, .null, .null, .null, .null, .int 0, .int 0, .int 0, .int 0, .int 0, .int 0, .int 0]))] ∧ va_Nw (.methodLinkNest "WideMachine" 25 y_xq_init "WideMachine") U ∧ va_Nw (.methodLinkNest "WideMachine" 32 y_xb_init "WideMachine") U)) (va_Qv (fun u : (Nat → Nat) × Nat × Nat => u.1 0 = h0 ∧ ml_is a1 u.2.1 ∧ ml_is a2 u.2.2) (fun u t => va_P D vw_cl (mx_w u.1 cA mx_0 0 (kx u.2.1 u.2.2)) t.heap ∧ va_D (va_A [(h0, .inr (0, [.null, .null, .null, .null, .null, .int 0, .int 0, .int 0, .int 0, .int 0, .int 0, .int 0]))] sz) (mx_w u.1 cA mx_0 0 (kx u.2.1 u.2.2))) (va_A [(h0, .inr (0, [.null, .null, .null, .null, .null, .int 0, .int 0, .int 0, .int 0, .int 0, .int 0, .int 0]))] sz)) 10 1000 (va_A [(h0, .inr (0, [.null, .null, .null, .null, .null, .int 0, .int 0, .int 0, .int 0, .int 0, .int 0, .int 0]))] sz) := by
  refine Met.ofW (cc := b_xm_init) (maxL := 3) (ret := none) (by decide) rfl ?_
  intro p e s m args below meth c s₁ B hml hv
  obtain ⟨rfl, hsz, hP, hK, hD0, hN25, hN32⟩ := hv
  have hx := B.exec
  have hb := B.bytes
  have hr := B.returns
  have hts0 := atoms_spec (ws := .code y_xm_init b_xm_init 3 none :: vw_Q) B.pre
  have hts : ∀ w ∈ vw_Q, w.before _ s = true := fun w hw => hts0 w (List.mem_cons_of_mem _ hw)
  have hown : s.vm.findClass "WideMachine" = some m.cls := findClass_of_methodNamed B.named
  have hlocks := B.notSynchronized
  have hin : meth.name = "<init>" := (name_of_methodNamed B.named B.method).1
  subst hsz
  have hD := hD0.self (sz := s.heap.size)
  generalize hAe : va_A [(h0, .inr (0, [.null, .null, .null, .null, .null, .int 0, .int 0, .int 0, .int 0, .int 0, .int 0, .int 0]))] s.heap.size = A at hD ⊢
  have hA : ∀ q : Nat, s.heap.size ≤ q → A q := fun q h => by rw [← hAe]; exact Or.inr h
  have hS : va_S A s.heap s.heap [] := va_S.rf
  have hl := lv_entry ([.ref h0, .int a1, .int a2]) (n := 3) (Nat.le_of_ble_eq_true rfl)
  rw [lg_entry_eq]
  generalize (lg_sl ([.ref h0, .int a1, .int a2]) ++ List.replicate (3 - (lg_sl ([.ref h0, .int a1, .int a2])).length) Slot.unset).toArray = ls at hl ⊢
  have hl : lv_has ls 3 [(0, .ref h0), (1, .int a1), (2, .int a2)] := hl
  refine lv_aload_n hx hb (show decode b_xm_init 0 = .ok (.aload_n 0, 1) by decide +kernel) rfl (lv_at hl 0 rfl) ?_
  refine W.objInit hx hb hown (hts _ vk_19) (hts _ vk_4) (hts _ vk_5) rfl (by rw [hml]; exact hl.1) rfl (show decode b_xm_init 1 = .ok (.invokespecial 1, 3) by decide +kernel) (Nat.le_of_ble_eq_true rfl) (Nat.le_of_ble_eq_true rfl) ?_
  refine W.eq (g2 := F0 m 4 ls []) rfl ?_
  refine lv_aload_n hx hb (show decode b_xm_init 4 = .ok (.aload_n 0, 1) by decide +kernel) rfl (lv_at hl 0 rfl) ?_
  refine lv_iload_n hx hb (show decode b_xm_init 5 = .ok (.iload_n 1, 1) by decide +kernel) rfl (lv_at hl 1 rfl) ?_
  refine vp_callSi (W.runS (As := [.int a1]) (rest := [.ref h0]) ⟨hx, hb, hml, hown, hts⟩ (c_near l a1) ⟨callB_of 1 hts (ck_good vk_20) rfl rfl rfl (hts _ vk_18) (hts _ vk_21) ⟨by decide +kernel, by decide +kernel, by decide +kernel⟩ ⟨Nat.le_of_ble_eq_true rfl, Nat.le_of_ble_eq_true rfl⟩, hts _ vk_22⟩ ⟨fun _ _ _ _ q => q, fun _ _ _ => ⟨rfl, trivial⟩⟩ rfl rfl hl.1 rfl (lv_room (Nat.le_of_ble_eq_true rfl)) (show decode b_xm_init 6 = .ok (.invokestatic 7, 3) by decide +kernel) ⟨(by show _ ≤ 10; omega), (by show _ ≤ 1000; omega)⟩) (fun r6 hr6 => ?_)
  obtain ⟨n6, hr6⟩ := ml_near_n a1 hr6
  have hr6b := hr6.2.2.2
  refine va_newa (atype := .int) (a0 := (n6, .inl (fun _ => 0))) (N' := n6) hx hb (hts _ vk_6) rfl hK hP hD hS hA (fun _ => rfl) hr6.2.1 hr6.2.2.1 (by have := hr6.2.2.2; show n6 * 4 ≤ _; omega) (by show _ ≤ 10; omega) (by show _ ≤ 1000; omega) (show decode b_xm_init 9 = .ok (.newarray .int, 2) by decide +kernel) (fun q9 cA' H hK1 hP hD hS => ?_)
  have ecA : cA = cA' := Option.some.inj ((hK1.2 0 _ rfl).2.symm.trans (hK1.2 1 _ rfl).2)
  subst ecA
  have hP : va_P D vw_cl [(h0, .inr (0, [.null, .null, .null, .null, .null, .int 0, .int 0, .int 0, .int 0, .int 0, .int 0, .int 0])), (q9, .inl (cA, n6, .inl (fun _ => 0)))] H := hP
  have hD : va_D A [(h0, .inr (0, [.null, .null, .null, .null, .null, .int 0, .int 0, .int 0, .int 0, .int 0, .int 0, .int 0])), (q9, .inl (cA, n6, .inl (fun _ => 0)))] := hD
  refine W.widen (k := 1) (n := 0 + n6) (by omega) (by omega) ?_
  refine va_putF (D := D) (ci := 0) (v := .ref q9) (ty := .array .int) (C := "WideMachine") (T := ff_0) (N := 12) hx hb hts uk_0 ft_0 fo_0 fn_0 hown hK hP hD hS 0 rfl rfl 0 (by decide) (hts _ vk_23) (fun _ h9 => h9) rfl hin rfl (by decide +kernel) rfl rfl (Nat.le_of_ble_eq_true rfl) (show decode b_xm_init 11 = .ok (.putfield 13, 3) by decide +kernel) (fun H locs hP hD hS => ?_)
  have hP : va_P D vw_cl [(h0, .inr (0, [.ref q9, .null, .null, .null, .null, .int 0, .int 0, .int 0, .int 0, .int 0, .int 0, .int 0])), (q9, .inl (cA, n6, .inl (fun _ => 0)))] H := hP
  have hD : va_D A [(h0, .inr (0, [.ref q9, .null, .null, .null, .null, .int 0, .int 0, .int 0, .int 0, .int 0, .int 0, .int 0])), (q9, .inl (cA, n6, .inl (fun _ => 0)))] := hD
  refine lv_aload_n hx hb (show decode b_xm_init 14 = .ok (.aload_n 0, 1) by decide +kernel) rfl (lv_at hl 0 rfl) ?_
  refine lv_iload_n hx hb (show decode b_xm_init 15 = .ok (.iload_n 2, 1) by decide +kernel) rfl (lv_at hl 2 rfl) ?_
  refine vp_callSi (W.runS (As := [.int a2]) (rest := [.ref h0]) ⟨hx, hb, hml, hown, hts⟩ (c_near l a2) ⟨callB_of 1 hts (ck_good vk_20) rfl rfl rfl (hts _ vk_18) (hts _ vk_21) ⟨by decide +kernel, by decide +kernel, by decide +kernel⟩ ⟨Nat.le_of_ble_eq_true rfl, Nat.le_of_ble_eq_true rfl⟩, hts _ vk_22⟩ ⟨fun _ _ _ _ q => q, fun _ _ _ => ⟨rfl, trivial⟩⟩ rfl rfl hl.1 rfl (lv_room (Nat.le_of_ble_eq_true rfl)) (show decode b_xm_init 16 = .ok (.invokestatic 7, 3) by decide +kernel) ⟨(by show _ ≤ 10; omega), (by show _ ≤ 1000; omega)⟩) (fun r16 hr16 => ?_)
  obtain ⟨n16, hr16⟩ := ml_near_n a2 hr16
  have hr16b := hr16.2.2.2
  refine va_newa (atype := .int) (a0 := (n16, .inl (fun _ => 0))) (N' := n16) hx hb (hts _ vk_6) rfl hK hP hD hS hA (fun _ => rfl) hr16.2.1 hr16.2.2.1 (by have := hr16.2.2.2; show n16 * 4 ≤ _; omega) (by show _ ≤ 10; omega) (by show _ ≤ 1000; omega) (show decode b_xm_init 19 = .ok (.newarray .int, 2) by decide +kernel) (fun q19 cA' H hK1 hP hD hS => ?_)
  have ecA : cA = cA' := Option.some.inj ((hK1.2 0 _ rfl).2.symm.trans (hK1.2 1 _ rfl).2)
  subst ecA
  have hP : va_P D vw_cl [(h0, .inr (0, [.ref q9, .null, .null, .null, .null, .int 0, .int 0, .int 0, .int 0, .int 0, .int 0, .int 0])), (q9, .inl (cA, n6, .inl (fun _ => 0))), (q19, .inl (cA, n16, .inl (fun _ => 0)))] H := hP
  have hD : va_D A [(h0, .inr (0, [.ref q9, .null, .null, .null, .null, .int 0, .int 0, .int 0, .int 0, .int 0, .int 0, .int 0])), (q9, .inl (cA, n6, .inl (fun _ => 0))), (q19, .inl (cA, n16, .inl (fun _ => 0)))] := hD
  refine W.widen (k := 2) (n := 0 + n6 + n16) (by omega) (by omega) ?_
  refine va_putF (D := D) (ci := 0) (v := .ref q19) (ty := .array .int) (C := "WideMachine") (T := ff_0) (N := 12) hx hb hts uk_0 ft_0 fo_0 fn_0 hown hK hP hD hS 0 rfl rfl 1 (by decide) (hts _ vk_24) (fun _ h9 => h9) rfl hin rfl (by decide +kernel) rfl rfl (Nat.le_of_ble_eq_true rfl) (show decode b_xm_init 21 = .ok (.putfield 17, 3) by decide +kernel) (fun H locs hP hD hS => ?_)
  have hP : va_P D vw_cl [(h0, .inr (0, [.ref q9, .ref q19, .null, .null, .null, .int 0, .int 0, .int 0, .int 0, .int 0, .int 0, .int 0])), (q9, .inl (cA, n6, .inl (fun _ => 0))), (q19, .inl (cA, n16, .inl (fun _ => 0)))] H := hP
  have hD : va_D A [(h0, .inr (0, [.ref q9, .ref q19, .null, .null, .null, .int 0, .int 0, .int 0, .int 0, .int 0, .int 0, .int 0])), (q9, .inl (cA, n6, .inl (fun _ => 0))), (q19, .inl (cA, n16, .inl (fun _ => 0)))] := hD
  refine lv_aload_n hx hb (show decode b_xm_init 24 = .ok (.aload_n 0, 1) by decide +kernel) rfl (lv_at hl 0 rfl) ?_
  refine lv_bipush (v := 32) hx hb (show decode b_xm_init 25 = .ok (.bipush 32, 2) by decide +kernel) (by decide) ?_
  refine va_newa (atype := .int) (a0 := (32, .inl (fun _ => 0))) (N' := 32) hx hb (hts _ vk_6) rfl hK hP hD hS hA (fun _ => rfl) (by decide) (by decide) (by decide) (by show _ ≤ 10; omega) (by show _ ≤ 1000; omega) (show decode b_xm_init 27 = .ok (.newarray .int, 2) by decide +kernel) (fun q27 cA' H hK1 hP hD hS => ?_)
  have ecA : cA = cA' := Option.some.inj ((hK1.2 0 _ rfl).2.symm.trans (hK1.2 1 _ rfl).2)
  subst ecA
  have hP : va_P D vw_cl [(h0, .inr (0, [.ref q9, .ref q19, .null, .null, .null, .int 0, .int 0, .int 0, .int 0, .int 0, .int 0, .int 0])), (q9, .inl (cA, n6, .inl (fun _ => 0))), (q19, .inl (cA, n16, .inl (fun _ => 0))), (q27, .inl (cA, 32, .inl (fun _ => 0)))] H := hP
  have hD : va_D A [(h0, .inr (0, [.ref q9, .ref q19, .null, .null, .null, .int 0, .int 0, .int 0, .int 0, .int 0, .int 0, .int 0])), (q9, .inl (cA, n6, .inl (fun _ => 0))), (q19, .inl (cA, n16, .inl (fun _ => 0))), (q27, .inl (cA, 32, .inl (fun _ => 0)))] := hD
  refine W.widen (k := 3) (n := 0 + n6 + n16 + 32) (by omega) (by omega) ?_
  refine va_putF (D := D) (ci := 0) (v := .ref q27) (ty := .array .int) (C := "WideMachine") (T := ff_0) (N := 12) hx hb hts uk_0 ft_0 fo_0 fn_0 hown hK hP hD hS 0 rfl rfl 2 (by decide) (hts _ vk_25) (fun _ h9 => h9) rfl hin rfl (by decide +kernel) rfl rfl (Nat.le_of_ble_eq_true rfl) (show decode b_xm_init 29 = .ok (.putfield 20, 3) by decide +kernel) (fun H locs hP hD hS => ?_)
  have hP : va_P D vw_cl [(h0, .inr (0, [.ref q9, .ref q19, .ref q27, .null, .null, .int 0, .int 0, .int 0, .int 0, .int 0, .int 0, .int 0])), (q9, .inl (cA, n6, .inl (fun _ => 0))), (q19, .inl (cA, n16, .inl (fun _ => 0))), (q27, .inl (cA, 32, .inl (fun _ => 0)))] H := hP
  have hD : va_D A [(h0, .inr (0, [.ref q9, .ref q19, .ref q27, .null, .null, .int 0, .int 0, .int 0, .int 0, .int 0, .int 0, .int 0])), (q9, .inl (cA, n6, .inl (fun _ => 0))), (q19, .inl (cA, n16, .inl (fun _ => 0))), (q27, .inl (cA, 32, .inl (fun _ => 0)))] := hD
  refine lv_aload_n hx hb (show decode b_xm_init 32 = .ok (.aload_n 0, 1) by decide +kernel) rfl (lv_at hl 0 rfl) ?_
  refine va_new (ci := 1) (fs := [.null, .null, .null, .int 0]) (C := "WideMachine$Writes") (T := ff_1) (N := 4) hx hb hts uk_1 ft_1 fo_1 hown (hts _ vk_26) (hts _ vk_27) (hts _ vk_2) hK hP hD hS hA rfl (fun j hj => by revert hj; revert j; decide) (by show _ ≤ 10; omega) (by show _ ≤ 1000; omega) (show decode b_xm_init 33 = .ok (.new 23, 3) by decide +kernel) (fun q33 H hP hD hS => ?_)
  have hP : va_P D vw_cl [(h0, .inr (0, [.ref q9, .ref q19, .ref q27, .null, .null, .int 0, .int 0, .int 0, .int 0, .int 0, .int 0, .int 0])), (q9, .inl (cA, n6, .inl (fun _ => 0))), (q19, .inl (cA, n16, .inl (fun _ => 0))), (q27, .inl (cA, 32, .inl (fun _ => 0))), (q33, .inr (1, [.null, .null, .null, .int 0]))] H := hP
  have hD : va_D A [(h0, .inr (0, [.ref q9, .ref q19, .ref q27, .null, .null, .int 0, .int 0, .int 0, .int 0, .int 0, .int 0, .int 0])), (q9, .inl (cA, n6, .inl (fun _ => 0))), (q19, .inl (cA, n16, .inl (fun _ => 0))), (q27, .inl (cA, 32, .inl (fun _ => 0))), (q33, .inr (1, [.null, .null, .null, .int 0]))] := hD
  refine W.widen (k := 4) (n := 0 + n6 + n16 + 32 + 4) (by omega) (by omega) ?_
  refine lv_dup hx hb (show decode b_xm_init 36 = .ok (.dup, 1) by decide +kernel) rfl ?_
  have hPc := hP.sub (ws' := [(q33, .inr (1, [.null, .null, .null, .int 0]))]) [4] rfl
  have hDc := hD.sub (ws' := [(q33, .inr (1, [.null, .null, .null, .int 0]))]) [4] (by decide) rfl
  have hFc := va_free (wc := [(q33, .inr (1, [.null, .null, .null, .int 0]))]) hD hS hA [4] rfl
  refine va_callv (va_runIN (As := []) (rest := [.ref q33, .ref h0]) ⟨hx, hb, hml, hown, hts⟩ (ci_xq_init l D cA q33 H.size) ⟨va_cnB 0 hts (ck_good vk_0) rfl rfl rfl hN25 (hts _ vk_2) ⟨by decide +kernel, by decide +kernel, by decide +kernel⟩ ⟨Nat.le_of_ble_eq_true rfl, Nat.le_of_ble_eq_true rfl⟩, rfl, hts _ vk_1⟩ ⟨fun a U g mk q => by obtain ⟨q0, q1, qP, qK, qD⟩ := q; exact ⟨q0, q1, qP, va_K.moved (u := U) (U := U.calling g mk a) (Vm.Alike.refl U.vm) qK, qD⟩, fun U hU hW => ⟨rfl, by rw [hU], by rw [hU]; exact hPc, va_K.moved hW.alike (hK.sub (tys' := [(cA, .int)]) [0] rfl), hDc.weaken (fun _ _ _ _ => trivial)⟩⟩ rfl rfl hl.1 rfl (lv_room (Nat.le_of_ble_eq_true rfl)) (show decode b_xm_init 37 = .ok (.invokespecial 25, 3) by decide +kernel) ⟨(by show _ ≤ 10; omega), (by show _ ≤ 1000; omega)⟩) hS (fun q _ h => hFc q h) hFc (fun u t H1 locs ht hvm hpost hB hz1 hk1 hS => ?_)
  obtain ⟨z37_0, z37_1, z37_2⟩ := u
  obtain ⟨hP1, hD1⟩ := hB
  rw [ht] at hP1
  obtain ⟨hP, hD⟩ := va_join (wr := [(h0, .inr (0, [.ref q9, .ref q19, .ref q27, .null, .null, .int 0, .int 0, .int 0, .int 0, .int 0, .int 0, .int 0])), (q9, .inl (cA, n6, .inl (fun _ => 0))), (q19, .inl (cA, n16, .inl (fun _ => 0))), (q27, .inl (cA, 32, .inl (fun _ => 0)))]) (w1 := [(q33, .inr (1, [.ref z37_0, .ref z37_1, .ref z37_2, .int 0])), (z37_0, .inl (cA, 18, .inl (fun _ => 0))), (z37_1, .inl (cA, 18, .inl (fun _ => 0))), (z37_2, .inl (cA, 18, .inl (fun _ => 0)))]) hP hD [4] [0, 1, 2, 3] rfl rfl (by decide) (by decide) hk1 hFc hP1 hD1
  generalize H1 = H at hP hS ⊢
  have hP : va_P D vw_cl [(h0, .inr (0, [.ref q9, .ref q19, .ref q27, .null, .null, .int 0, .int 0, .int 0, .int 0, .int 0, .int 0, .int 0])), (q9, .inl (cA, n6, .inl (fun _ => 0))), (q19, .inl (cA, n16, .inl (fun _ => 0))), (q27, .inl (cA, 32, .inl (fun _ => 0))), (q33, .inr (1, [.ref z37_0, .ref z37_1, .ref z37_2, .int 0])), (z37_0, .inl (cA, 18, .inl (fun _ => 0))), (z37_1, .inl (cA, 18, .inl (fun _ => 0))), (z37_2, .inl (cA, 18, .inl (fun _ => 0)))] H := hP
  have hD : va_D A [(h0, .inr (0, [.ref q9, .ref q19, .ref q27, .null, .null, .int 0, .int 0, .int 0, .int 0, .int 0, .int 0, .int 0])), (q9, .inl (cA, n6, .inl (fun _ => 0))), (q19, .inl (cA, n16, .inl (fun _ => 0))), (q27, .inl (cA, 32, .inl (fun _ => 0))), (q33, .inr (1, [.ref z37_0, .ref z37_1, .ref z37_2, .int 0])), (z37_0, .inl (cA, 18, .inl (fun _ => 0))), (z37_1, .inl (cA, 18, .inl (fun _ => 0))), (z37_2, .inl (cA, 18, .inl (fun _ => 0)))] := hD
  refine W.widen (k := 7) (n := 0 + n6 + n16 + 32 + 4 + 54) (by omega) (by omega) ?_
  refine va_putF (D := D) (ci := 0) (v := .ref q33) (ty := .object "WideMachine$Writes") (C := "WideMachine") (T := ff_0) (N := 12) hx hb hts uk_0 ft_0 fo_0 fn_0 hown hK hP hD hS 0 rfl rfl 3 (by decide) (hts _ vk_28) (fun _ h9 => h9) rfl hin rfl (by decide +kernel) rfl rfl (Nat.le_of_ble_eq_true rfl) (show decode b_xm_init 40 = .ok (.putfield 26, 3) by decide +kernel) (fun H locs hP hD hS => ?_)
  have hP : va_P D vw_cl [(h0, .inr (0, [.ref q9, .ref q19, .ref q27, .ref q33, .null, .int 0, .int 0, .int 0, .int 0, .int 0, .int 0, .int 0])), (q9, .inl (cA, n6, .inl (fun _ => 0))), (q19, .inl (cA, n16, .inl (fun _ => 0))), (q27, .inl (cA, 32, .inl (fun _ => 0))), (q33, .inr (1, [.ref z37_0, .ref z37_1, .ref z37_2, .int 0])), (z37_0, .inl (cA, 18, .inl (fun _ => 0))), (z37_1, .inl (cA, 18, .inl (fun _ => 0))), (z37_2, .inl (cA, 18, .inl (fun _ => 0)))] H := hP
  have hD : va_D A [(h0, .inr (0, [.ref q9, .ref q19, .ref q27, .ref q33, .null, .int 0, .int 0, .int 0, .int 0, .int 0, .int 0, .int 0])), (q9, .inl (cA, n6, .inl (fun _ => 0))), (q19, .inl (cA, n16, .inl (fun _ => 0))), (q27, .inl (cA, 32, .inl (fun _ => 0))), (q33, .inr (1, [.ref z37_0, .ref z37_1, .ref z37_2, .int 0])), (z37_0, .inl (cA, 18, .inl (fun _ => 0))), (z37_1, .inl (cA, 18, .inl (fun _ => 0))), (z37_2, .inl (cA, 18, .inl (fun _ => 0)))] := hD
  refine lv_aload_n hx hb (show decode b_xm_init 43 = .ok (.aload_n 0, 1) by decide +kernel) rfl (lv_at hl 0 rfl) ?_
  refine va_new (ci := 2) (fs := [.null, .null, .int 0]) (C := "WideMachine$Branches") (T := ff_2) (N := 3) hx hb hts uk_2 ft_2 fo_2 hown (hts _ vk_29) (hts _ vk_30) (hts _ vk_12) hK hP hD hS hA rfl (fun j hj => by revert hj; revert j; decide) (by show _ ≤ 10; omega) (by show _ ≤ 1000; omega) (show decode b_xm_init 44 = .ok (.new 30, 3) by decide +kernel) (fun q44 H hP hD hS => ?_)
  have hP : va_P D vw_cl [(h0, .inr (0, [.ref q9, .ref q19, .ref q27, .ref q33, .null, .int 0, .int 0, .int 0, .int 0, .int 0, .int 0, .int 0])), (q9, .inl (cA, n6, .inl (fun _ => 0))), (q19, .inl (cA, n16, .inl (fun _ => 0))), (q27, .inl (cA, 32, .inl (fun _ => 0))), (q33, .inr (1, [.ref z37_0, .ref z37_1, .ref z37_2, .int 0])), (z37_0, .inl (cA, 18, .inl (fun _ => 0))), (z37_1, .inl (cA, 18, .inl (fun _ => 0))), (z37_2, .inl (cA, 18, .inl (fun _ => 0))), (q44, .inr (2, [.null, .null, .int 0]))] H := hP
  have hD : va_D A [(h0, .inr (0, [.ref q9, .ref q19, .ref q27, .ref q33, .null, .int 0, .int 0, .int 0, .int 0, .int 0, .int 0, .int 0])), (q9, .inl (cA, n6, .inl (fun _ => 0))), (q19, .inl (cA, n16, .inl (fun _ => 0))), (q27, .inl (cA, 32, .inl (fun _ => 0))), (q33, .inr (1, [.ref z37_0, .ref z37_1, .ref z37_2, .int 0])), (z37_0, .inl (cA, 18, .inl (fun _ => 0))), (z37_1, .inl (cA, 18, .inl (fun _ => 0))), (z37_2, .inl (cA, 18, .inl (fun _ => 0))), (q44, .inr (2, [.null, .null, .int 0]))] := hD
  refine W.widen (k := 8) (n := 0 + n6 + n16 + 32 + 4 + 54 + 3) (by omega) (by omega) ?_
  refine lv_dup hx hb (show decode b_xm_init 47 = .ok (.dup, 1) by decide +kernel) rfl ?_
  have hPc := hP.sub (ws' := [(q44, .inr (2, [.null, .null, .int 0]))]) [8] rfl
  have hDc := hD.sub (ws' := [(q44, .inr (2, [.null, .null, .int 0]))]) [8] (by decide) rfl
  have hFc := va_free (wc := [(q44, .inr (2, [.null, .null, .int 0]))]) hD hS hA [8] rfl
  refine va_callv (va_runIN (As := []) (rest := [.ref q44, .ref h0]) ⟨hx, hb, hml, hown, hts⟩ (ci_xb_init l D cA q44 H.size) ⟨va_cnB 0 hts (ck_good vk_10) rfl rfl rfl hN32 (hts _ vk_12) ⟨by decide +kernel, by decide +kernel, by decide +kernel⟩ ⟨Nat.le_of_ble_eq_true rfl, Nat.le_of_ble_eq_true rfl⟩, rfl, hts _ vk_11⟩ ⟨fun a U g mk q => by obtain ⟨q0, q1, qP, qK, qD⟩ := q; exact ⟨q0, q1, qP, va_K.moved (u := U) (U := U.calling g mk a) (Vm.Alike.refl U.vm) qK, qD⟩, fun U hU hW => ⟨rfl, by rw [hU], by rw [hU]; exact hPc, va_K.moved hW.alike (hK.sub (tys' := [(cA, .int)]) [0] rfl), hDc.weaken (fun _ _ _ _ => trivial)⟩⟩ rfl rfl hl.1 rfl (lv_room (Nat.le_of_ble_eq_true rfl)) (show decode b_xm_init 48 = .ok (.invokespecial 32, 3) by decide +kernel) ⟨(by show _ ≤ 10; omega), (by show _ ≤ 1000; omega)⟩) hS (fun q _ h => hFc q h) hFc (fun u t H1 locs ht hvm hpost hB hz1 hk1 hS => ?_)
  obtain ⟨z48_0, z48_1⟩ := u
  obtain ⟨hP1, hD1⟩ := hB
  rw [ht] at hP1
  obtain ⟨hP, hD⟩ := va_join (wr := [(h0, .inr (0, [.ref q9, .ref q19, .ref q27, .ref q33, .null, .int 0, .int 0, .int 0, .int 0, .int 0, .int 0, .int 0])), (q9, .inl (cA, n6, .inl (fun _ => 0))), (q19, .inl (cA, n16, .inl (fun _ => 0))), (q27, .inl (cA, 32, .inl (fun _ => 0))), (q33, .inr (1, [.ref z37_0, .ref z37_1, .ref z37_2, .int 0])), (z37_0, .inl (cA, 18, .inl (fun _ => 0))), (z37_1, .inl (cA, 18, .inl (fun _ => 0))), (z37_2, .inl (cA, 18, .inl (fun _ => 0)))]) (w1 := [(q44, .inr (2, [.ref z48_0, .ref z48_1, .int 0])), (z48_0, .inl (cA, 12, .inl (fun _ => 0))), (z48_1, .inl (cA, 12, .inl (fun _ => 0)))]) hP hD [8] [0, 1, 2, 3, 4, 5, 6, 7] rfl rfl (by decide) (by decide) hk1 hFc hP1 hD1
  generalize H1 = H at hP hS ⊢
  have hP : va_P D vw_cl [(h0, .inr (0, [.ref q9, .ref q19, .ref q27, .ref q33, .null, .int 0, .int 0, .int 0, .int 0, .int 0, .int 0, .int 0])), (q9, .inl (cA, n6, .inl (fun _ => 0))), (q19, .inl (cA, n16, .inl (fun _ => 0))), (q27, .inl (cA, 32, .inl (fun _ => 0))), (q33, .inr (1, [.ref z37_0, .ref z37_1, .ref z37_2, .int 0])), (z37_0, .inl (cA, 18, .inl (fun _ => 0))), (z37_1, .inl (cA, 18, .inl (fun _ => 0))), (z37_2, .inl (cA, 18, .inl (fun _ => 0))), (q44, .inr (2, [.ref z48_0, .ref z48_1, .int 0])), (z48_0, .inl (cA, 12, .inl (fun _ => 0))), (z48_1, .inl (cA, 12, .inl (fun _ => 0)))] H := hP
  have hD : va_D A [(h0, .inr (0, [.ref q9, .ref q19, .ref q27, .ref q33, .null, .int 0, .int 0, .int 0, .int 0, .int 0, .int 0, .int 0])), (q9, .inl (cA, n6, .inl (fun _ => 0))), (q19, .inl (cA, n16, .inl (fun _ => 0))), (q27, .inl (cA, 32, .inl (fun _ => 0))), (q33, .inr (1, [.ref z37_0, .ref z37_1, .ref z37_2, .int 0])), (z37_0, .inl (cA, 18, .inl (fun _ => 0))), (z37_1, .inl (cA, 18, .inl (fun _ => 0))), (z37_2, .inl (cA, 18, .inl (fun _ => 0))), (q44, .inr (2, [.ref z48_0, .ref z48_1, .int 0])), (z48_0, .inl (cA, 12, .inl (fun _ => 0))), (z48_1, .inl (cA, 12, .inl (fun _ => 0)))] := hD
  refine W.widen (k := 10) (n := 0 + n6 + n16 + 32 + 4 + 54 + 3 + 24) (by omega) (by omega) ?_
  refine va_putF (D := D) (ci := 0) (v := .ref q44) (ty := .object "WideMachine$Branches") (C := "WideMachine") (T := ff_0) (N := 12) hx hb hts uk_0 ft_0 fo_0 fn_0 hown hK hP hD hS 0 rfl rfl 4 (by decide) (hts _ vk_31) (fun _ h9 => h9) rfl hin rfl (by decide +kernel) rfl rfl (Nat.le_of_ble_eq_true rfl) (show decode b_xm_init 51 = .ok (.putfield 33, 3) by decide +kernel) (fun H locs hP hD hS => ?_)
  have hP : va_P D vw_cl [(h0, .inr (0, [.ref q9, .ref q19, .ref q27, .ref q33, .ref q44, .int 0, .int 0, .int 0, .int 0, .int 0, .int 0, .int 0])), (q9, .inl (cA, n6, .inl (fun _ => 0))), (q19, .inl (cA, n16, .inl (fun _ => 0))), (q27, .inl (cA, 32, .inl (fun _ => 0))), (q33, .inr (1, [.ref z37_0, .ref z37_1, .ref z37_2, .int 0])), (z37_0, .inl (cA, 18, .inl (fun _ => 0))), (z37_1, .inl (cA, 18, .inl (fun _ => 0))), (z37_2, .inl (cA, 18, .inl (fun _ => 0))), (q44, .inr (2, [.ref z48_0, .ref z48_1, .int 0])), (z48_0, .inl (cA, 12, .inl (fun _ => 0))), (z48_1, .inl (cA, 12, .inl (fun _ => 0)))] H := hP
  have hD : va_D A [(h0, .inr (0, [.ref q9, .ref q19, .ref q27, .ref q33, .ref q44, .int 0, .int 0, .int 0, .int 0, .int 0, .int 0, .int 0])), (q9, .inl (cA, n6, .inl (fun _ => 0))), (q19, .inl (cA, n16, .inl (fun _ => 0))), (q27, .inl (cA, 32, .inl (fun _ => 0))), (q33, .inr (1, [.ref z37_0, .ref z37_1, .ref z37_2, .int 0])), (z37_0, .inl (cA, 18, .inl (fun _ => 0))), (z37_1, .inl (cA, 18, .inl (fun _ => 0))), (z37_2, .inl (cA, 18, .inl (fun _ => 0))), (q44, .inr (2, [.ref z48_0, .ref z48_1, .int 0])), (z48_0, .inl (cA, 12, .inl (fun _ => 0))), (z48_1, .inl (cA, 12, .inl (fun _ => 0)))] := hD
  refine W.widen (k := 10) (n := 1000) (by omega) (by omega) ?_
  let ad : Nat → Nat := fun k => match k with
    | 0 => h0
    | 1 => q9
    | 2 => q19
    | 3 => q27
    | 4 => q33
    | 5 => z37_0
    | 6 => z37_1
    | 7 => z37_2
    | 8 => q44
    | 9 => z48_0
    | _ => z48_1
  have hP9 : va_P D vw_cl (mx_w ad cA mx_0 0 (kx n6 n16)) H := hP.sub [0, 1, 2, 3, 4, 5, 6, 7, 8, 9, 10] rfl
  have hD9 : va_D A (mx_w ad cA mx_0 0 (kx n6 n16)) := hD.sub [0, 1, 2, 3, 4, 5, 6, 7, 8, 9, 10] (by decide) rfl
  exact W.vret hx hb hr (fun t ht hW => ⟨⟨(ad, n6, n16), rfl, ⟨rfl, ⟨_, hr6.1, hr6.2.1, hr6.2.2.1, hr6.2.2.2⟩, ⟨_, hr16.1, hr16.2.1, hr16.2.2.1, hr16.2.2.2⟩⟩, by rw [ht]; exact hP9, hD9⟩, hS.F ht⟩) hS.2.2 (show decode b_xm_init 54 = .ok (.return_, 1) by decide +kernel)
set_option maxRecDepth 100000 in
set_option maxHeartbeats 4000000 in
theorem ci_mm_init (l : Launch) (D : va_G) (cA : ClassId) (h0 sz : Nat) (a1 a2 : Int32) : Met l y_mm_init (.code y_mm_init b_mm_init 3 none :: vw_Q) { frames := 1, cells := 10, slots := 1000, locals := 12 } (va_Pc [.ref h0, .int a1, .int a2] (fun U => U.heap.size = sz ∧ va_P D vw_cl [(h0, .inr (3, [.int 0, .int 0, .int 0, .null, .null, .null, .int 0, .int 0, .int 0, .int 0, .int 0, .int 0, .int 0, .int 0, .null, .null, .null, .int 0, .null, .null, .int 0, .null, .null]))] U.heap ∧ va_K D vw_cl [(cA, .int)] U ∧ va_D (fun _ => True) [(h0, .inr (3, [.int 0, .int 0, .int 0, .null, .null, .null, .int 0, .int 0, .int 0, .int 0, .int 0, .int 0, .int 0, .int 0, .null, .null, .null, .int 0, .null, .null, .int 0, .null, .null]))])) (va_Qv (fun u : (Nat → Nat) × Int32 × Int32 => u.1 0 = h0 ∧ u.2.1 = ml_clamp a1 ∧ u.2.2 = ml_clamp a2) (fun u t => va_P D vw_cl (mx_w u.1 cA (mx_sf (mx_sf mx_0 0 1 u.2.1) 0 2 u.2.2) 0 km) t.heap ∧ va_D (va_A [(h0, .inr (3, [.int 0, .int 0, .int 0, .null, .null, .null, .int 0, .int 0, .int 0, .int 0, .int 0, .int 0, .int 0, .int 0, .null, .null, .null, .int 0, .null, .null, .int 0, .null, .null]))] sz) (mx_w u.1 cA (mx_sf (mx_sf mx_0 0 1 u.2.1) 0 2 u.2.2) 0 km)) (va_A [(h0, .inr (3, [.int 0, .int 0, .int 0, .null, .null, .null, .int 0, .int 0, .int 0, .int 0, .int 0, .int 0, .int 0, .int 0, .null, .null, .null, .int 0, .null, .null, .int 0, .null, .null]))] sz)) 10 1000 (va_A [(h0, .inr (3, [.int 0, .int 0, .int 0, .null, .null, .null, .int 0, .int 0, .int 0, .int 0, .int 0, .int 0, .int 0, .int 0, .null, .null, .null, .int 0, .null, .null, .int 0, .null, .null]))] sz) := by
  refine Met.ofW (cc := b_mm_init) (maxL := 3) (ret := none) (by decide) rfl ?_
  intro p e s m args below meth c s₁ B hml hv
  obtain ⟨rfl, hsz, hP, hK, hD0⟩ := hv
  have hx := B.exec
  have hb := B.bytes
  have hr := B.returns
  have hts0 := atoms_spec (ws := .code y_mm_init b_mm_init 3 none :: vw_Q) B.pre
  have hts : ∀ w ∈ vw_Q, w.before _ s = true := fun w hw => hts0 w (List.mem_cons_of_mem _ hw)
  have hown : s.vm.findClass "WideMachineModel" = some m.cls := findClass_of_methodNamed B.named
  have hlocks := B.notSynchronized
  have hin : meth.name = "<init>" := (name_of_methodNamed B.named B.method).1
  subst hsz
  have hD := hD0.self (sz := s.heap.size)
  generalize hAe : va_A [(h0, .inr (3, [.int 0, .int 0, .int 0, .null, .null, .null, .int 0, .int 0, .int 0, .int 0, .int 0, .int 0, .int 0, .int 0, .null, .null, .null, .int 0, .null, .null, .int 0, .null, .null]))] s.heap.size = A at hD ⊢
  have hA : ∀ q : Nat, s.heap.size ≤ q → A q := fun q h => by rw [← hAe]; exact Or.inr h
  have hS : va_S A s.heap s.heap [] := va_S.rf
  have hl := lv_entry ([.ref h0, .int a1, .int a2]) (n := 3) (Nat.le_of_ble_eq_true rfl)
  rw [lg_entry_eq]
  generalize (lg_sl ([.ref h0, .int a1, .int a2]) ++ List.replicate (3 - (lg_sl ([.ref h0, .int a1, .int a2])).length) Slot.unset).toArray = ls at hl ⊢
  have hl : lv_has ls 3 [(0, .ref h0), (1, .int a1), (2, .int a2)] := hl
  refine lv_aload_n hx hb (show decode b_mm_init 0 = .ok (.aload_n 0, 1) by decide +kernel) rfl (lv_at hl 0 rfl) ?_
  refine W.objInit hx hb hown (hts _ vk_35) (hts _ vk_4) (hts _ vk_5) rfl (by rw [hml]; exact hl.1) rfl (show decode b_mm_init 1 = .ok (.invokespecial 1, 3) by decide +kernel) (Nat.le_of_ble_eq_true rfl) (Nat.le_of_ble_eq_true rfl) ?_
  refine W.eq (g2 := F0 m 4 ls []) rfl ?_
  refine lv_aload_n hx hb (show decode b_mm_init 4 = .ok (.aload_n 0, 1) by decide +kernel) rfl (lv_at hl 0 rfl) ?_
  refine lv_sipush (v := 256) hx hb (show decode b_mm_init 5 = .ok (.sipush 256, 3) by decide +kernel) (by decide) ?_
  refine va_newa (atype := .int) (a0 := (256, .inl (fun _ => 0))) (N' := 256) hx hb (hts _ vk_6) rfl hK hP hD hS hA (fun _ => rfl) (by decide) (by decide) (by decide) (by show _ ≤ 10; omega) (by show _ ≤ 1000; omega) (show decode b_mm_init 8 = .ok (.newarray .int, 2) by decide +kernel) (fun q8 cA' H hK1 hP hD hS => ?_)
  have ecA : cA = cA' := Option.some.inj ((hK1.2 0 _ rfl).2.symm.trans (hK1.2 1 _ rfl).2)
  subst ecA
  have hP : va_P D vw_cl [(h0, .inr (3, [.int 0, .int 0, .int 0, .null, .null, .null, .int 0, .int 0, .int 0, .int 0, .int 0, .int 0, .int 0, .int 0, .null, .null, .null, .int 0, .null, .null, .int 0, .null, .null])), (q8, .inl (cA, 256, .inl (fun _ => 0)))] H := hP
  have hD : va_D A [(h0, .inr (3, [.int 0, .int 0, .int 0, .null, .null, .null, .int 0, .int 0, .int 0, .int 0, .int 0, .int 0, .int 0, .int 0, .null, .null, .null, .int 0, .null, .null, .int 0, .null, .null])), (q8, .inl (cA, 256, .inl (fun _ => 0)))] := hD
  refine W.widen (k := 1) (n := 0 + 256) (by omega) (by omega) ?_
  refine va_putF (D := D) (ci := 3) (v := .ref q8) (ty := .array .int) (C := "WideMachineModel") (T := ff_3) (N := 23) hx hb hts uk_3 ft_3 fo_3 fn_3 hown hK hP hD hS 0 rfl rfl 3 (by decide) (hts _ vk_36) (fun _ h9 => h9) rfl hin rfl (by decide +kernel) rfl rfl (Nat.le_of_ble_eq_true rfl) (show decode b_mm_init 10 = .ok (.putfield 7, 3) by decide +kernel) (fun H locs hP hD hS => ?_)
  have hP : va_P D vw_cl [(h0, .inr (3, [.int 0, .int 0, .int 0, .ref q8, .null, .null, .int 0, .int 0, .int 0, .int 0, .int 0, .int 0, .int 0, .int 0, .null, .null, .null, .int 0, .null, .null, .int 0, .null, .null])), (q8, .inl (cA, 256, .inl (fun _ => 0)))] H := hP
  have hD : va_D A [(h0, .inr (3, [.int 0, .int 0, .int 0, .ref q8, .null, .null, .int 0, .int 0, .int 0, .int 0, .int 0, .int 0, .int 0, .int 0, .null, .null, .null, .int 0, .null, .null, .int 0, .null, .null])), (q8, .inl (cA, 256, .inl (fun _ => 0)))] := hD
  refine lv_aload_n hx hb (show decode b_mm_init 13 = .ok (.aload_n 0, 1) by decide +kernel) rfl (lv_at hl 0 rfl) ?_
  refine lv_sipush (v := 256) hx hb (show decode b_mm_init 14 = .ok (.sipush 256, 3) by decide +kernel) (by decide) ?_
  refine va_newa (atype := .int) (a0 := (256, .inl (fun _ => 0))) (N' := 256) hx hb (hts _ vk_6) rfl hK hP hD hS hA (fun _ => rfl) (by decide) (by decide) (by decide) (by show _ ≤ 10; omega) (by show _ ≤ 1000; omega) (show decode b_mm_init 17 = .ok (.newarray .int, 2) by decide +kernel) (fun q17 cA' H hK1 hP hD hS => ?_)
  have ecA : cA = cA' := Option.some.inj ((hK1.2 0 _ rfl).2.symm.trans (hK1.2 1 _ rfl).2)
  subst ecA
  have hP : va_P D vw_cl [(h0, .inr (3, [.int 0, .int 0, .int 0, .ref q8, .null, .null, .int 0, .int 0, .int 0, .int 0, .int 0, .int 0, .int 0, .int 0, .null, .null, .null, .int 0, .null, .null, .int 0, .null, .null])), (q8, .inl (cA, 256, .inl (fun _ => 0))), (q17, .inl (cA, 256, .inl (fun _ => 0)))] H := hP
  have hD : va_D A [(h0, .inr (3, [.int 0, .int 0, .int 0, .ref q8, .null, .null, .int 0, .int 0, .int 0, .int 0, .int 0, .int 0, .int 0, .int 0, .null, .null, .null, .int 0, .null, .null, .int 0, .null, .null])), (q8, .inl (cA, 256, .inl (fun _ => 0))), (q17, .inl (cA, 256, .inl (fun _ => 0)))] := hD
  refine W.widen (k := 2) (n := 0 + 256 + 256) (by omega) (by omega) ?_
  refine va_putF (D := D) (ci := 3) (v := .ref q17) (ty := .array .int) (C := "WideMachineModel") (T := ff_3) (N := 23) hx hb hts uk_3 ft_3 fo_3 fn_3 hown hK hP hD hS 0 rfl rfl 4 (by decide) (hts _ vk_37) (fun _ h9 => h9) rfl hin rfl (by decide +kernel) rfl rfl (Nat.le_of_ble_eq_true rfl) (show decode b_mm_init 19 = .ok (.putfield 13, 3) by decide +kernel) (fun H locs hP hD hS => ?_)
  have hP : va_P D vw_cl [(h0, .inr (3, [.int 0, .int 0, .int 0, .ref q8, .ref q17, .null, .int 0, .int 0, .int 0, .int 0, .int 0, .int 0, .int 0, .int 0, .null, .null, .null, .int 0, .null, .null, .int 0, .null, .null])), (q8, .inl (cA, 256, .inl (fun _ => 0))), (q17, .inl (cA, 256, .inl (fun _ => 0)))] H := hP
  have hD : va_D A [(h0, .inr (3, [.int 0, .int 0, .int 0, .ref q8, .ref q17, .null, .int 0, .int 0, .int 0, .int 0, .int 0, .int 0, .int 0, .int 0, .null, .null, .null, .int 0, .null, .null, .int 0, .null, .null])), (q8, .inl (cA, 256, .inl (fun _ => 0))), (q17, .inl (cA, 256, .inl (fun _ => 0)))] := hD
  refine lv_aload_n hx hb (show decode b_mm_init 22 = .ok (.aload_n 0, 1) by decide +kernel) rfl (lv_at hl 0 rfl) ?_
  refine lv_bipush (v := 32) hx hb (show decode b_mm_init 23 = .ok (.bipush 32, 2) by decide +kernel) (by decide) ?_
  refine va_newa (atype := .int) (a0 := (32, .inl (fun _ => 0))) (N' := 32) hx hb (hts _ vk_6) rfl hK hP hD hS hA (fun _ => rfl) (by decide) (by decide) (by decide) (by show _ ≤ 10; omega) (by show _ ≤ 1000; omega) (show decode b_mm_init 25 = .ok (.newarray .int, 2) by decide +kernel) (fun q25 cA' H hK1 hP hD hS => ?_)
  have ecA : cA = cA' := Option.some.inj ((hK1.2 0 _ rfl).2.symm.trans (hK1.2 1 _ rfl).2)
  subst ecA
  have hP : va_P D vw_cl [(h0, .inr (3, [.int 0, .int 0, .int 0, .ref q8, .ref q17, .null, .int 0, .int 0, .int 0, .int 0, .int 0, .int 0, .int 0, .int 0, .null, .null, .null, .int 0, .null, .null, .int 0, .null, .null])), (q8, .inl (cA, 256, .inl (fun _ => 0))), (q17, .inl (cA, 256, .inl (fun _ => 0))), (q25, .inl (cA, 32, .inl (fun _ => 0)))] H := hP
  have hD : va_D A [(h0, .inr (3, [.int 0, .int 0, .int 0, .ref q8, .ref q17, .null, .int 0, .int 0, .int 0, .int 0, .int 0, .int 0, .int 0, .int 0, .null, .null, .null, .int 0, .null, .null, .int 0, .null, .null])), (q8, .inl (cA, 256, .inl (fun _ => 0))), (q17, .inl (cA, 256, .inl (fun _ => 0))), (q25, .inl (cA, 32, .inl (fun _ => 0)))] := hD
  refine W.widen (k := 3) (n := 0 + 256 + 256 + 32) (by omega) (by omega) ?_
  refine va_putF (D := D) (ci := 3) (v := .ref q25) (ty := .array .int) (C := "WideMachineModel") (T := ff_3) (N := 23) hx hb hts uk_3 ft_3 fo_3 fn_3 hown hK hP hD hS 0 rfl rfl 5 (by decide) (hts _ vk_38) (fun _ h9 => h9) rfl hin rfl (by decide +kernel) rfl rfl (Nat.le_of_ble_eq_true rfl) (show decode b_mm_init 27 = .ok (.putfield 16, 3) by decide +kernel) (fun H locs hP hD hS => ?_)
  have hP : va_P D vw_cl [(h0, .inr (3, [.int 0, .int 0, .int 0, .ref q8, .ref q17, .ref q25, .int 0, .int 0, .int 0, .int 0, .int 0, .int 0, .int 0, .int 0, .null, .null, .null, .int 0, .null, .null, .int 0, .null, .null])), (q8, .inl (cA, 256, .inl (fun _ => 0))), (q17, .inl (cA, 256, .inl (fun _ => 0))), (q25, .inl (cA, 32, .inl (fun _ => 0)))] H := hP
  have hD : va_D A [(h0, .inr (3, [.int 0, .int 0, .int 0, .ref q8, .ref q17, .ref q25, .int 0, .int 0, .int 0, .int 0, .int 0, .int 0, .int 0, .int 0, .null, .null, .null, .int 0, .null, .null, .int 0, .null, .null])), (q8, .inl (cA, 256, .inl (fun _ => 0))), (q17, .inl (cA, 256, .inl (fun _ => 0))), (q25, .inl (cA, 32, .inl (fun _ => 0)))] := hD
  refine lv_aload_n hx hb (show decode b_mm_init 30 = .ok (.aload_n 0, 1) by decide +kernel) rfl (lv_at hl 0 rfl) ?_
  refine lv_bipush (v := 64) hx hb (show decode b_mm_init 31 = .ok (.bipush 64, 2) by decide +kernel) (by decide) ?_
  refine va_newa (atype := .int) (a0 := (64, .inl (fun _ => 0))) (N' := 64) hx hb (hts _ vk_6) rfl hK hP hD hS hA (fun _ => rfl) (by decide) (by decide) (by decide) (by show _ ≤ 10; omega) (by show _ ≤ 1000; omega) (show decode b_mm_init 33 = .ok (.newarray .int, 2) by decide +kernel) (fun q33 cA' H hK1 hP hD hS => ?_)
  have ecA : cA = cA' := Option.some.inj ((hK1.2 0 _ rfl).2.symm.trans (hK1.2 1 _ rfl).2)
  subst ecA
  have hP : va_P D vw_cl [(h0, .inr (3, [.int 0, .int 0, .int 0, .ref q8, .ref q17, .ref q25, .int 0, .int 0, .int 0, .int 0, .int 0, .int 0, .int 0, .int 0, .null, .null, .null, .int 0, .null, .null, .int 0, .null, .null])), (q8, .inl (cA, 256, .inl (fun _ => 0))), (q17, .inl (cA, 256, .inl (fun _ => 0))), (q25, .inl (cA, 32, .inl (fun _ => 0))), (q33, .inl (cA, 64, .inl (fun _ => 0)))] H := hP
  have hD : va_D A [(h0, .inr (3, [.int 0, .int 0, .int 0, .ref q8, .ref q17, .ref q25, .int 0, .int 0, .int 0, .int 0, .int 0, .int 0, .int 0, .int 0, .null, .null, .null, .int 0, .null, .null, .int 0, .null, .null])), (q8, .inl (cA, 256, .inl (fun _ => 0))), (q17, .inl (cA, 256, .inl (fun _ => 0))), (q25, .inl (cA, 32, .inl (fun _ => 0))), (q33, .inl (cA, 64, .inl (fun _ => 0)))] := hD
  refine W.widen (k := 4) (n := 0 + 256 + 256 + 32 + 64) (by omega) (by omega) ?_
  refine va_putF (D := D) (ci := 3) (v := .ref q33) (ty := .array .int) (C := "WideMachineModel") (T := ff_3) (N := 23) hx hb hts uk_3 ft_3 fo_3 fn_3 hown hK hP hD hS 0 rfl rfl 14 (by decide) (hts _ vk_39) (fun _ h9 => h9) rfl hin rfl (by decide +kernel) rfl rfl (Nat.le_of_ble_eq_true rfl) (show decode b_mm_init 35 = .ok (.putfield 19, 3) by decide +kernel) (fun H locs hP hD hS => ?_)
  have hP : va_P D vw_cl [(h0, .inr (3, [.int 0, .int 0, .int 0, .ref q8, .ref q17, .ref q25, .int 0, .int 0, .int 0, .int 0, .int 0, .int 0, .int 0, .int 0, .ref q33, .null, .null, .int 0, .null, .null, .int 0, .null, .null])), (q8, .inl (cA, 256, .inl (fun _ => 0))), (q17, .inl (cA, 256, .inl (fun _ => 0))), (q25, .inl (cA, 32, .inl (fun _ => 0))), (q33, .inl (cA, 64, .inl (fun _ => 0)))] H := hP
  have hD : va_D A [(h0, .inr (3, [.int 0, .int 0, .int 0, .ref q8, .ref q17, .ref q25, .int 0, .int 0, .int 0, .int 0, .int 0, .int 0, .int 0, .int 0, .ref q33, .null, .null, .int 0, .null, .null, .int 0, .null, .null])), (q8, .inl (cA, 256, .inl (fun _ => 0))), (q17, .inl (cA, 256, .inl (fun _ => 0))), (q25, .inl (cA, 32, .inl (fun _ => 0))), (q33, .inl (cA, 64, .inl (fun _ => 0)))] := hD
  refine lv_aload_n hx hb (show decode b_mm_init 38 = .ok (.aload_n 0, 1) by decide +kernel) rfl (lv_at hl 0 rfl) ?_
  refine lv_bipush (v := 64) hx hb (show decode b_mm_init 39 = .ok (.bipush 64, 2) by decide +kernel) (by decide) ?_
  refine va_newa (atype := .int) (a0 := (64, .inl (fun _ => 0))) (N' := 64) hx hb (hts _ vk_6) rfl hK hP hD hS hA (fun _ => rfl) (by decide) (by decide) (by decide) (by show _ ≤ 10; omega) (by show _ ≤ 1000; omega) (show decode b_mm_init 41 = .ok (.newarray .int, 2) by decide +kernel) (fun q41 cA' H hK1 hP hD hS => ?_)
  have ecA : cA = cA' := Option.some.inj ((hK1.2 0 _ rfl).2.symm.trans (hK1.2 1 _ rfl).2)
  subst ecA
  have hP : va_P D vw_cl [(h0, .inr (3, [.int 0, .int 0, .int 0, .ref q8, .ref q17, .ref q25, .int 0, .int 0, .int 0, .int 0, .int 0, .int 0, .int 0, .int 0, .ref q33, .null, .null, .int 0, .null, .null, .int 0, .null, .null])), (q8, .inl (cA, 256, .inl (fun _ => 0))), (q17, .inl (cA, 256, .inl (fun _ => 0))), (q25, .inl (cA, 32, .inl (fun _ => 0))), (q33, .inl (cA, 64, .inl (fun _ => 0))), (q41, .inl (cA, 64, .inl (fun _ => 0)))] H := hP
  have hD : va_D A [(h0, .inr (3, [.int 0, .int 0, .int 0, .ref q8, .ref q17, .ref q25, .int 0, .int 0, .int 0, .int 0, .int 0, .int 0, .int 0, .int 0, .ref q33, .null, .null, .int 0, .null, .null, .int 0, .null, .null])), (q8, .inl (cA, 256, .inl (fun _ => 0))), (q17, .inl (cA, 256, .inl (fun _ => 0))), (q25, .inl (cA, 32, .inl (fun _ => 0))), (q33, .inl (cA, 64, .inl (fun _ => 0))), (q41, .inl (cA, 64, .inl (fun _ => 0)))] := hD
  refine W.widen (k := 5) (n := 0 + 256 + 256 + 32 + 64 + 64) (by omega) (by omega) ?_
  refine va_putF (D := D) (ci := 3) (v := .ref q41) (ty := .array .int) (C := "WideMachineModel") (T := ff_3) (N := 23) hx hb hts uk_3 ft_3 fo_3 fn_3 hown hK hP hD hS 0 rfl rfl 15 (by decide) (hts _ vk_40) (fun _ h9 => h9) rfl hin rfl (by decide +kernel) rfl rfl (Nat.le_of_ble_eq_true rfl) (show decode b_mm_init 43 = .ok (.putfield 22, 3) by decide +kernel) (fun H locs hP hD hS => ?_)
  have hP : va_P D vw_cl [(h0, .inr (3, [.int 0, .int 0, .int 0, .ref q8, .ref q17, .ref q25, .int 0, .int 0, .int 0, .int 0, .int 0, .int 0, .int 0, .int 0, .ref q33, .ref q41, .null, .int 0, .null, .null, .int 0, .null, .null])), (q8, .inl (cA, 256, .inl (fun _ => 0))), (q17, .inl (cA, 256, .inl (fun _ => 0))), (q25, .inl (cA, 32, .inl (fun _ => 0))), (q33, .inl (cA, 64, .inl (fun _ => 0))), (q41, .inl (cA, 64, .inl (fun _ => 0)))] H := hP
  have hD : va_D A [(h0, .inr (3, [.int 0, .int 0, .int 0, .ref q8, .ref q17, .ref q25, .int 0, .int 0, .int 0, .int 0, .int 0, .int 0, .int 0, .int 0, .ref q33, .ref q41, .null, .int 0, .null, .null, .int 0, .null, .null])), (q8, .inl (cA, 256, .inl (fun _ => 0))), (q17, .inl (cA, 256, .inl (fun _ => 0))), (q25, .inl (cA, 32, .inl (fun _ => 0))), (q33, .inl (cA, 64, .inl (fun _ => 0))), (q41, .inl (cA, 64, .inl (fun _ => 0)))] := hD
  refine lv_aload_n hx hb (show decode b_mm_init 46 = .ok (.aload_n 0, 1) by decide +kernel) rfl (lv_at hl 0 rfl) ?_
  refine lv_bipush (v := 64) hx hb (show decode b_mm_init 47 = .ok (.bipush 64, 2) by decide +kernel) (by decide) ?_
  refine va_newa (atype := .int) (a0 := (64, .inl (fun _ => 0))) (N' := 64) hx hb (hts _ vk_6) rfl hK hP hD hS hA (fun _ => rfl) (by decide) (by decide) (by decide) (by show _ ≤ 10; omega) (by show _ ≤ 1000; omega) (show decode b_mm_init 49 = .ok (.newarray .int, 2) by decide +kernel) (fun q49 cA' H hK1 hP hD hS => ?_)
  have ecA : cA = cA' := Option.some.inj ((hK1.2 0 _ rfl).2.symm.trans (hK1.2 1 _ rfl).2)
  subst ecA
  have hP : va_P D vw_cl [(h0, .inr (3, [.int 0, .int 0, .int 0, .ref q8, .ref q17, .ref q25, .int 0, .int 0, .int 0, .int 0, .int 0, .int 0, .int 0, .int 0, .ref q33, .ref q41, .null, .int 0, .null, .null, .int 0, .null, .null])), (q8, .inl (cA, 256, .inl (fun _ => 0))), (q17, .inl (cA, 256, .inl (fun _ => 0))), (q25, .inl (cA, 32, .inl (fun _ => 0))), (q33, .inl (cA, 64, .inl (fun _ => 0))), (q41, .inl (cA, 64, .inl (fun _ => 0))), (q49, .inl (cA, 64, .inl (fun _ => 0)))] H := hP
  have hD : va_D A [(h0, .inr (3, [.int 0, .int 0, .int 0, .ref q8, .ref q17, .ref q25, .int 0, .int 0, .int 0, .int 0, .int 0, .int 0, .int 0, .int 0, .ref q33, .ref q41, .null, .int 0, .null, .null, .int 0, .null, .null])), (q8, .inl (cA, 256, .inl (fun _ => 0))), (q17, .inl (cA, 256, .inl (fun _ => 0))), (q25, .inl (cA, 32, .inl (fun _ => 0))), (q33, .inl (cA, 64, .inl (fun _ => 0))), (q41, .inl (cA, 64, .inl (fun _ => 0))), (q49, .inl (cA, 64, .inl (fun _ => 0)))] := hD
  refine W.widen (k := 6) (n := 0 + 256 + 256 + 32 + 64 + 64 + 64) (by omega) (by omega) ?_
  refine va_putF (D := D) (ci := 3) (v := .ref q49) (ty := .array .int) (C := "WideMachineModel") (T := ff_3) (N := 23) hx hb hts uk_3 ft_3 fo_3 fn_3 hown hK hP hD hS 0 rfl rfl 16 (by decide) (hts _ vk_41) (fun _ h9 => h9) rfl hin rfl (by decide +kernel) rfl rfl (Nat.le_of_ble_eq_true rfl) (show decode b_mm_init 51 = .ok (.putfield 25, 3) by decide +kernel) (fun H locs hP hD hS => ?_)
  have hP : va_P D vw_cl [(h0, .inr (3, [.int 0, .int 0, .int 0, .ref q8, .ref q17, .ref q25, .int 0, .int 0, .int 0, .int 0, .int 0, .int 0, .int 0, .int 0, .ref q33, .ref q41, .ref q49, .int 0, .null, .null, .int 0, .null, .null])), (q8, .inl (cA, 256, .inl (fun _ => 0))), (q17, .inl (cA, 256, .inl (fun _ => 0))), (q25, .inl (cA, 32, .inl (fun _ => 0))), (q33, .inl (cA, 64, .inl (fun _ => 0))), (q41, .inl (cA, 64, .inl (fun _ => 0))), (q49, .inl (cA, 64, .inl (fun _ => 0)))] H := hP
  have hD : va_D A [(h0, .inr (3, [.int 0, .int 0, .int 0, .ref q8, .ref q17, .ref q25, .int 0, .int 0, .int 0, .int 0, .int 0, .int 0, .int 0, .int 0, .ref q33, .ref q41, .ref q49, .int 0, .null, .null, .int 0, .null, .null])), (q8, .inl (cA, 256, .inl (fun _ => 0))), (q17, .inl (cA, 256, .inl (fun _ => 0))), (q25, .inl (cA, 32, .inl (fun _ => 0))), (q33, .inl (cA, 64, .inl (fun _ => 0))), (q41, .inl (cA, 64, .inl (fun _ => 0))), (q49, .inl (cA, 64, .inl (fun _ => 0)))] := hD
  refine lv_aload_n hx hb (show decode b_mm_init 54 = .ok (.aload_n 0, 1) by decide +kernel) rfl (lv_at hl 0 rfl) ?_
  refine lv_bipush (v := 32) hx hb (show decode b_mm_init 55 = .ok (.bipush 32, 2) by decide +kernel) (by decide) ?_
  refine va_newa (atype := .int) (a0 := (32, .inl (fun _ => 0))) (N' := 32) hx hb (hts _ vk_6) rfl hK hP hD hS hA (fun _ => rfl) (by decide) (by decide) (by decide) (by show _ ≤ 10; omega) (by show _ ≤ 1000; omega) (show decode b_mm_init 57 = .ok (.newarray .int, 2) by decide +kernel) (fun q57 cA' H hK1 hP hD hS => ?_)
  have ecA : cA = cA' := Option.some.inj ((hK1.2 0 _ rfl).2.symm.trans (hK1.2 1 _ rfl).2)
  subst ecA
  have hP : va_P D vw_cl [(h0, .inr (3, [.int 0, .int 0, .int 0, .ref q8, .ref q17, .ref q25, .int 0, .int 0, .int 0, .int 0, .int 0, .int 0, .int 0, .int 0, .ref q33, .ref q41, .ref q49, .int 0, .null, .null, .int 0, .null, .null])), (q8, .inl (cA, 256, .inl (fun _ => 0))), (q17, .inl (cA, 256, .inl (fun _ => 0))), (q25, .inl (cA, 32, .inl (fun _ => 0))), (q33, .inl (cA, 64, .inl (fun _ => 0))), (q41, .inl (cA, 64, .inl (fun _ => 0))), (q49, .inl (cA, 64, .inl (fun _ => 0))), (q57, .inl (cA, 32, .inl (fun _ => 0)))] H := hP
  have hD : va_D A [(h0, .inr (3, [.int 0, .int 0, .int 0, .ref q8, .ref q17, .ref q25, .int 0, .int 0, .int 0, .int 0, .int 0, .int 0, .int 0, .int 0, .ref q33, .ref q41, .ref q49, .int 0, .null, .null, .int 0, .null, .null])), (q8, .inl (cA, 256, .inl (fun _ => 0))), (q17, .inl (cA, 256, .inl (fun _ => 0))), (q25, .inl (cA, 32, .inl (fun _ => 0))), (q33, .inl (cA, 64, .inl (fun _ => 0))), (q41, .inl (cA, 64, .inl (fun _ => 0))), (q49, .inl (cA, 64, .inl (fun _ => 0))), (q57, .inl (cA, 32, .inl (fun _ => 0)))] := hD
  refine W.widen (k := 7) (n := 0 + 256 + 256 + 32 + 64 + 64 + 64 + 32) (by omega) (by omega) ?_
  refine va_putF (D := D) (ci := 3) (v := .ref q57) (ty := .array .int) (C := "WideMachineModel") (T := ff_3) (N := 23) hx hb hts uk_3 ft_3 fo_3 fn_3 hown hK hP hD hS 0 rfl rfl 18 (by decide) (hts _ vk_42) (fun _ h9 => h9) rfl hin rfl (by decide +kernel) rfl rfl (Nat.le_of_ble_eq_true rfl) (show decode b_mm_init 59 = .ok (.putfield 28, 3) by decide +kernel) (fun H locs hP hD hS => ?_)
  have hP : va_P D vw_cl [(h0, .inr (3, [.int 0, .int 0, .int 0, .ref q8, .ref q17, .ref q25, .int 0, .int 0, .int 0, .int 0, .int 0, .int 0, .int 0, .int 0, .ref q33, .ref q41, .ref q49, .int 0, .ref q57, .null, .int 0, .null, .null])), (q8, .inl (cA, 256, .inl (fun _ => 0))), (q17, .inl (cA, 256, .inl (fun _ => 0))), (q25, .inl (cA, 32, .inl (fun _ => 0))), (q33, .inl (cA, 64, .inl (fun _ => 0))), (q41, .inl (cA, 64, .inl (fun _ => 0))), (q49, .inl (cA, 64, .inl (fun _ => 0))), (q57, .inl (cA, 32, .inl (fun _ => 0)))] H := hP
  have hD : va_D A [(h0, .inr (3, [.int 0, .int 0, .int 0, .ref q8, .ref q17, .ref q25, .int 0, .int 0, .int 0, .int 0, .int 0, .int 0, .int 0, .int 0, .ref q33, .ref q41, .ref q49, .int 0, .ref q57, .null, .int 0, .null, .null])), (q8, .inl (cA, 256, .inl (fun _ => 0))), (q17, .inl (cA, 256, .inl (fun _ => 0))), (q25, .inl (cA, 32, .inl (fun _ => 0))), (q33, .inl (cA, 64, .inl (fun _ => 0))), (q41, .inl (cA, 64, .inl (fun _ => 0))), (q49, .inl (cA, 64, .inl (fun _ => 0))), (q57, .inl (cA, 32, .inl (fun _ => 0)))] := hD
  refine lv_aload_n hx hb (show decode b_mm_init 62 = .ok (.aload_n 0, 1) by decide +kernel) rfl (lv_at hl 0 rfl) ?_
  refine lv_bipush (v := 32) hx hb (show decode b_mm_init 63 = .ok (.bipush 32, 2) by decide +kernel) (by decide) ?_
  refine va_newa (atype := .int) (a0 := (32, .inl (fun _ => 0))) (N' := 32) hx hb (hts _ vk_6) rfl hK hP hD hS hA (fun _ => rfl) (by decide) (by decide) (by decide) (by show _ ≤ 10; omega) (by show _ ≤ 1000; omega) (show decode b_mm_init 65 = .ok (.newarray .int, 2) by decide +kernel) (fun q65 cA' H hK1 hP hD hS => ?_)
  have ecA : cA = cA' := Option.some.inj ((hK1.2 0 _ rfl).2.symm.trans (hK1.2 1 _ rfl).2)
  subst ecA
  have hP : va_P D vw_cl [(h0, .inr (3, [.int 0, .int 0, .int 0, .ref q8, .ref q17, .ref q25, .int 0, .int 0, .int 0, .int 0, .int 0, .int 0, .int 0, .int 0, .ref q33, .ref q41, .ref q49, .int 0, .ref q57, .null, .int 0, .null, .null])), (q8, .inl (cA, 256, .inl (fun _ => 0))), (q17, .inl (cA, 256, .inl (fun _ => 0))), (q25, .inl (cA, 32, .inl (fun _ => 0))), (q33, .inl (cA, 64, .inl (fun _ => 0))), (q41, .inl (cA, 64, .inl (fun _ => 0))), (q49, .inl (cA, 64, .inl (fun _ => 0))), (q57, .inl (cA, 32, .inl (fun _ => 0))), (q65, .inl (cA, 32, .inl (fun _ => 0)))] H := hP
  have hD : va_D A [(h0, .inr (3, [.int 0, .int 0, .int 0, .ref q8, .ref q17, .ref q25, .int 0, .int 0, .int 0, .int 0, .int 0, .int 0, .int 0, .int 0, .ref q33, .ref q41, .ref q49, .int 0, .ref q57, .null, .int 0, .null, .null])), (q8, .inl (cA, 256, .inl (fun _ => 0))), (q17, .inl (cA, 256, .inl (fun _ => 0))), (q25, .inl (cA, 32, .inl (fun _ => 0))), (q33, .inl (cA, 64, .inl (fun _ => 0))), (q41, .inl (cA, 64, .inl (fun _ => 0))), (q49, .inl (cA, 64, .inl (fun _ => 0))), (q57, .inl (cA, 32, .inl (fun _ => 0))), (q65, .inl (cA, 32, .inl (fun _ => 0)))] := hD
  refine W.widen (k := 8) (n := 0 + 256 + 256 + 32 + 64 + 64 + 64 + 32 + 32) (by omega) (by omega) ?_
  refine va_putF (D := D) (ci := 3) (v := .ref q65) (ty := .array .int) (C := "WideMachineModel") (T := ff_3) (N := 23) hx hb hts uk_3 ft_3 fo_3 fn_3 hown hK hP hD hS 0 rfl rfl 19 (by decide) (hts _ vk_43) (fun _ h9 => h9) rfl hin rfl (by decide +kernel) rfl rfl (Nat.le_of_ble_eq_true rfl) (show decode b_mm_init 67 = .ok (.putfield 31, 3) by decide +kernel) (fun H locs hP hD hS => ?_)
  have hP : va_P D vw_cl [(h0, .inr (3, [.int 0, .int 0, .int 0, .ref q8, .ref q17, .ref q25, .int 0, .int 0, .int 0, .int 0, .int 0, .int 0, .int 0, .int 0, .ref q33, .ref q41, .ref q49, .int 0, .ref q57, .ref q65, .int 0, .null, .null])), (q8, .inl (cA, 256, .inl (fun _ => 0))), (q17, .inl (cA, 256, .inl (fun _ => 0))), (q25, .inl (cA, 32, .inl (fun _ => 0))), (q33, .inl (cA, 64, .inl (fun _ => 0))), (q41, .inl (cA, 64, .inl (fun _ => 0))), (q49, .inl (cA, 64, .inl (fun _ => 0))), (q57, .inl (cA, 32, .inl (fun _ => 0))), (q65, .inl (cA, 32, .inl (fun _ => 0)))] H := hP
  have hD : va_D A [(h0, .inr (3, [.int 0, .int 0, .int 0, .ref q8, .ref q17, .ref q25, .int 0, .int 0, .int 0, .int 0, .int 0, .int 0, .int 0, .int 0, .ref q33, .ref q41, .ref q49, .int 0, .ref q57, .ref q65, .int 0, .null, .null])), (q8, .inl (cA, 256, .inl (fun _ => 0))), (q17, .inl (cA, 256, .inl (fun _ => 0))), (q25, .inl (cA, 32, .inl (fun _ => 0))), (q33, .inl (cA, 64, .inl (fun _ => 0))), (q41, .inl (cA, 64, .inl (fun _ => 0))), (q49, .inl (cA, 64, .inl (fun _ => 0))), (q57, .inl (cA, 32, .inl (fun _ => 0))), (q65, .inl (cA, 32, .inl (fun _ => 0)))] := hD
  refine lv_aload_n hx hb (show decode b_mm_init 70 = .ok (.aload_n 0, 1) by decide +kernel) rfl (lv_at hl 0 rfl) ?_
  refine lv_bipush (v := 8) hx hb (show decode b_mm_init 71 = .ok (.bipush 8, 2) by decide +kernel) (by decide) ?_
  refine va_newa (atype := .int) (a0 := (8, .inl (fun _ => 0))) (N' := 8) hx hb (hts _ vk_6) rfl hK hP hD hS hA (fun _ => rfl) (by decide) (by decide) (by decide) (by show _ ≤ 10; omega) (by show _ ≤ 1000; omega) (show decode b_mm_init 73 = .ok (.newarray .int, 2) by decide +kernel) (fun q73 cA' H hK1 hP hD hS => ?_)
  have ecA : cA = cA' := Option.some.inj ((hK1.2 0 _ rfl).2.symm.trans (hK1.2 1 _ rfl).2)
  subst ecA
  have hP : va_P D vw_cl [(h0, .inr (3, [.int 0, .int 0, .int 0, .ref q8, .ref q17, .ref q25, .int 0, .int 0, .int 0, .int 0, .int 0, .int 0, .int 0, .int 0, .ref q33, .ref q41, .ref q49, .int 0, .ref q57, .ref q65, .int 0, .null, .null])), (q8, .inl (cA, 256, .inl (fun _ => 0))), (q17, .inl (cA, 256, .inl (fun _ => 0))), (q25, .inl (cA, 32, .inl (fun _ => 0))), (q33, .inl (cA, 64, .inl (fun _ => 0))), (q41, .inl (cA, 64, .inl (fun _ => 0))), (q49, .inl (cA, 64, .inl (fun _ => 0))), (q57, .inl (cA, 32, .inl (fun _ => 0))), (q65, .inl (cA, 32, .inl (fun _ => 0))), (q73, .inl (cA, 8, .inl (fun _ => 0)))] H := hP
  have hD : va_D A [(h0, .inr (3, [.int 0, .int 0, .int 0, .ref q8, .ref q17, .ref q25, .int 0, .int 0, .int 0, .int 0, .int 0, .int 0, .int 0, .int 0, .ref q33, .ref q41, .ref q49, .int 0, .ref q57, .ref q65, .int 0, .null, .null])), (q8, .inl (cA, 256, .inl (fun _ => 0))), (q17, .inl (cA, 256, .inl (fun _ => 0))), (q25, .inl (cA, 32, .inl (fun _ => 0))), (q33, .inl (cA, 64, .inl (fun _ => 0))), (q41, .inl (cA, 64, .inl (fun _ => 0))), (q49, .inl (cA, 64, .inl (fun _ => 0))), (q57, .inl (cA, 32, .inl (fun _ => 0))), (q65, .inl (cA, 32, .inl (fun _ => 0))), (q73, .inl (cA, 8, .inl (fun _ => 0)))] := hD
  refine W.widen (k := 9) (n := 0 + 256 + 256 + 32 + 64 + 64 + 64 + 32 + 32 + 8) (by omega) (by omega) ?_
  refine va_putF (D := D) (ci := 3) (v := .ref q73) (ty := .array .int) (C := "WideMachineModel") (T := ff_3) (N := 23) hx hb hts uk_3 ft_3 fo_3 fn_3 hown hK hP hD hS 0 rfl rfl 21 (by decide) (hts _ vk_44) (fun _ h9 => h9) rfl hin rfl (by decide +kernel) rfl rfl (Nat.le_of_ble_eq_true rfl) (show decode b_mm_init 75 = .ok (.putfield 34, 3) by decide +kernel) (fun H locs hP hD hS => ?_)
  have hP : va_P D vw_cl [(h0, .inr (3, [.int 0, .int 0, .int 0, .ref q8, .ref q17, .ref q25, .int 0, .int 0, .int 0, .int 0, .int 0, .int 0, .int 0, .int 0, .ref q33, .ref q41, .ref q49, .int 0, .ref q57, .ref q65, .int 0, .ref q73, .null])), (q8, .inl (cA, 256, .inl (fun _ => 0))), (q17, .inl (cA, 256, .inl (fun _ => 0))), (q25, .inl (cA, 32, .inl (fun _ => 0))), (q33, .inl (cA, 64, .inl (fun _ => 0))), (q41, .inl (cA, 64, .inl (fun _ => 0))), (q49, .inl (cA, 64, .inl (fun _ => 0))), (q57, .inl (cA, 32, .inl (fun _ => 0))), (q65, .inl (cA, 32, .inl (fun _ => 0))), (q73, .inl (cA, 8, .inl (fun _ => 0)))] H := hP
  have hD : va_D A [(h0, .inr (3, [.int 0, .int 0, .int 0, .ref q8, .ref q17, .ref q25, .int 0, .int 0, .int 0, .int 0, .int 0, .int 0, .int 0, .int 0, .ref q33, .ref q41, .ref q49, .int 0, .ref q57, .ref q65, .int 0, .ref q73, .null])), (q8, .inl (cA, 256, .inl (fun _ => 0))), (q17, .inl (cA, 256, .inl (fun _ => 0))), (q25, .inl (cA, 32, .inl (fun _ => 0))), (q33, .inl (cA, 64, .inl (fun _ => 0))), (q41, .inl (cA, 64, .inl (fun _ => 0))), (q49, .inl (cA, 64, .inl (fun _ => 0))), (q57, .inl (cA, 32, .inl (fun _ => 0))), (q65, .inl (cA, 32, .inl (fun _ => 0))), (q73, .inl (cA, 8, .inl (fun _ => 0)))] := hD
  refine lv_aload_n hx hb (show decode b_mm_init 78 = .ok (.aload_n 0, 1) by decide +kernel) rfl (lv_at hl 0 rfl) ?_
  refine lv_bipush (v := 8) hx hb (show decode b_mm_init 79 = .ok (.bipush 8, 2) by decide +kernel) (by decide) ?_
  refine va_newa (atype := .int) (a0 := (8, .inl (fun _ => 0))) (N' := 8) hx hb (hts _ vk_6) rfl hK hP hD hS hA (fun _ => rfl) (by decide) (by decide) (by decide) (by show _ ≤ 10; omega) (by show _ ≤ 1000; omega) (show decode b_mm_init 81 = .ok (.newarray .int, 2) by decide +kernel) (fun q81 cA' H hK1 hP hD hS => ?_)
  have ecA : cA = cA' := Option.some.inj ((hK1.2 0 _ rfl).2.symm.trans (hK1.2 1 _ rfl).2)
  subst ecA
  have hP : va_P D vw_cl [(h0, .inr (3, [.int 0, .int 0, .int 0, .ref q8, .ref q17, .ref q25, .int 0, .int 0, .int 0, .int 0, .int 0, .int 0, .int 0, .int 0, .ref q33, .ref q41, .ref q49, .int 0, .ref q57, .ref q65, .int 0, .ref q73, .null])), (q8, .inl (cA, 256, .inl (fun _ => 0))), (q17, .inl (cA, 256, .inl (fun _ => 0))), (q25, .inl (cA, 32, .inl (fun _ => 0))), (q33, .inl (cA, 64, .inl (fun _ => 0))), (q41, .inl (cA, 64, .inl (fun _ => 0))), (q49, .inl (cA, 64, .inl (fun _ => 0))), (q57, .inl (cA, 32, .inl (fun _ => 0))), (q65, .inl (cA, 32, .inl (fun _ => 0))), (q73, .inl (cA, 8, .inl (fun _ => 0))), (q81, .inl (cA, 8, .inl (fun _ => 0)))] H := hP
  have hD : va_D A [(h0, .inr (3, [.int 0, .int 0, .int 0, .ref q8, .ref q17, .ref q25, .int 0, .int 0, .int 0, .int 0, .int 0, .int 0, .int 0, .int 0, .ref q33, .ref q41, .ref q49, .int 0, .ref q57, .ref q65, .int 0, .ref q73, .null])), (q8, .inl (cA, 256, .inl (fun _ => 0))), (q17, .inl (cA, 256, .inl (fun _ => 0))), (q25, .inl (cA, 32, .inl (fun _ => 0))), (q33, .inl (cA, 64, .inl (fun _ => 0))), (q41, .inl (cA, 64, .inl (fun _ => 0))), (q49, .inl (cA, 64, .inl (fun _ => 0))), (q57, .inl (cA, 32, .inl (fun _ => 0))), (q65, .inl (cA, 32, .inl (fun _ => 0))), (q73, .inl (cA, 8, .inl (fun _ => 0))), (q81, .inl (cA, 8, .inl (fun _ => 0)))] := hD
  refine W.widen (k := 10) (n := 0 + 256 + 256 + 32 + 64 + 64 + 64 + 32 + 32 + 8 + 8) (by omega) (by omega) ?_
  refine va_putF (D := D) (ci := 3) (v := .ref q81) (ty := .array .int) (C := "WideMachineModel") (T := ff_3) (N := 23) hx hb hts uk_3 ft_3 fo_3 fn_3 hown hK hP hD hS 0 rfl rfl 22 (by decide) (hts _ vk_45) (fun _ h9 => h9) rfl hin rfl (by decide +kernel) rfl rfl (Nat.le_of_ble_eq_true rfl) (show decode b_mm_init 83 = .ok (.putfield 37, 3) by decide +kernel) (fun H locs hP hD hS => ?_)
  have hP : va_P D vw_cl [(h0, .inr (3, [.int 0, .int 0, .int 0, .ref q8, .ref q17, .ref q25, .int 0, .int 0, .int 0, .int 0, .int 0, .int 0, .int 0, .int 0, .ref q33, .ref q41, .ref q49, .int 0, .ref q57, .ref q65, .int 0, .ref q73, .ref q81])), (q8, .inl (cA, 256, .inl (fun _ => 0))), (q17, .inl (cA, 256, .inl (fun _ => 0))), (q25, .inl (cA, 32, .inl (fun _ => 0))), (q33, .inl (cA, 64, .inl (fun _ => 0))), (q41, .inl (cA, 64, .inl (fun _ => 0))), (q49, .inl (cA, 64, .inl (fun _ => 0))), (q57, .inl (cA, 32, .inl (fun _ => 0))), (q65, .inl (cA, 32, .inl (fun _ => 0))), (q73, .inl (cA, 8, .inl (fun _ => 0))), (q81, .inl (cA, 8, .inl (fun _ => 0)))] H := hP
  have hD : va_D A [(h0, .inr (3, [.int 0, .int 0, .int 0, .ref q8, .ref q17, .ref q25, .int 0, .int 0, .int 0, .int 0, .int 0, .int 0, .int 0, .int 0, .ref q33, .ref q41, .ref q49, .int 0, .ref q57, .ref q65, .int 0, .ref q73, .ref q81])), (q8, .inl (cA, 256, .inl (fun _ => 0))), (q17, .inl (cA, 256, .inl (fun _ => 0))), (q25, .inl (cA, 32, .inl (fun _ => 0))), (q33, .inl (cA, 64, .inl (fun _ => 0))), (q41, .inl (cA, 64, .inl (fun _ => 0))), (q49, .inl (cA, 64, .inl (fun _ => 0))), (q57, .inl (cA, 32, .inl (fun _ => 0))), (q65, .inl (cA, 32, .inl (fun _ => 0))), (q73, .inl (cA, 8, .inl (fun _ => 0))), (q81, .inl (cA, 8, .inl (fun _ => 0)))] := hD
  refine lv_aload_n hx hb (show decode b_mm_init 86 = .ok (.aload_n 0, 1) by decide +kernel) rfl (lv_at hl 0 rfl) ?_
  refine lv_iload_n hx hb (show decode b_mm_init 87 = .ok (.iload_n 1, 1) by decide +kernel) rfl (lv_at hl 1 rfl) ?_
  refine lv_bipush (v := 16) hx hb (show decode b_mm_init 88 = .ok (.bipush 16, 2) by decide +kernel) (by decide) ?_
  refine lv_icmp_ge (tgt := 98) hx hb (show decode b_mm_init 90 = .ok (.if_icmp .ge 8, 3) by decide +kernel) (by decide) (fun g90 => ?_) (fun g90 => ?_)
  ·
    refine lv_iload_n hx hb (show decode b_mm_init 98 = .ok (.iload_n 1, 1) by decide +kernel) rfl (lv_at hl 1 rfl) ?_
    refine lv_sipush (v := 256) hx hb (show decode b_mm_init 99 = .ok (.sipush 256, 3) by decide +kernel) (by decide) ?_
    refine lv_icmp_le (tgt := 111) hx hb (show decode b_mm_init 102 = .ok (.if_icmp .le 9, 3) by decide +kernel) (by decide) (fun g102 => ?_) (fun g102 => ?_)
    ·
      refine lv_iload_n hx hb (show decode b_mm_init 111 = .ok (.iload_n 1, 1) by decide +kernel) rfl (lv_at hl 1 rfl) ?_
      refine va_putF (D := D) (ci := 3) (v := .int a1) (ty := .int) (C := "WideMachineModel") (T := ff_3) (N := 23) hx hb hts uk_3 ft_3 fo_3 fn_3 hown hK hP hD hS 0 rfl rfl 1 (by decide) (hts _ vk_46) (fun _ h9 => h9) rfl hin rfl (by decide +kernel) rfl rfl (Nat.le_of_ble_eq_true rfl) (show decode b_mm_init 112 = .ok (.putfield 40, 3) by decide +kernel) (fun H locs hP hD hS => ?_)
      have hP : va_P D vw_cl [(h0, .inr (3, [.int 0, .int a1, .int 0, .ref q8, .ref q17, .ref q25, .int 0, .int 0, .int 0, .int 0, .int 0, .int 0, .int 0, .int 0, .ref q33, .ref q41, .ref q49, .int 0, .ref q57, .ref q65, .int 0, .ref q73, .ref q81])), (q8, .inl (cA, 256, .inl (fun _ => 0))), (q17, .inl (cA, 256, .inl (fun _ => 0))), (q25, .inl (cA, 32, .inl (fun _ => 0))), (q33, .inl (cA, 64, .inl (fun _ => 0))), (q41, .inl (cA, 64, .inl (fun _ => 0))), (q49, .inl (cA, 64, .inl (fun _ => 0))), (q57, .inl (cA, 32, .inl (fun _ => 0))), (q65, .inl (cA, 32, .inl (fun _ => 0))), (q73, .inl (cA, 8, .inl (fun _ => 0))), (q81, .inl (cA, 8, .inl (fun _ => 0)))] H := hP
      have hD : va_D A [(h0, .inr (3, [.int 0, .int a1, .int 0, .ref q8, .ref q17, .ref q25, .int 0, .int 0, .int 0, .int 0, .int 0, .int 0, .int 0, .int 0, .ref q33, .ref q41, .ref q49, .int 0, .ref q57, .ref q65, .int 0, .ref q73, .ref q81])), (q8, .inl (cA, 256, .inl (fun _ => 0))), (q17, .inl (cA, 256, .inl (fun _ => 0))), (q25, .inl (cA, 32, .inl (fun _ => 0))), (q33, .inl (cA, 64, .inl (fun _ => 0))), (q41, .inl (cA, 64, .inl (fun _ => 0))), (q49, .inl (cA, 64, .inl (fun _ => 0))), (q57, .inl (cA, 32, .inl (fun _ => 0))), (q65, .inl (cA, 32, .inl (fun _ => 0))), (q73, .inl (cA, 8, .inl (fun _ => 0))), (q81, .inl (cA, 8, .inl (fun _ => 0)))] := hD
      refine lv_aload_n hx hb (show decode b_mm_init 115 = .ok (.aload_n 0, 1) by decide +kernel) rfl (lv_at hl 0 rfl) ?_
      refine lv_iload_n hx hb (show decode b_mm_init 116 = .ok (.iload_n 2, 1) by decide +kernel) rfl (lv_at hl 2 rfl) ?_
      refine lv_bipush (v := 16) hx hb (show decode b_mm_init 117 = .ok (.bipush 16, 2) by decide +kernel) (by decide) ?_
      refine lv_icmp_ge (tgt := 127) hx hb (show decode b_mm_init 119 = .ok (.if_icmp .ge 8, 3) by decide +kernel) (by decide) (fun g119 => ?_) (fun g119 => ?_)
      ·
        refine lv_iload_n hx hb (show decode b_mm_init 127 = .ok (.iload_n 2, 1) by decide +kernel) rfl (lv_at hl 2 rfl) ?_
        refine lv_sipush (v := 256) hx hb (show decode b_mm_init 128 = .ok (.sipush 256, 3) by decide +kernel) (by decide) ?_
        refine lv_icmp_le (tgt := 140) hx hb (show decode b_mm_init 131 = .ok (.if_icmp .le 9, 3) by decide +kernel) (by decide) (fun g131 => ?_) (fun g131 => ?_)
        ·
          refine lv_iload_n hx hb (show decode b_mm_init 140 = .ok (.iload_n 2, 1) by decide +kernel) rfl (lv_at hl 2 rfl) ?_
          refine va_putF (D := D) (ci := 3) (v := .int a2) (ty := .int) (C := "WideMachineModel") (T := ff_3) (N := 23) hx hb hts uk_3 ft_3 fo_3 fn_3 hown hK hP hD hS 0 rfl rfl 2 (by decide) (hts _ vk_47) (fun _ h9 => h9) rfl hin rfl (by decide +kernel) rfl rfl (Nat.le_of_ble_eq_true rfl) (show decode b_mm_init 141 = .ok (.putfield 44, 3) by decide +kernel) (fun H locs hP hD hS => ?_)
          have hP : va_P D vw_cl [(h0, .inr (3, [.int 0, .int a1, .int a2, .ref q8, .ref q17, .ref q25, .int 0, .int 0, .int 0, .int 0, .int 0, .int 0, .int 0, .int 0, .ref q33, .ref q41, .ref q49, .int 0, .ref q57, .ref q65, .int 0, .ref q73, .ref q81])), (q8, .inl (cA, 256, .inl (fun _ => 0))), (q17, .inl (cA, 256, .inl (fun _ => 0))), (q25, .inl (cA, 32, .inl (fun _ => 0))), (q33, .inl (cA, 64, .inl (fun _ => 0))), (q41, .inl (cA, 64, .inl (fun _ => 0))), (q49, .inl (cA, 64, .inl (fun _ => 0))), (q57, .inl (cA, 32, .inl (fun _ => 0))), (q65, .inl (cA, 32, .inl (fun _ => 0))), (q73, .inl (cA, 8, .inl (fun _ => 0))), (q81, .inl (cA, 8, .inl (fun _ => 0)))] H := hP
          have hD : va_D A [(h0, .inr (3, [.int 0, .int a1, .int a2, .ref q8, .ref q17, .ref q25, .int 0, .int 0, .int 0, .int 0, .int 0, .int 0, .int 0, .int 0, .ref q33, .ref q41, .ref q49, .int 0, .ref q57, .ref q65, .int 0, .ref q73, .ref q81])), (q8, .inl (cA, 256, .inl (fun _ => 0))), (q17, .inl (cA, 256, .inl (fun _ => 0))), (q25, .inl (cA, 32, .inl (fun _ => 0))), (q33, .inl (cA, 64, .inl (fun _ => 0))), (q41, .inl (cA, 64, .inl (fun _ => 0))), (q49, .inl (cA, 64, .inl (fun _ => 0))), (q57, .inl (cA, 32, .inl (fun _ => 0))), (q65, .inl (cA, 32, .inl (fun _ => 0))), (q73, .inl (cA, 8, .inl (fun _ => 0))), (q81, .inl (cA, 8, .inl (fun _ => 0)))] := hD
          refine W.widen (k := 10) (n := 1000) (by omega) (by omega) ?_
          let ad : Nat → Nat := fun k => match k with
            | 0 => h0
            | 1 => q8
            | 2 => q17
            | 3 => q25
            | 4 => q33
            | 5 => q41
            | 6 => q49
            | 7 => q57
            | 8 => q65
            | 9 => q73
            | _ => q81
          have hP9 : va_P D vw_cl (mx_w ad cA (mx_sf (mx_sf mx_0 0 1 a1) 0 2 a2) 0 km) H := hP.sub [0, 1, 2, 3, 4, 5, 6, 7, 8, 9, 10] rfl
          have hD9 : va_D A (mx_w ad cA (mx_sf (mx_sf mx_0 0 1 a1) 0 2 a2) 0 km) := hD.sub [0, 1, 2, 3, 4, 5, 6, 7, 8, 9, 10] (by decide) rfl
          exact W.vret hx hb hr (fun t ht hW => ⟨⟨(ad, a1, a2), rfl, ⟨rfl, (ml_clamp_in g90 g102), (ml_clamp_in g119 g131)⟩, by rw [ht]; exact hP9, hD9⟩, hS.F ht⟩) hS.2.2 (show decode b_mm_init 144 = .ok (.return_, 1) by decide +kernel)
        ·
          refine lv_sipush (v := 256) hx hb (show decode b_mm_init 134 = .ok (.sipush 256, 3) by decide +kernel) (by decide) ?_
          refine lv_goto (tgt := 141) hx hb (show decode b_mm_init 137 = .ok (.goto 4, 3) by decide +kernel) (by decide) ?_
          refine va_putF (D := D) (ci := 3) (v := .int 256) (ty := .int) (C := "WideMachineModel") (T := ff_3) (N := 23) hx hb hts uk_3 ft_3 fo_3 fn_3 hown hK hP hD hS 0 rfl rfl 2 (by decide) (hts _ vk_47) (fun _ h9 => h9) rfl hin rfl (by decide +kernel) rfl rfl (Nat.le_of_ble_eq_true rfl) (show decode b_mm_init 141 = .ok (.putfield 44, 3) by decide +kernel) (fun H locs hP hD hS => ?_)
          have hP : va_P D vw_cl [(h0, .inr (3, [.int 0, .int a1, .int 256, .ref q8, .ref q17, .ref q25, .int 0, .int 0, .int 0, .int 0, .int 0, .int 0, .int 0, .int 0, .ref q33, .ref q41, .ref q49, .int 0, .ref q57, .ref q65, .int 0, .ref q73, .ref q81])), (q8, .inl (cA, 256, .inl (fun _ => 0))), (q17, .inl (cA, 256, .inl (fun _ => 0))), (q25, .inl (cA, 32, .inl (fun _ => 0))), (q33, .inl (cA, 64, .inl (fun _ => 0))), (q41, .inl (cA, 64, .inl (fun _ => 0))), (q49, .inl (cA, 64, .inl (fun _ => 0))), (q57, .inl (cA, 32, .inl (fun _ => 0))), (q65, .inl (cA, 32, .inl (fun _ => 0))), (q73, .inl (cA, 8, .inl (fun _ => 0))), (q81, .inl (cA, 8, .inl (fun _ => 0)))] H := hP
          have hD : va_D A [(h0, .inr (3, [.int 0, .int a1, .int 256, .ref q8, .ref q17, .ref q25, .int 0, .int 0, .int 0, .int 0, .int 0, .int 0, .int 0, .int 0, .ref q33, .ref q41, .ref q49, .int 0, .ref q57, .ref q65, .int 0, .ref q73, .ref q81])), (q8, .inl (cA, 256, .inl (fun _ => 0))), (q17, .inl (cA, 256, .inl (fun _ => 0))), (q25, .inl (cA, 32, .inl (fun _ => 0))), (q33, .inl (cA, 64, .inl (fun _ => 0))), (q41, .inl (cA, 64, .inl (fun _ => 0))), (q49, .inl (cA, 64, .inl (fun _ => 0))), (q57, .inl (cA, 32, .inl (fun _ => 0))), (q65, .inl (cA, 32, .inl (fun _ => 0))), (q73, .inl (cA, 8, .inl (fun _ => 0))), (q81, .inl (cA, 8, .inl (fun _ => 0)))] := hD
          refine W.widen (k := 10) (n := 1000) (by omega) (by omega) ?_
          let ad : Nat → Nat := fun k => match k with
            | 0 => h0
            | 1 => q8
            | 2 => q17
            | 3 => q25
            | 4 => q33
            | 5 => q41
            | 6 => q49
            | 7 => q57
            | 8 => q65
            | 9 => q73
            | _ => q81
          have hP9 : va_P D vw_cl (mx_w ad cA (mx_sf (mx_sf mx_0 0 1 a1) 0 2 256) 0 km) H := hP.sub [0, 1, 2, 3, 4, 5, 6, 7, 8, 9, 10] rfl
          have hD9 : va_D A (mx_w ad cA (mx_sf (mx_sf mx_0 0 1 a1) 0 2 256) 0 km) := hD.sub [0, 1, 2, 3, 4, 5, 6, 7, 8, 9, 10] (by decide) rfl
          exact W.vret hx hb hr (fun t ht hW => ⟨⟨(ad, a1, 256), rfl, ⟨rfl, (ml_clamp_in g90 g102), (ml_clamp_hi g119 g131)⟩, by rw [ht]; exact hP9, hD9⟩, hS.F ht⟩) hS.2.2 (show decode b_mm_init 144 = .ok (.return_, 1) by decide +kernel)
      ·
        refine lv_bipush (v := 16) hx hb (show decode b_mm_init 122 = .ok (.bipush 16, 2) by decide +kernel) (by decide) ?_
        refine lv_goto (tgt := 141) hx hb (show decode b_mm_init 124 = .ok (.goto 17, 3) by decide +kernel) (by decide) ?_
        refine va_putF (D := D) (ci := 3) (v := .int 16) (ty := .int) (C := "WideMachineModel") (T := ff_3) (N := 23) hx hb hts uk_3 ft_3 fo_3 fn_3 hown hK hP hD hS 0 rfl rfl 2 (by decide) (hts _ vk_47) (fun _ h9 => h9) rfl hin rfl (by decide +kernel) rfl rfl (Nat.le_of_ble_eq_true rfl) (show decode b_mm_init 141 = .ok (.putfield 44, 3) by decide +kernel) (fun H locs hP hD hS => ?_)
        have hP : va_P D vw_cl [(h0, .inr (3, [.int 0, .int a1, .int 16, .ref q8, .ref q17, .ref q25, .int 0, .int 0, .int 0, .int 0, .int 0, .int 0, .int 0, .int 0, .ref q33, .ref q41, .ref q49, .int 0, .ref q57, .ref q65, .int 0, .ref q73, .ref q81])), (q8, .inl (cA, 256, .inl (fun _ => 0))), (q17, .inl (cA, 256, .inl (fun _ => 0))), (q25, .inl (cA, 32, .inl (fun _ => 0))), (q33, .inl (cA, 64, .inl (fun _ => 0))), (q41, .inl (cA, 64, .inl (fun _ => 0))), (q49, .inl (cA, 64, .inl (fun _ => 0))), (q57, .inl (cA, 32, .inl (fun _ => 0))), (q65, .inl (cA, 32, .inl (fun _ => 0))), (q73, .inl (cA, 8, .inl (fun _ => 0))), (q81, .inl (cA, 8, .inl (fun _ => 0)))] H := hP
        have hD : va_D A [(h0, .inr (3, [.int 0, .int a1, .int 16, .ref q8, .ref q17, .ref q25, .int 0, .int 0, .int 0, .int 0, .int 0, .int 0, .int 0, .int 0, .ref q33, .ref q41, .ref q49, .int 0, .ref q57, .ref q65, .int 0, .ref q73, .ref q81])), (q8, .inl (cA, 256, .inl (fun _ => 0))), (q17, .inl (cA, 256, .inl (fun _ => 0))), (q25, .inl (cA, 32, .inl (fun _ => 0))), (q33, .inl (cA, 64, .inl (fun _ => 0))), (q41, .inl (cA, 64, .inl (fun _ => 0))), (q49, .inl (cA, 64, .inl (fun _ => 0))), (q57, .inl (cA, 32, .inl (fun _ => 0))), (q65, .inl (cA, 32, .inl (fun _ => 0))), (q73, .inl (cA, 8, .inl (fun _ => 0))), (q81, .inl (cA, 8, .inl (fun _ => 0)))] := hD
        refine W.widen (k := 10) (n := 1000) (by omega) (by omega) ?_
        let ad : Nat → Nat := fun k => match k with
          | 0 => h0
          | 1 => q8
          | 2 => q17
          | 3 => q25
          | 4 => q33
          | 5 => q41
          | 6 => q49
          | 7 => q57
          | 8 => q65
          | 9 => q73
          | _ => q81
        have hP9 : va_P D vw_cl (mx_w ad cA (mx_sf (mx_sf mx_0 0 1 a1) 0 2 16) 0 km) H := hP.sub [0, 1, 2, 3, 4, 5, 6, 7, 8, 9, 10] rfl
        have hD9 : va_D A (mx_w ad cA (mx_sf (mx_sf mx_0 0 1 a1) 0 2 16) 0 km) := hD.sub [0, 1, 2, 3, 4, 5, 6, 7, 8, 9, 10] (by decide) rfl
        exact W.vret hx hb hr (fun t ht hW => ⟨⟨(ad, a1, 16), rfl, ⟨rfl, (ml_clamp_in g90 g102), (ml_clamp_lo g119)⟩, by rw [ht]; exact hP9, hD9⟩, hS.F ht⟩) hS.2.2 (show decode b_mm_init 144 = .ok (.return_, 1) by decide +kernel)
    ·
      refine lv_sipush (v := 256) hx hb (show decode b_mm_init 105 = .ok (.sipush 256, 3) by decide +kernel) (by decide) ?_
      refine lv_goto (tgt := 112) hx hb (show decode b_mm_init 108 = .ok (.goto 4, 3) by decide +kernel) (by decide) ?_
      refine va_putF (D := D) (ci := 3) (v := .int 256) (ty := .int) (C := "WideMachineModel") (T := ff_3) (N := 23) hx hb hts uk_3 ft_3 fo_3 fn_3 hown hK hP hD hS 0 rfl rfl 1 (by decide) (hts _ vk_46) (fun _ h9 => h9) rfl hin rfl (by decide +kernel) rfl rfl (Nat.le_of_ble_eq_true rfl) (show decode b_mm_init 112 = .ok (.putfield 40, 3) by decide +kernel) (fun H locs hP hD hS => ?_)
      have hP : va_P D vw_cl [(h0, .inr (3, [.int 0, .int 256, .int 0, .ref q8, .ref q17, .ref q25, .int 0, .int 0, .int 0, .int 0, .int 0, .int 0, .int 0, .int 0, .ref q33, .ref q41, .ref q49, .int 0, .ref q57, .ref q65, .int 0, .ref q73, .ref q81])), (q8, .inl (cA, 256, .inl (fun _ => 0))), (q17, .inl (cA, 256, .inl (fun _ => 0))), (q25, .inl (cA, 32, .inl (fun _ => 0))), (q33, .inl (cA, 64, .inl (fun _ => 0))), (q41, .inl (cA, 64, .inl (fun _ => 0))), (q49, .inl (cA, 64, .inl (fun _ => 0))), (q57, .inl (cA, 32, .inl (fun _ => 0))), (q65, .inl (cA, 32, .inl (fun _ => 0))), (q73, .inl (cA, 8, .inl (fun _ => 0))), (q81, .inl (cA, 8, .inl (fun _ => 0)))] H := hP
      have hD : va_D A [(h0, .inr (3, [.int 0, .int 256, .int 0, .ref q8, .ref q17, .ref q25, .int 0, .int 0, .int 0, .int 0, .int 0, .int 0, .int 0, .int 0, .ref q33, .ref q41, .ref q49, .int 0, .ref q57, .ref q65, .int 0, .ref q73, .ref q81])), (q8, .inl (cA, 256, .inl (fun _ => 0))), (q17, .inl (cA, 256, .inl (fun _ => 0))), (q25, .inl (cA, 32, .inl (fun _ => 0))), (q33, .inl (cA, 64, .inl (fun _ => 0))), (q41, .inl (cA, 64, .inl (fun _ => 0))), (q49, .inl (cA, 64, .inl (fun _ => 0))), (q57, .inl (cA, 32, .inl (fun _ => 0))), (q65, .inl (cA, 32, .inl (fun _ => 0))), (q73, .inl (cA, 8, .inl (fun _ => 0))), (q81, .inl (cA, 8, .inl (fun _ => 0)))] := hD
      refine lv_aload_n hx hb (show decode b_mm_init 115 = .ok (.aload_n 0, 1) by decide +kernel) rfl (lv_at hl 0 rfl) ?_
      refine lv_iload_n hx hb (show decode b_mm_init 116 = .ok (.iload_n 2, 1) by decide +kernel) rfl (lv_at hl 2 rfl) ?_
      refine lv_bipush (v := 16) hx hb (show decode b_mm_init 117 = .ok (.bipush 16, 2) by decide +kernel) (by decide) ?_
      refine lv_icmp_ge (tgt := 127) hx hb (show decode b_mm_init 119 = .ok (.if_icmp .ge 8, 3) by decide +kernel) (by decide) (fun g119 => ?_) (fun g119 => ?_)
      ·
        refine lv_iload_n hx hb (show decode b_mm_init 127 = .ok (.iload_n 2, 1) by decide +kernel) rfl (lv_at hl 2 rfl) ?_
        refine lv_sipush (v := 256) hx hb (show decode b_mm_init 128 = .ok (.sipush 256, 3) by decide +kernel) (by decide) ?_
        refine lv_icmp_le (tgt := 140) hx hb (show decode b_mm_init 131 = .ok (.if_icmp .le 9, 3) by decide +kernel) (by decide) (fun g131 => ?_) (fun g131 => ?_)
        ·
          refine lv_iload_n hx hb (show decode b_mm_init 140 = .ok (.iload_n 2, 1) by decide +kernel) rfl (lv_at hl 2 rfl) ?_
          refine va_putF (D := D) (ci := 3) (v := .int a2) (ty := .int) (C := "WideMachineModel") (T := ff_3) (N := 23) hx hb hts uk_3 ft_3 fo_3 fn_3 hown hK hP hD hS 0 rfl rfl 2 (by decide) (hts _ vk_47) (fun _ h9 => h9) rfl hin rfl (by decide +kernel) rfl rfl (Nat.le_of_ble_eq_true rfl) (show decode b_mm_init 141 = .ok (.putfield 44, 3) by decide +kernel) (fun H locs hP hD hS => ?_)
          have hP : va_P D vw_cl [(h0, .inr (3, [.int 0, .int 256, .int a2, .ref q8, .ref q17, .ref q25, .int 0, .int 0, .int 0, .int 0, .int 0, .int 0, .int 0, .int 0, .ref q33, .ref q41, .ref q49, .int 0, .ref q57, .ref q65, .int 0, .ref q73, .ref q81])), (q8, .inl (cA, 256, .inl (fun _ => 0))), (q17, .inl (cA, 256, .inl (fun _ => 0))), (q25, .inl (cA, 32, .inl (fun _ => 0))), (q33, .inl (cA, 64, .inl (fun _ => 0))), (q41, .inl (cA, 64, .inl (fun _ => 0))), (q49, .inl (cA, 64, .inl (fun _ => 0))), (q57, .inl (cA, 32, .inl (fun _ => 0))), (q65, .inl (cA, 32, .inl (fun _ => 0))), (q73, .inl (cA, 8, .inl (fun _ => 0))), (q81, .inl (cA, 8, .inl (fun _ => 0)))] H := hP
          have hD : va_D A [(h0, .inr (3, [.int 0, .int 256, .int a2, .ref q8, .ref q17, .ref q25, .int 0, .int 0, .int 0, .int 0, .int 0, .int 0, .int 0, .int 0, .ref q33, .ref q41, .ref q49, .int 0, .ref q57, .ref q65, .int 0, .ref q73, .ref q81])), (q8, .inl (cA, 256, .inl (fun _ => 0))), (q17, .inl (cA, 256, .inl (fun _ => 0))), (q25, .inl (cA, 32, .inl (fun _ => 0))), (q33, .inl (cA, 64, .inl (fun _ => 0))), (q41, .inl (cA, 64, .inl (fun _ => 0))), (q49, .inl (cA, 64, .inl (fun _ => 0))), (q57, .inl (cA, 32, .inl (fun _ => 0))), (q65, .inl (cA, 32, .inl (fun _ => 0))), (q73, .inl (cA, 8, .inl (fun _ => 0))), (q81, .inl (cA, 8, .inl (fun _ => 0)))] := hD
          refine W.widen (k := 10) (n := 1000) (by omega) (by omega) ?_
          let ad : Nat → Nat := fun k => match k with
            | 0 => h0
            | 1 => q8
            | 2 => q17
            | 3 => q25
            | 4 => q33
            | 5 => q41
            | 6 => q49
            | 7 => q57
            | 8 => q65
            | 9 => q73
            | _ => q81
          have hP9 : va_P D vw_cl (mx_w ad cA (mx_sf (mx_sf mx_0 0 1 256) 0 2 a2) 0 km) H := hP.sub [0, 1, 2, 3, 4, 5, 6, 7, 8, 9, 10] rfl
          have hD9 : va_D A (mx_w ad cA (mx_sf (mx_sf mx_0 0 1 256) 0 2 a2) 0 km) := hD.sub [0, 1, 2, 3, 4, 5, 6, 7, 8, 9, 10] (by decide) rfl
          exact W.vret hx hb hr (fun t ht hW => ⟨⟨(ad, 256, a2), rfl, ⟨rfl, (ml_clamp_hi g90 g102), (ml_clamp_in g119 g131)⟩, by rw [ht]; exact hP9, hD9⟩, hS.F ht⟩) hS.2.2 (show decode b_mm_init 144 = .ok (.return_, 1) by decide +kernel)
        ·
          refine lv_sipush (v := 256) hx hb (show decode b_mm_init 134 = .ok (.sipush 256, 3) by decide +kernel) (by decide) ?_
          refine lv_goto (tgt := 141) hx hb (show decode b_mm_init 137 = .ok (.goto 4, 3) by decide +kernel) (by decide) ?_
          refine va_putF (D := D) (ci := 3) (v := .int 256) (ty := .int) (C := "WideMachineModel") (T := ff_3) (N := 23) hx hb hts uk_3 ft_3 fo_3 fn_3 hown hK hP hD hS 0 rfl rfl 2 (by decide) (hts _ vk_47) (fun _ h9 => h9) rfl hin rfl (by decide +kernel) rfl rfl (Nat.le_of_ble_eq_true rfl) (show decode b_mm_init 141 = .ok (.putfield 44, 3) by decide +kernel) (fun H locs hP hD hS => ?_)
          have hP : va_P D vw_cl [(h0, .inr (3, [.int 0, .int 256, .int 256, .ref q8, .ref q17, .ref q25, .int 0, .int 0, .int 0, .int 0, .int 0, .int 0, .int 0, .int 0, .ref q33, .ref q41, .ref q49, .int 0, .ref q57, .ref q65, .int 0, .ref q73, .ref q81])), (q8, .inl (cA, 256, .inl (fun _ => 0))), (q17, .inl (cA, 256, .inl (fun _ => 0))), (q25, .inl (cA, 32, .inl (fun _ => 0))), (q33, .inl (cA, 64, .inl (fun _ => 0))), (q41, .inl (cA, 64, .inl (fun _ => 0))), (q49, .inl (cA, 64, .inl (fun _ => 0))), (q57, .inl (cA, 32, .inl (fun _ => 0))), (q65, .inl (cA, 32, .inl (fun _ => 0))), (q73, .inl (cA, 8, .inl (fun _ => 0))), (q81, .inl (cA, 8, .inl (fun _ => 0)))] H := hP
          have hD : va_D A [(h0, .inr (3, [.int 0, .int 256, .int 256, .ref q8, .ref q17, .ref q25, .int 0, .int 0, .int 0, .int 0, .int 0, .int 0, .int 0, .int 0, .ref q33, .ref q41, .ref q49, .int 0, .ref q57, .ref q65, .int 0, .ref q73, .ref q81])), (q8, .inl (cA, 256, .inl (fun _ => 0))), (q17, .inl (cA, 256, .inl (fun _ => 0))), (q25, .inl (cA, 32, .inl (fun _ => 0))), (q33, .inl (cA, 64, .inl (fun _ => 0))), (q41, .inl (cA, 64, .inl (fun _ => 0))), (q49, .inl (cA, 64, .inl (fun _ => 0))), (q57, .inl (cA, 32, .inl (fun _ => 0))), (q65, .inl (cA, 32, .inl (fun _ => 0))), (q73, .inl (cA, 8, .inl (fun _ => 0))), (q81, .inl (cA, 8, .inl (fun _ => 0)))] := hD
          refine W.widen (k := 10) (n := 1000) (by omega) (by omega) ?_
          let ad : Nat → Nat := fun k => match k with
            | 0 => h0
            | 1 => q8
            | 2 => q17
            | 3 => q25
            | 4 => q33
            | 5 => q41
            | 6 => q49
            | 7 => q57
            | 8 => q65
            | 9 => q73
            | _ => q81
          have hP9 : va_P D vw_cl (mx_w ad cA (mx_sf (mx_sf mx_0 0 1 256) 0 2 256) 0 km) H := hP.sub [0, 1, 2, 3, 4, 5, 6, 7, 8, 9, 10] rfl
          have hD9 : va_D A (mx_w ad cA (mx_sf (mx_sf mx_0 0 1 256) 0 2 256) 0 km) := hD.sub [0, 1, 2, 3, 4, 5, 6, 7, 8, 9, 10] (by decide) rfl
          exact W.vret hx hb hr (fun t ht hW => ⟨⟨(ad, 256, 256), rfl, ⟨rfl, (ml_clamp_hi g90 g102), (ml_clamp_hi g119 g131)⟩, by rw [ht]; exact hP9, hD9⟩, hS.F ht⟩) hS.2.2 (show decode b_mm_init 144 = .ok (.return_, 1) by decide +kernel)
      ·
        refine lv_bipush (v := 16) hx hb (show decode b_mm_init 122 = .ok (.bipush 16, 2) by decide +kernel) (by decide) ?_
        refine lv_goto (tgt := 141) hx hb (show decode b_mm_init 124 = .ok (.goto 17, 3) by decide +kernel) (by decide) ?_
        refine va_putF (D := D) (ci := 3) (v := .int 16) (ty := .int) (C := "WideMachineModel") (T := ff_3) (N := 23) hx hb hts uk_3 ft_3 fo_3 fn_3 hown hK hP hD hS 0 rfl rfl 2 (by decide) (hts _ vk_47) (fun _ h9 => h9) rfl hin rfl (by decide +kernel) rfl rfl (Nat.le_of_ble_eq_true rfl) (show decode b_mm_init 141 = .ok (.putfield 44, 3) by decide +kernel) (fun H locs hP hD hS => ?_)
        have hP : va_P D vw_cl [(h0, .inr (3, [.int 0, .int 256, .int 16, .ref q8, .ref q17, .ref q25, .int 0, .int 0, .int 0, .int 0, .int 0, .int 0, .int 0, .int 0, .ref q33, .ref q41, .ref q49, .int 0, .ref q57, .ref q65, .int 0, .ref q73, .ref q81])), (q8, .inl (cA, 256, .inl (fun _ => 0))), (q17, .inl (cA, 256, .inl (fun _ => 0))), (q25, .inl (cA, 32, .inl (fun _ => 0))), (q33, .inl (cA, 64, .inl (fun _ => 0))), (q41, .inl (cA, 64, .inl (fun _ => 0))), (q49, .inl (cA, 64, .inl (fun _ => 0))), (q57, .inl (cA, 32, .inl (fun _ => 0))), (q65, .inl (cA, 32, .inl (fun _ => 0))), (q73, .inl (cA, 8, .inl (fun _ => 0))), (q81, .inl (cA, 8, .inl (fun _ => 0)))] H := hP
        have hD : va_D A [(h0, .inr (3, [.int 0, .int 256, .int 16, .ref q8, .ref q17, .ref q25, .int 0, .int 0, .int 0, .int 0, .int 0, .int 0, .int 0, .int 0, .ref q33, .ref q41, .ref q49, .int 0, .ref q57, .ref q65, .int 0, .ref q73, .ref q81])), (q8, .inl (cA, 256, .inl (fun _ => 0))), (q17, .inl (cA, 256, .inl (fun _ => 0))), (q25, .inl (cA, 32, .inl (fun _ => 0))), (q33, .inl (cA, 64, .inl (fun _ => 0))), (q41, .inl (cA, 64, .inl (fun _ => 0))), (q49, .inl (cA, 64, .inl (fun _ => 0))), (q57, .inl (cA, 32, .inl (fun _ => 0))), (q65, .inl (cA, 32, .inl (fun _ => 0))), (q73, .inl (cA, 8, .inl (fun _ => 0))), (q81, .inl (cA, 8, .inl (fun _ => 0)))] := hD
        refine W.widen (k := 10) (n := 1000) (by omega) (by omega) ?_
        let ad : Nat → Nat := fun k => match k with
          | 0 => h0
          | 1 => q8
          | 2 => q17
          | 3 => q25
          | 4 => q33
          | 5 => q41
          | 6 => q49
          | 7 => q57
          | 8 => q65
          | 9 => q73
          | _ => q81
        have hP9 : va_P D vw_cl (mx_w ad cA (mx_sf (mx_sf mx_0 0 1 256) 0 2 16) 0 km) H := hP.sub [0, 1, 2, 3, 4, 5, 6, 7, 8, 9, 10] rfl
        have hD9 : va_D A (mx_w ad cA (mx_sf (mx_sf mx_0 0 1 256) 0 2 16) 0 km) := hD.sub [0, 1, 2, 3, 4, 5, 6, 7, 8, 9, 10] (by decide) rfl
        exact W.vret hx hb hr (fun t ht hW => ⟨⟨(ad, 256, 16), rfl, ⟨rfl, (ml_clamp_hi g90 g102), (ml_clamp_lo g119)⟩, by rw [ht]; exact hP9, hD9⟩, hS.F ht⟩) hS.2.2 (show decode b_mm_init 144 = .ok (.return_, 1) by decide +kernel)
  ·
    refine lv_bipush (v := 16) hx hb (show decode b_mm_init 93 = .ok (.bipush 16, 2) by decide +kernel) (by decide) ?_
    refine lv_goto (tgt := 112) hx hb (show decode b_mm_init 95 = .ok (.goto 17, 3) by decide +kernel) (by decide) ?_
    refine va_putF (D := D) (ci := 3) (v := .int 16) (ty := .int) (C := "WideMachineModel") (T := ff_3) (N := 23) hx hb hts uk_3 ft_3 fo_3 fn_3 hown hK hP hD hS 0 rfl rfl 1 (by decide) (hts _ vk_46) (fun _ h9 => h9) rfl hin rfl (by decide +kernel) rfl rfl (Nat.le_of_ble_eq_true rfl) (show decode b_mm_init 112 = .ok (.putfield 40, 3) by decide +kernel) (fun H locs hP hD hS => ?_)
    have hP : va_P D vw_cl [(h0, .inr (3, [.int 0, .int 16, .int 0, .ref q8, .ref q17, .ref q25, .int 0, .int 0, .int 0, .int 0, .int 0, .int 0, .int 0, .int 0, .ref q33, .ref q41, .ref q49, .int 0, .ref q57, .ref q65, .int 0, .ref q73, .ref q81])), (q8, .inl (cA, 256, .inl (fun _ => 0))), (q17, .inl (cA, 256, .inl (fun _ => 0))), (q25, .inl (cA, 32, .inl (fun _ => 0))), (q33, .inl (cA, 64, .inl (fun _ => 0))), (q41, .inl (cA, 64, .inl (fun _ => 0))), (q49, .inl (cA, 64, .inl (fun _ => 0))), (q57, .inl (cA, 32, .inl (fun _ => 0))), (q65, .inl (cA, 32, .inl (fun _ => 0))), (q73, .inl (cA, 8, .inl (fun _ => 0))), (q81, .inl (cA, 8, .inl (fun _ => 0)))] H := hP
    have hD : va_D A [(h0, .inr (3, [.int 0, .int 16, .int 0, .ref q8, .ref q17, .ref q25, .int 0, .int 0, .int 0, .int 0, .int 0, .int 0, .int 0, .int 0, .ref q33, .ref q41, .ref q49, .int 0, .ref q57, .ref q65, .int 0, .ref q73, .ref q81])), (q8, .inl (cA, 256, .inl (fun _ => 0))), (q17, .inl (cA, 256, .inl (fun _ => 0))), (q25, .inl (cA, 32, .inl (fun _ => 0))), (q33, .inl (cA, 64, .inl (fun _ => 0))), (q41, .inl (cA, 64, .inl (fun _ => 0))), (q49, .inl (cA, 64, .inl (fun _ => 0))), (q57, .inl (cA, 32, .inl (fun _ => 0))), (q65, .inl (cA, 32, .inl (fun _ => 0))), (q73, .inl (cA, 8, .inl (fun _ => 0))), (q81, .inl (cA, 8, .inl (fun _ => 0)))] := hD
    refine lv_aload_n hx hb (show decode b_mm_init 115 = .ok (.aload_n 0, 1) by decide +kernel) rfl (lv_at hl 0 rfl) ?_
    refine lv_iload_n hx hb (show decode b_mm_init 116 = .ok (.iload_n 2, 1) by decide +kernel) rfl (lv_at hl 2 rfl) ?_
    refine lv_bipush (v := 16) hx hb (show decode b_mm_init 117 = .ok (.bipush 16, 2) by decide +kernel) (by decide) ?_
    refine lv_icmp_ge (tgt := 127) hx hb (show decode b_mm_init 119 = .ok (.if_icmp .ge 8, 3) by decide +kernel) (by decide) (fun g119 => ?_) (fun g119 => ?_)
    ·
      refine lv_iload_n hx hb (show decode b_mm_init 127 = .ok (.iload_n 2, 1) by decide +kernel) rfl (lv_at hl 2 rfl) ?_
      refine lv_sipush (v := 256) hx hb (show decode b_mm_init 128 = .ok (.sipush 256, 3) by decide +kernel) (by decide) ?_
      refine lv_icmp_le (tgt := 140) hx hb (show decode b_mm_init 131 = .ok (.if_icmp .le 9, 3) by decide +kernel) (by decide) (fun g131 => ?_) (fun g131 => ?_)
      ·
        refine lv_iload_n hx hb (show decode b_mm_init 140 = .ok (.iload_n 2, 1) by decide +kernel) rfl (lv_at hl 2 rfl) ?_
        refine va_putF (D := D) (ci := 3) (v := .int a2) (ty := .int) (C := "WideMachineModel") (T := ff_3) (N := 23) hx hb hts uk_3 ft_3 fo_3 fn_3 hown hK hP hD hS 0 rfl rfl 2 (by decide) (hts _ vk_47) (fun _ h9 => h9) rfl hin rfl (by decide +kernel) rfl rfl (Nat.le_of_ble_eq_true rfl) (show decode b_mm_init 141 = .ok (.putfield 44, 3) by decide +kernel) (fun H locs hP hD hS => ?_)
        have hP : va_P D vw_cl [(h0, .inr (3, [.int 0, .int 16, .int a2, .ref q8, .ref q17, .ref q25, .int 0, .int 0, .int 0, .int 0, .int 0, .int 0, .int 0, .int 0, .ref q33, .ref q41, .ref q49, .int 0, .ref q57, .ref q65, .int 0, .ref q73, .ref q81])), (q8, .inl (cA, 256, .inl (fun _ => 0))), (q17, .inl (cA, 256, .inl (fun _ => 0))), (q25, .inl (cA, 32, .inl (fun _ => 0))), (q33, .inl (cA, 64, .inl (fun _ => 0))), (q41, .inl (cA, 64, .inl (fun _ => 0))), (q49, .inl (cA, 64, .inl (fun _ => 0))), (q57, .inl (cA, 32, .inl (fun _ => 0))), (q65, .inl (cA, 32, .inl (fun _ => 0))), (q73, .inl (cA, 8, .inl (fun _ => 0))), (q81, .inl (cA, 8, .inl (fun _ => 0)))] H := hP
        have hD : va_D A [(h0, .inr (3, [.int 0, .int 16, .int a2, .ref q8, .ref q17, .ref q25, .int 0, .int 0, .int 0, .int 0, .int 0, .int 0, .int 0, .int 0, .ref q33, .ref q41, .ref q49, .int 0, .ref q57, .ref q65, .int 0, .ref q73, .ref q81])), (q8, .inl (cA, 256, .inl (fun _ => 0))), (q17, .inl (cA, 256, .inl (fun _ => 0))), (q25, .inl (cA, 32, .inl (fun _ => 0))), (q33, .inl (cA, 64, .inl (fun _ => 0))), (q41, .inl (cA, 64, .inl (fun _ => 0))), (q49, .inl (cA, 64, .inl (fun _ => 0))), (q57, .inl (cA, 32, .inl (fun _ => 0))), (q65, .inl (cA, 32, .inl (fun _ => 0))), (q73, .inl (cA, 8, .inl (fun _ => 0))), (q81, .inl (cA, 8, .inl (fun _ => 0)))] := hD
        refine W.widen (k := 10) (n := 1000) (by omega) (by omega) ?_
        let ad : Nat → Nat := fun k => match k with
          | 0 => h0
          | 1 => q8
          | 2 => q17
          | 3 => q25
          | 4 => q33
          | 5 => q41
          | 6 => q49
          | 7 => q57
          | 8 => q65
          | 9 => q73
          | _ => q81
        have hP9 : va_P D vw_cl (mx_w ad cA (mx_sf (mx_sf mx_0 0 1 16) 0 2 a2) 0 km) H := hP.sub [0, 1, 2, 3, 4, 5, 6, 7, 8, 9, 10] rfl
        have hD9 : va_D A (mx_w ad cA (mx_sf (mx_sf mx_0 0 1 16) 0 2 a2) 0 km) := hD.sub [0, 1, 2, 3, 4, 5, 6, 7, 8, 9, 10] (by decide) rfl
        exact W.vret hx hb hr (fun t ht hW => ⟨⟨(ad, 16, a2), rfl, ⟨rfl, (ml_clamp_lo g90), (ml_clamp_in g119 g131)⟩, by rw [ht]; exact hP9, hD9⟩, hS.F ht⟩) hS.2.2 (show decode b_mm_init 144 = .ok (.return_, 1) by decide +kernel)
      ·
        refine lv_sipush (v := 256) hx hb (show decode b_mm_init 134 = .ok (.sipush 256, 3) by decide +kernel) (by decide) ?_
        refine lv_goto (tgt := 141) hx hb (show decode b_mm_init 137 = .ok (.goto 4, 3) by decide +kernel) (by decide) ?_
        refine va_putF (D := D) (ci := 3) (v := .int 256) (ty := .int) (C := "WideMachineModel") (T := ff_3) (N := 23) hx hb hts uk_3 ft_3 fo_3 fn_3 hown hK hP hD hS 0 rfl rfl 2 (by decide) (hts _ vk_47) (fun _ h9 => h9) rfl hin rfl (by decide +kernel) rfl rfl (Nat.le_of_ble_eq_true rfl) (show decode b_mm_init 141 = .ok (.putfield 44, 3) by decide +kernel) (fun H locs hP hD hS => ?_)
        have hP : va_P D vw_cl [(h0, .inr (3, [.int 0, .int 16, .int 256, .ref q8, .ref q17, .ref q25, .int 0, .int 0, .int 0, .int 0, .int 0, .int 0, .int 0, .int 0, .ref q33, .ref q41, .ref q49, .int 0, .ref q57, .ref q65, .int 0, .ref q73, .ref q81])), (q8, .inl (cA, 256, .inl (fun _ => 0))), (q17, .inl (cA, 256, .inl (fun _ => 0))), (q25, .inl (cA, 32, .inl (fun _ => 0))), (q33, .inl (cA, 64, .inl (fun _ => 0))), (q41, .inl (cA, 64, .inl (fun _ => 0))), (q49, .inl (cA, 64, .inl (fun _ => 0))), (q57, .inl (cA, 32, .inl (fun _ => 0))), (q65, .inl (cA, 32, .inl (fun _ => 0))), (q73, .inl (cA, 8, .inl (fun _ => 0))), (q81, .inl (cA, 8, .inl (fun _ => 0)))] H := hP
        have hD : va_D A [(h0, .inr (3, [.int 0, .int 16, .int 256, .ref q8, .ref q17, .ref q25, .int 0, .int 0, .int 0, .int 0, .int 0, .int 0, .int 0, .int 0, .ref q33, .ref q41, .ref q49, .int 0, .ref q57, .ref q65, .int 0, .ref q73, .ref q81])), (q8, .inl (cA, 256, .inl (fun _ => 0))), (q17, .inl (cA, 256, .inl (fun _ => 0))), (q25, .inl (cA, 32, .inl (fun _ => 0))), (q33, .inl (cA, 64, .inl (fun _ => 0))), (q41, .inl (cA, 64, .inl (fun _ => 0))), (q49, .inl (cA, 64, .inl (fun _ => 0))), (q57, .inl (cA, 32, .inl (fun _ => 0))), (q65, .inl (cA, 32, .inl (fun _ => 0))), (q73, .inl (cA, 8, .inl (fun _ => 0))), (q81, .inl (cA, 8, .inl (fun _ => 0)))] := hD
        refine W.widen (k := 10) (n := 1000) (by omega) (by omega) ?_
        let ad : Nat → Nat := fun k => match k with
          | 0 => h0
          | 1 => q8
          | 2 => q17
          | 3 => q25
          | 4 => q33
          | 5 => q41
          | 6 => q49
          | 7 => q57
          | 8 => q65
          | 9 => q73
          | _ => q81
        have hP9 : va_P D vw_cl (mx_w ad cA (mx_sf (mx_sf mx_0 0 1 16) 0 2 256) 0 km) H := hP.sub [0, 1, 2, 3, 4, 5, 6, 7, 8, 9, 10] rfl
        have hD9 : va_D A (mx_w ad cA (mx_sf (mx_sf mx_0 0 1 16) 0 2 256) 0 km) := hD.sub [0, 1, 2, 3, 4, 5, 6, 7, 8, 9, 10] (by decide) rfl
        exact W.vret hx hb hr (fun t ht hW => ⟨⟨(ad, 16, 256), rfl, ⟨rfl, (ml_clamp_lo g90), (ml_clamp_hi g119 g131)⟩, by rw [ht]; exact hP9, hD9⟩, hS.F ht⟩) hS.2.2 (show decode b_mm_init 144 = .ok (.return_, 1) by decide +kernel)
    ·
      refine lv_bipush (v := 16) hx hb (show decode b_mm_init 122 = .ok (.bipush 16, 2) by decide +kernel) (by decide) ?_
      refine lv_goto (tgt := 141) hx hb (show decode b_mm_init 124 = .ok (.goto 17, 3) by decide +kernel) (by decide) ?_
      refine va_putF (D := D) (ci := 3) (v := .int 16) (ty := .int) (C := "WideMachineModel") (T := ff_3) (N := 23) hx hb hts uk_3 ft_3 fo_3 fn_3 hown hK hP hD hS 0 rfl rfl 2 (by decide) (hts _ vk_47) (fun _ h9 => h9) rfl hin rfl (by decide +kernel) rfl rfl (Nat.le_of_ble_eq_true rfl) (show decode b_mm_init 141 = .ok (.putfield 44, 3) by decide +kernel) (fun H locs hP hD hS => ?_)
      have hP : va_P D vw_cl [(h0, .inr (3, [.int 0, .int 16, .int 16, .ref q8, .ref q17, .ref q25, .int 0, .int 0, .int 0, .int 0, .int 0, .int 0, .int 0, .int 0, .ref q33, .ref q41, .ref q49, .int 0, .ref q57, .ref q65, .int 0, .ref q73, .ref q81])), (q8, .inl (cA, 256, .inl (fun _ => 0))), (q17, .inl (cA, 256, .inl (fun _ => 0))), (q25, .inl (cA, 32, .inl (fun _ => 0))), (q33, .inl (cA, 64, .inl (fun _ => 0))), (q41, .inl (cA, 64, .inl (fun _ => 0))), (q49, .inl (cA, 64, .inl (fun _ => 0))), (q57, .inl (cA, 32, .inl (fun _ => 0))), (q65, .inl (cA, 32, .inl (fun _ => 0))), (q73, .inl (cA, 8, .inl (fun _ => 0))), (q81, .inl (cA, 8, .inl (fun _ => 0)))] H := hP
      have hD : va_D A [(h0, .inr (3, [.int 0, .int 16, .int 16, .ref q8, .ref q17, .ref q25, .int 0, .int 0, .int 0, .int 0, .int 0, .int 0, .int 0, .int 0, .ref q33, .ref q41, .ref q49, .int 0, .ref q57, .ref q65, .int 0, .ref q73, .ref q81])), (q8, .inl (cA, 256, .inl (fun _ => 0))), (q17, .inl (cA, 256, .inl (fun _ => 0))), (q25, .inl (cA, 32, .inl (fun _ => 0))), (q33, .inl (cA, 64, .inl (fun _ => 0))), (q41, .inl (cA, 64, .inl (fun _ => 0))), (q49, .inl (cA, 64, .inl (fun _ => 0))), (q57, .inl (cA, 32, .inl (fun _ => 0))), (q65, .inl (cA, 32, .inl (fun _ => 0))), (q73, .inl (cA, 8, .inl (fun _ => 0))), (q81, .inl (cA, 8, .inl (fun _ => 0)))] := hD
      refine W.widen (k := 10) (n := 1000) (by omega) (by omega) ?_
      let ad : Nat → Nat := fun k => match k with
        | 0 => h0
        | 1 => q8
        | 2 => q17
        | 3 => q25
        | 4 => q33
        | 5 => q41
        | 6 => q49
        | 7 => q57
        | 8 => q65
        | 9 => q73
        | _ => q81
      have hP9 : va_P D vw_cl (mx_w ad cA (mx_sf (mx_sf mx_0 0 1 16) 0 2 16) 0 km) H := hP.sub [0, 1, 2, 3, 4, 5, 6, 7, 8, 9, 10] rfl
      have hD9 : va_D A (mx_w ad cA (mx_sf (mx_sf mx_0 0 1 16) 0 2 16) 0 km) := hD.sub [0, 1, 2, 3, 4, 5, 6, 7, 8, 9, 10] (by decide) rfl
      exact W.vret hx hb hr (fun t ht hW => ⟨⟨(ad, 16, 16), rfl, ⟨rfl, (ml_clamp_lo g90), (ml_clamp_lo g119)⟩, by rw [ht]; exact hP9, hD9⟩, hS.F ht⟩) hS.2.2 (show decode b_mm_init 144 = .ok (.return_, 1) by decide +kernel)
