/-! WideMachineModel.kind(I)I -/
noncomputable def mm_kind (a1 : Int32) : Int32 :=
  ((a1 >>> ((5 : Int32) &&& 31)) &&& (3 : Int32))
def pre_mm_kind : List mx_V → mx_S → Prop := fun as u => ∃ (a1 : Int32), as = [.inl a1] ∧ True
noncomputable def fn_mm_kind : mx_F := fun as u => match as with
  | [.inl a1] => mx_rI u (mm_kind a1 )
  | _ => (none, u)
noncomputable def tb_mm_kind : List (Nat × mx_T) := [
  (0, mx_iload_n 0 0),
  (1, mx_iconst 5 1),
  (2, mx_ishr 2),
  (3, mx_iconst 3 3),
  (4, mx_iand 4),
  (5, mx_iret 5)]
set_option maxRecDepth 100000 in
set_option maxHeartbeats 4000000 in
theorem ok_mm_kind (l : Launch) : ∀ q ∈ tb_mm_kind , mx_Ok l ({ frames := 0, cells := 0, slots := 0, locals := 0 } : Room) b_mm_kind 1 "WideMachineModel" (some .int) vw_T vw_cl km q.1 q.2 := by
  refine List.forall_mem_cons.mpr ⟨mx_ok_iload_n (show decode b_mm_kind 0 = .ok (.iload_n 0, 1) by decide +kernel) rfl, ?_⟩
  refine List.forall_mem_cons.mpr ⟨mx_ok_iconst (show decode b_mm_kind 1 = .ok (.iconst 5, 1) by decide +kernel) (by decide), ?_⟩
  refine List.forall_mem_cons.mpr ⟨mx_ok_ishr (show decode b_mm_kind 2 = .ok (.ishr, 1) by decide +kernel), ?_⟩
  refine List.forall_mem_cons.mpr ⟨mx_ok_iconst (show decode b_mm_kind 3 = .ok (.iconst 3, 1) by decide +kernel) (by decide), ?_⟩
  refine List.forall_mem_cons.mpr ⟨mx_ok_iand (show decode b_mm_kind 4 = .ok (.iand, 1) by decide +kernel), ?_⟩
  refine List.forall_mem_cons.mpr ⟨mx_ok_iret (show decode b_mm_kind 5 = .ok (.ireturn, 1) by decide +kernel) rfl, ?_⟩
  exact fun _ h => absurd h List.not_mem_nil
set_option maxRecDepth 100000 in
set_option maxHeartbeats 4000000 in
theorem ct_mm_kind (l : Launch) : mx_Ct l vw_T vw_cl km { frames := 0, cells := 0, slots := 0, locals := 0 } y_mm_kind b_mm_kind 1 (some .int) pre_mm_kind fn_mm_kind := by
  refine mx_ct_of (tb_mm_kind ) (by decide) (ok_mm_kind l ) (fun as u h => by obtain ⟨_, rfl, -⟩ := h; exact Nat.le_of_ble_eq_true rfl) ?_
  intro as u hpre At hc hw
  obtain ⟨a1, rfl, hp⟩ := hpre
  exact hc 200 [] _ _ _ _ (
    congrArg (mx_rI u) (show ((a1 >>> ((5 : Int32) &&& 31)) &&& (3 : Int32)) = (mm_kind a1 ) from (rfl).symm))
/-! WideMachineModel.operation(I)I -/
noncomputable def mm_operation (a1 : Int32) : Int32 :=
  ((a1 >>> ((8 : Int32) &&& 31)) &&& (15 : Int32))
def pre_mm_operation : List mx_V → mx_S → Prop := fun as u => ∃ (a1 : Int32), as = [.inl a1] ∧ True
noncomputable def fn_mm_operation : mx_F := fun as u => match as with
  | [.inl a1] => mx_rI u (mm_operation a1 )
  | _ => (none, u)
noncomputable def tb_mm_operation : List (Nat × mx_T) := [
  (0, mx_iload_n 0 0),
  (1, mx_bipush 8 1),
  (3, mx_ishr 3),
  (4, mx_bipush 15 4),
  (6, mx_iand 6),
  (7, mx_iret 7)]
set_option maxRecDepth 100000 in
set_option maxHeartbeats 4000000 in
theorem ok_mm_operation (l : Launch) : ∀ q ∈ tb_mm_operation , mx_Ok l ({ frames := 0, cells := 0, slots := 0, locals := 0 } : Room) b_mm_operation 1 "WideMachineModel" (some .int) vw_T vw_cl km q.1 q.2 := by
  refine List.forall_mem_cons.mpr ⟨mx_ok_iload_n (show decode b_mm_operation 0 = .ok (.iload_n 0, 1) by decide +kernel) rfl, ?_⟩
  refine List.forall_mem_cons.mpr ⟨mx_ok_bipush (show decode b_mm_operation 1 = .ok (.bipush 8, 2) by decide +kernel) (by decide), ?_⟩
  refine List.forall_mem_cons.mpr ⟨mx_ok_ishr (show decode b_mm_operation 3 = .ok (.ishr, 1) by decide +kernel), ?_⟩
  refine List.forall_mem_cons.mpr ⟨mx_ok_bipush (show decode b_mm_operation 4 = .ok (.bipush 15, 2) by decide +kernel) (by decide), ?_⟩
  refine List.forall_mem_cons.mpr ⟨mx_ok_iand (show decode b_mm_operation 6 = .ok (.iand, 1) by decide +kernel), ?_⟩
  refine List.forall_mem_cons.mpr ⟨mx_ok_iret (show decode b_mm_operation 7 = .ok (.ireturn, 1) by decide +kernel) rfl, ?_⟩
  exact fun _ h => absurd h List.not_mem_nil
set_option maxRecDepth 100000 in
set_option maxHeartbeats 4000000 in
theorem ct_mm_operation (l : Launch) : mx_Ct l vw_T vw_cl km { frames := 0, cells := 0, slots := 0, locals := 0 } y_mm_operation b_mm_operation 1 (some .int) pre_mm_operation fn_mm_operation := by
  refine mx_ct_of (tb_mm_operation ) (by decide) (ok_mm_operation l ) (fun as u h => by obtain ⟨_, rfl, -⟩ := h; exact Nat.le_of_ble_eq_true rfl) ?_
  intro as u hpre At hc hw
  obtain ⟨a1, rfl, hp⟩ := hpre
  exact hc 200 [] _ _ _ _ (
    congrArg (mx_rI u) (show ((a1 >>> ((8 : Int32) &&& 31)) &&& (15 : Int32)) = (mm_operation a1 ) from (rfl).symm))
/-! WideMachineModel.isS(III)Z -/
noncomputable def mm_isS_b (a1 : Int32) (a2 : Int32) (a3 : Int32) : Int32 :=
  if (mm_kind a1 ) = 1 then
   if (mm_operation a1 ) < a2 then
    0
   else
    if a3 < (mm_operation a1 ) then
     0
    else
     1
  else
   0
theorem mm_isS_ex : ∃ f : Int32 → Int32 → Int32 → (Int32), f = mm_isS_b := ⟨_, rfl⟩
noncomputable def mm_isS : Int32 → Int32 → Int32 → (Int32) := Classical.choose mm_isS_ex
theorem mm_isS_eq (a1 : Int32) (a2 : Int32) (a3 : Int32) : (mm_isS a1 a2 a3 ) = (mm_isS_b a1 a2 a3 ) := by rw [show mm_isS = mm_isS_b from Classical.choose_spec mm_isS_ex]
def pre_mm_isS : List mx_V → mx_S → Prop := fun as u => ∃ (a1 : Int32) (a2 : Int32) (a3 : Int32), as = [.inl a1, .inl a2, .inl a3] ∧ True
noncomputable def fn_mm_isS : mx_F := fun as u => match as with
  | [.inl a1, .inl a2, .inl a3] => mx_rI u (mm_isS a1 a2 a3 )
  | _ => (none, u)
noncomputable def tb_mm_isS : List (Nat × mx_T) := [
  (0, mx_iload_n 0 0),
  (1, mx_invS 1 pre_mm_kind fn_mm_kind 1),
  (4, mx_iconst 1 4),
  (5, mx_icmp_ne 28 5),
  (8, mx_iload_n 0 8),
  (9, mx_invS 1 pre_mm_operation fn_mm_operation 9),
  (12, mx_iload_n 1 12),
  (13, mx_icmp_lt 28 13),
  (16, mx_iload_n 0 16),
  (17, mx_invS 1 pre_mm_operation fn_mm_operation 17),
  (20, mx_iload_n 2 20),
  (21, mx_icmp_gt 28 21),
  (24, mx_iconst 1 24),
  (25, mx_goto 29 25),
  (28, mx_iconst 0 28),
  (29, mx_zret 29)]
set_option maxRecDepth 100000 in
set_option maxHeartbeats 4000000 in
theorem ok_mm_isS (l : Launch) : ∀ q ∈ tb_mm_isS , mx_Ok l ({ frames := 1, cells := 0, slots := 0, locals := 20 } : Room) b_mm_isS 3 "WideMachineModel" (some .boolean) vw_T vw_cl km q.1 q.2 := by
  refine List.forall_mem_cons.mpr ⟨mx_ok_iload_n (show decode b_mm_isS 0 = .ok (.iload_n 0, 1) by decide +kernel) rfl, ?_⟩
  refine List.forall_mem_cons.mpr ⟨mx_ok_invS vw_G (ct_mm_kind l ) ⟨vm_322, vm_323, vm_324, ⟨by decide +kernel, by decide +kernel, by decide +kernel⟩, ⟨by decide, by decide⟩, rfl, rfl⟩ vm_325 (show decode b_mm_isS 1 = .ok (.invokestatic 81, 3) by decide +kernel), ?_⟩
  refine List.forall_mem_cons.mpr ⟨mx_ok_iconst (show decode b_mm_isS 4 = .ok (.iconst 1, 1) by decide +kernel) (by decide), ?_⟩
  refine List.forall_mem_cons.mpr ⟨mx_ok_icmp_ne (show decode b_mm_isS 5 = .ok (.if_icmp .ne 23, 3) by decide +kernel) (by decide), ?_⟩
  refine List.forall_mem_cons.mpr ⟨mx_ok_iload_n (show decode b_mm_isS 8 = .ok (.iload_n 0, 1) by decide +kernel) rfl, ?_⟩
  refine List.forall_mem_cons.mpr ⟨mx_ok_invS vw_G (ct_mm_operation l ) ⟨vm_326, vm_327, vm_324, ⟨by decide +kernel, by decide +kernel, by decide +kernel⟩, ⟨by decide, by decide⟩, rfl, rfl⟩ vm_328 (show decode b_mm_isS 9 = .ok (.invokestatic 85, 3) by decide +kernel), ?_⟩
  refine List.forall_mem_cons.mpr ⟨mx_ok_iload_n (show decode b_mm_isS 12 = .ok (.iload_n 1, 1) by decide +kernel) rfl, ?_⟩
  refine List.forall_mem_cons.mpr ⟨mx_ok_icmp_lt (show decode b_mm_isS 13 = .ok (.if_icmp .lt 15, 3) by decide +kernel) (by decide), ?_⟩
  refine List.forall_mem_cons.mpr ⟨mx_ok_iload_n (show decode b_mm_isS 16 = .ok (.iload_n 0, 1) by decide +kernel) rfl, ?_⟩
  refine List.forall_mem_cons.mpr ⟨mx_ok_invS vw_G (ct_mm_operation l ) ⟨vm_326, vm_327, vm_324, ⟨by decide +kernel, by decide +kernel, by decide +kernel⟩, ⟨by decide, by decide⟩, rfl, rfl⟩ vm_328 (show decode b_mm_isS 17 = .ok (.invokestatic 85, 3) by decide +kernel), ?_⟩
  refine List.forall_mem_cons.mpr ⟨mx_ok_iload_n (show decode b_mm_isS 20 = .ok (.iload_n 2, 1) by decide +kernel) rfl, ?_⟩
  refine List.forall_mem_cons.mpr ⟨mx_ok_icmp_gt (show decode b_mm_isS 21 = .ok (.if_icmp .gt 7, 3) by decide +kernel) (by decide), ?_⟩
  refine List.forall_mem_cons.mpr ⟨mx_ok_iconst (show decode b_mm_isS 24 = .ok (.iconst 1, 1) by decide +kernel) (by decide), ?_⟩
  refine List.forall_mem_cons.mpr ⟨mx_ok_goto (show decode b_mm_isS 25 = .ok (.goto 4, 3) by decide +kernel) (by decide), ?_⟩
  refine List.forall_mem_cons.mpr ⟨mx_ok_iconst (show decode b_mm_isS 28 = .ok (.iconst 0, 1) by decide +kernel) (by decide), ?_⟩
  refine List.forall_mem_cons.mpr ⟨mx_ok_zret (show decode b_mm_isS 29 = .ok (.ireturn, 1) by decide +kernel) rfl, ?_⟩
  exact fun _ h => absurd h List.not_mem_nil
set_option maxRecDepth 100000 in
set_option maxHeartbeats 4000000 in
theorem ct_mm_isS (l : Launch) : mx_Ct l vw_T vw_cl km { frames := 1, cells := 0, slots := 0, locals := 20 } y_mm_isS b_mm_isS 3 (some .boolean) pre_mm_isS fn_mm_isS := by
  refine mx_ct_of (tb_mm_isS ) (by decide) (ok_mm_isS l ) (fun as u h => by obtain ⟨_, _, _, rfl, -⟩ := h; exact Nat.le_of_ble_eq_true rfl) ?_
  intro as u hpre At hc hw
  obtain ⟨a1, a2, a3, rfl, hp⟩ := hpre
  exact hc 200 [] _ _ _ _ (
    And.intro rfl (
    And.intro ⟨_, rfl, trivial⟩ (
    And.intro (fun h5 => 
     And.intro (Or.inl rfl) (
     congrArg (mx_rI u) (show 0 = (mm_isS a1 a2 a3 ) from ((mm_isS_eq a1 a2 a3 ).trans (if_neg h5)).symm))) (fun h5 => 
     And.intro rfl (
     And.intro ⟨_, rfl, trivial⟩ (
     And.intro (fun h13 => 
      And.intro (Or.inl rfl) (
      congrArg (mx_rI u) (show 0 = (mm_isS a1 a2 a3 ) from ((mm_isS_eq a1 a2 a3 ).trans ((if_pos h5).trans (if_pos h13))).symm))) (fun h13 => 
      And.intro rfl (
      And.intro ⟨_, rfl, trivial⟩ (
      And.intro (fun h21 => 
       And.intro (Or.inl rfl) (
       congrArg (mx_rI u) (show 0 = (mm_isS a1 a2 a3 ) from ((mm_isS_eq a1 a2 a3 ).trans ((if_pos h5).trans ((if_neg h13).trans (if_pos h21)))).symm))) (fun h21 => 
       And.intro (Or.inr rfl) (
       congrArg (mx_rI u) (show 1 = (mm_isS a1 a2 a3 ) from ((mm_isS_eq a1 a2 a3 ).trans ((if_pos h5).trans ((if_neg h13).trans (if_neg h21)))).symm))))))))))))
/-! WideMachineModel.condition(I)I -/
noncomputable def mm_condition (a1 : Int32) : Int32 :=
  ((a1 >>> ((1 : Int32) &&& 31)) &&& (7 : Int32))
def pre_mm_condition : List mx_V → mx_S → Prop := fun as u => ∃ (a1 : Int32), as = [.inl a1] ∧ True
noncomputable def fn_mm_condition : mx_F := fun as u => match as with
  | [.inl a1] => mx_rI u (mm_condition a1 )
  | _ => (none, u)
noncomputable def tb_mm_condition : List (Nat × mx_T) := [
  (0, mx_iload_n 0 0),
  (1, mx_iconst 1 1),
  (2, mx_ishr 2),
  (3, mx_bipush 7 3),
  (5, mx_iand 5),
  (6, mx_iret 6)]
set_option maxRecDepth 100000 in
set_option maxHeartbeats 4000000 in
theorem ok_mm_condition (l : Launch) : ∀ q ∈ tb_mm_condition , mx_Ok l ({ frames := 0, cells := 0, slots := 0, locals := 0 } : Room) b_mm_condition 1 "WideMachineModel" (some .int) vw_T vw_cl km q.1 q.2 := by
  refine List.forall_mem_cons.mpr ⟨mx_ok_iload_n (show decode b_mm_condition 0 = .ok (.iload_n 0, 1) by decide +kernel) rfl, ?_⟩
  refine List.forall_mem_cons.mpr ⟨mx_ok_iconst (show decode b_mm_condition 1 = .ok (.iconst 1, 1) by decide +kernel) (by decide), ?_⟩
  refine List.forall_mem_cons.mpr ⟨mx_ok_ishr (show decode b_mm_condition 2 = .ok (.ishr, 1) by decide +kernel), ?_⟩
  refine List.forall_mem_cons.mpr ⟨mx_ok_bipush (show decode b_mm_condition 3 = .ok (.bipush 7, 2) by decide +kernel) (by decide), ?_⟩
  refine List.forall_mem_cons.mpr ⟨mx_ok_iand (show decode b_mm_condition 5 = .ok (.iand, 1) by decide +kernel), ?_⟩
  refine List.forall_mem_cons.mpr ⟨mx_ok_iret (show decode b_mm_condition 6 = .ok (.ireturn, 1) by decide +kernel) rfl, ?_⟩
  exact fun _ h => absurd h List.not_mem_nil
set_option maxRecDepth 100000 in
set_option maxHeartbeats 4000000 in
theorem ct_mm_condition (l : Launch) : mx_Ct l vw_T vw_cl km { frames := 0, cells := 0, slots := 0, locals := 0 } y_mm_condition b_mm_condition 1 (some .int) pre_mm_condition fn_mm_condition := by
  refine mx_ct_of (tb_mm_condition ) (by decide) (ok_mm_condition l ) (fun as u h => by obtain ⟨_, rfl, -⟩ := h; exact Nat.le_of_ble_eq_true rfl) ?_
  intro as u hpre At hc hw
  obtain ⟨a1, rfl, hp⟩ := hpre
  exact hc 200 [] _ _ _ _ (
    congrArg (mx_rI u) (show ((a1 >>> ((1 : Int32) &&& 31)) &&& (7 : Int32)) = (mm_condition a1 ) from (rfl).symm))
/-! WideMachineModel.hasD(I)Z -/
noncomputable def mm_hasD_b (a1 : Int32) : Int32 :=
  if (mm_isS a1 7 11 ) = 0 then
   1
  else
   0
theorem mm_hasD_ex : ∃ f : Int32 → (Int32), f = mm_hasD_b := ⟨_, rfl⟩
noncomputable def mm_hasD : Int32 → (Int32) := Classical.choose mm_hasD_ex
theorem mm_hasD_eq (a1 : Int32) : (mm_hasD a1 ) = (mm_hasD_b a1 ) := by rw [show mm_hasD = mm_hasD_b from Classical.choose_spec mm_hasD_ex]
def pre_mm_hasD : List mx_V → mx_S → Prop := fun as u => ∃ (a1 : Int32), as = [.inl a1] ∧ True
noncomputable def fn_mm_hasD : mx_F := fun as u => match as with
  | [.inl a1] => mx_rI u (mm_hasD a1 )
  | _ => (none, u)
noncomputable def tb_mm_hasD : List (Nat × mx_T) := [
  (0, mx_iload_n 0 0),
  (1, mx_bipush 7 1),
  (3, mx_bipush 11 3),
  (5, mx_invS 3 pre_mm_isS fn_mm_isS 5),
  (8, mx_if_ne 15 8),
  (11, mx_iconst 1 11),
  (12, mx_goto 16 12),
  (15, mx_iconst 0 15),
  (16, mx_zret 16)]
set_option maxRecDepth 100000 in
set_option maxHeartbeats 4000000 in
theorem ok_mm_hasD (l : Launch) : ∀ q ∈ tb_mm_hasD , mx_Ok l ({ frames := 2, cells := 0, slots := 0, locals := 42 } : Room) b_mm_hasD 1 "WideMachineModel" (some .boolean) vw_T vw_cl km q.1 q.2 := by
  refine List.forall_mem_cons.mpr ⟨mx_ok_iload_n (show decode b_mm_hasD 0 = .ok (.iload_n 0, 1) by decide +kernel) rfl, ?_⟩
  refine List.forall_mem_cons.mpr ⟨mx_ok_bipush (show decode b_mm_hasD 1 = .ok (.bipush 7, 2) by decide +kernel) (by decide), ?_⟩
  refine List.forall_mem_cons.mpr ⟨mx_ok_bipush (show decode b_mm_hasD 3 = .ok (.bipush 11, 2) by decide +kernel) (by decide), ?_⟩
  refine List.forall_mem_cons.mpr ⟨mx_ok_invS vw_G (ct_mm_isS l ) ⟨vm_329, vm_330, vm_324, ⟨by decide +kernel, by decide +kernel, by decide +kernel⟩, ⟨by decide, by decide⟩, rfl, rfl⟩ vm_331 (show decode b_mm_hasD 5 = .ok (.invokestatic 88, 3) by decide +kernel), ?_⟩
  refine List.forall_mem_cons.mpr ⟨mx_ok_if_ne (show decode b_mm_hasD 8 = .ok (.ifCond .ne 7, 3) by decide +kernel) (by decide), ?_⟩
  refine List.forall_mem_cons.mpr ⟨mx_ok_iconst (show decode b_mm_hasD 11 = .ok (.iconst 1, 1) by decide +kernel) (by decide), ?_⟩
  refine List.forall_mem_cons.mpr ⟨mx_ok_goto (show decode b_mm_hasD 12 = .ok (.goto 4, 3) by decide +kernel) (by decide), ?_⟩
  refine List.forall_mem_cons.mpr ⟨mx_ok_iconst (show decode b_mm_hasD 15 = .ok (.iconst 0, 1) by decide +kernel) (by decide), ?_⟩
  refine List.forall_mem_cons.mpr ⟨mx_ok_zret (show decode b_mm_hasD 16 = .ok (.ireturn, 1) by decide +kernel) rfl, ?_⟩
  exact fun _ h => absurd h List.not_mem_nil
set_option maxRecDepth 100000 in
set_option maxHeartbeats 4000000 in
theorem ct_mm_hasD (l : Launch) : mx_Ct l vw_T vw_cl km { frames := 2, cells := 0, slots := 0, locals := 42 } y_mm_hasD b_mm_hasD 1 (some .boolean) pre_mm_hasD fn_mm_hasD := by
  refine mx_ct_of (tb_mm_hasD ) (by decide) (ok_mm_hasD l ) (fun as u h => by obtain ⟨_, rfl, -⟩ := h; exact Nat.le_of_ble_eq_true rfl) ?_
  intro as u hpre At hc hw
  obtain ⟨a1, rfl, hp⟩ := hpre
  exact hc 200 [] _ _ _ _ (
    And.intro rfl (
    And.intro ⟨_, _, _, rfl, trivial⟩ (
    And.intro (fun h8 => 
     And.intro (Or.inl rfl) (
     congrArg (mx_rI u) (show 0 = (mm_hasD a1 ) from ((mm_hasD_eq a1 ).trans (if_neg h8)).symm))) (fun h8 => 
     And.intro (Or.inr rfl) (
     congrArg (mx_rI u) (show 1 = (mm_hasD a1 ) from ((mm_hasD_eq a1 ).trans (if_pos h8)).symm))))))
/-! WideMachineModel.d(I)I -/
noncomputable def mm_d (a1 : Int32) : Int32 :=
  ((a1 >>> ((12 : Int32) &&& 31)) &&& (31 : Int32))
def pre_mm_d : List mx_V → mx_S → Prop := fun as u => ∃ (a1 : Int32), as = [.inl a1] ∧ True
noncomputable def fn_mm_d : mx_F := fun as u => match as with
  | [.inl a1] => mx_rI u (mm_d a1 )
  | _ => (none, u)
noncomputable def tb_mm_d : List (Nat × mx_T) := [
  (0, mx_iload_n 0 0),
  (1, mx_bipush 12 1),
  (3, mx_ishr 3),
  (4, mx_bipush 31 4),
  (6, mx_iand 6),
  (7, mx_iret 7)]
set_option maxRecDepth 100000 in
set_option maxHeartbeats 4000000 in
theorem ok_mm_d (l : Launch) : ∀ q ∈ tb_mm_d , mx_Ok l ({ frames := 0, cells := 0, slots := 0, locals := 0 } : Room) b_mm_d 1 "WideMachineModel" (some .int) vw_T vw_cl km q.1 q.2 := by
  refine List.forall_mem_cons.mpr ⟨mx_ok_iload_n (show decode b_mm_d 0 = .ok (.iload_n 0, 1) by decide +kernel) rfl, ?_⟩
  refine List.forall_mem_cons.mpr ⟨mx_ok_bipush (show decode b_mm_d 1 = .ok (.bipush 12, 2) by decide +kernel) (by decide), ?_⟩
  refine List.forall_mem_cons.mpr ⟨mx_ok_ishr (show decode b_mm_d 3 = .ok (.ishr, 1) by decide +kernel), ?_⟩
  refine List.forall_mem_cons.mpr ⟨mx_ok_bipush (show decode b_mm_d 4 = .ok (.bipush 31, 2) by decide +kernel) (by decide), ?_⟩
  refine List.forall_mem_cons.mpr ⟨mx_ok_iand (show decode b_mm_d 6 = .ok (.iand, 1) by decide +kernel), ?_⟩
  refine List.forall_mem_cons.mpr ⟨mx_ok_iret (show decode b_mm_d 7 = .ok (.ireturn, 1) by decide +kernel) rfl, ?_⟩
  exact fun _ h => absurd h List.not_mem_nil
set_option maxRecDepth 100000 in
set_option maxHeartbeats 4000000 in
theorem ct_mm_d (l : Launch) : mx_Ct l vw_T vw_cl km { frames := 0, cells := 0, slots := 0, locals := 0 } y_mm_d b_mm_d 1 (some .int) pre_mm_d fn_mm_d := by
  refine mx_ct_of (tb_mm_d ) (by decide) (ok_mm_d l ) (fun as u h => by obtain ⟨_, rfl, -⟩ := h; exact Nat.le_of_ble_eq_true rfl) ?_
  intro as u hpre At hc hw
  obtain ⟨a1, rfl, hp⟩ := hpre
  exact hc 200 [] _ _ _ _ (
    congrArg (mx_rI u) (show ((a1 >>> ((12 : Int32) &&& 31)) &&& (31 : Int32)) = (mm_d a1 ) from (rfl).symm))
theorem mm_d_in (w : Int32) : vp_in (mm_d w) 32 := pk_andIn _ 5 (by decide) (by decide)
/-! WideMachineModel.unit(I)I -/
noncomputable def mm_unit (a1 : Int32) : Int32 :=
  ((a1 >>> ((5 : Int32) &&& 31)) &&& (7 : Int32))
def pre_mm_unit : List mx_V → mx_S → Prop := fun as u => ∃ (a1 : Int32), as = [.inl a1] ∧ True
noncomputable def fn_mm_unit : mx_F := fun as u => match as with
  | [.inl a1] => mx_rI u (mm_unit a1 )
  | _ => (none, u)
noncomputable def tb_mm_unit : List (Nat × mx_T) := [
  (0, mx_iload_n 0 0),
  (1, mx_iconst 5 1),
  (2, mx_ishr 2),
  (3, mx_bipush 7 3),
  (5, mx_iand 5),
  (6, mx_iret 6)]
set_option maxRecDepth 100000 in
set_option maxHeartbeats 4000000 in
theorem ok_mm_unit (l : Launch) : ∀ q ∈ tb_mm_unit , mx_Ok l ({ frames := 0, cells := 0, slots := 0, locals := 0 } : Room) b_mm_unit 1 "WideMachineModel" (some .int) vw_T vw_cl km q.1 q.2 := by
  refine List.forall_mem_cons.mpr ⟨mx_ok_iload_n (show decode b_mm_unit 0 = .ok (.iload_n 0, 1) by decide +kernel) rfl, ?_⟩
  refine List.forall_mem_cons.mpr ⟨mx_ok_iconst (show decode b_mm_unit 1 = .ok (.iconst 5, 1) by decide +kernel) (by decide), ?_⟩
  refine List.forall_mem_cons.mpr ⟨mx_ok_ishr (show decode b_mm_unit 2 = .ok (.ishr, 1) by decide +kernel), ?_⟩
  refine List.forall_mem_cons.mpr ⟨mx_ok_bipush (show decode b_mm_unit 3 = .ok (.bipush 7, 2) by decide +kernel) (by decide), ?_⟩
  refine List.forall_mem_cons.mpr ⟨mx_ok_iand (show decode b_mm_unit 5 = .ok (.iand, 1) by decide +kernel), ?_⟩
  refine List.forall_mem_cons.mpr ⟨mx_ok_iret (show decode b_mm_unit 6 = .ok (.ireturn, 1) by decide +kernel) rfl, ?_⟩
  exact fun _ h => absurd h List.not_mem_nil
set_option maxRecDepth 100000 in
set_option maxHeartbeats 4000000 in
theorem ct_mm_unit (l : Launch) : mx_Ct l vw_T vw_cl km { frames := 0, cells := 0, slots := 0, locals := 0 } y_mm_unit b_mm_unit 1 (some .int) pre_mm_unit fn_mm_unit := by
  refine mx_ct_of (tb_mm_unit ) (by decide) (ok_mm_unit l ) (fun as u h => by obtain ⟨_, rfl, -⟩ := h; exact Nat.le_of_ble_eq_true rfl) ?_
  intro as u hpre At hc hw
  obtain ⟨a1, rfl, hp⟩ := hpre
  exact hc 200 [] _ _ _ _ (
    congrArg (mx_rI u) (show ((a1 >>> ((5 : Int32) &&& 31)) &&& (7 : Int32)) = (mm_unit a1 ) from (rfl).symm))
/-! WideMachineModel.isOther(II)Z -/
noncomputable def mm_isOther_b (a1 : Int32) (a2 : Int32) : Int32 :=
  if (a1 / 16) = ((mm_unit a2 ) / 4) then
   0
  else
   1
theorem mm_isOther_ex : ∃ f : Int32 → Int32 → (Int32), f = mm_isOther_b := ⟨_, rfl⟩
noncomputable def mm_isOther : Int32 → Int32 → (Int32) := Classical.choose mm_isOther_ex
theorem mm_isOther_eq (a1 : Int32) (a2 : Int32) : (mm_isOther a1 a2 ) = (mm_isOther_b a1 a2 ) := by rw [show mm_isOther = mm_isOther_b from Classical.choose_spec mm_isOther_ex]
def pre_mm_isOther : List mx_V → mx_S → Prop := fun as u => ∃ (a1 : Int32) (a2 : Int32), as = [.inl a1, .inl a2] ∧ True
noncomputable def fn_mm_isOther : mx_F := fun as u => match as with
  | [.inl a1, .inl a2] => mx_rI u (mm_isOther a1 a2 )
  | _ => (none, u)
noncomputable def tb_mm_isOther : List (Nat × mx_T) := [
  (0, mx_iload_n 0 0),
  (1, mx_bipush 16 1),
  (3, mx_idiv 3),
  (4, mx_iload_n 1 4),
  (5, mx_invS 1 pre_mm_unit fn_mm_unit 5),
  (8, mx_iconst 4 8),
  (9, mx_idiv 9),
  (10, mx_icmp_eq 17 10),
  (13, mx_iconst 1 13),
  (14, mx_goto 18 14),
  (17, mx_iconst 0 17),
  (18, mx_zret 18)]
set_option maxRecDepth 100000 in
set_option maxHeartbeats 4000000 in
theorem ok_mm_isOther (l : Launch) : ∀ q ∈ tb_mm_isOther , mx_Ok l ({ frames := 1, cells := 0, slots := 0, locals := 20 } : Room) b_mm_isOther 2 "WideMachineModel" (some .boolean) vw_T vw_cl km q.1 q.2 := by
  refine List.forall_mem_cons.mpr ⟨mx_ok_iload_n (show decode b_mm_isOther 0 = .ok (.iload_n 0, 1) by decide +kernel) rfl, ?_⟩
  refine List.forall_mem_cons.mpr ⟨mx_ok_bipush (show decode b_mm_isOther 1 = .ok (.bipush 16, 2) by decide +kernel) (by decide), ?_⟩
  refine List.forall_mem_cons.mpr ⟨mx_ok_idiv (show decode b_mm_isOther 3 = .ok (.idiv, 1) by decide +kernel), ?_⟩
  refine List.forall_mem_cons.mpr ⟨mx_ok_iload_n (show decode b_mm_isOther 4 = .ok (.iload_n 1, 1) by decide +kernel) rfl, ?_⟩
  refine List.forall_mem_cons.mpr ⟨mx_ok_invS vw_G (ct_mm_unit l ) ⟨vm_332, vm_333, vm_324, ⟨by decide +kernel, by decide +kernel, by decide +kernel⟩, ⟨by decide, by decide⟩, rfl, rfl⟩ vm_334 (show decode b_mm_isOther 5 = .ok (.invokestatic 92, 3) by decide +kernel), ?_⟩
  refine List.forall_mem_cons.mpr ⟨mx_ok_iconst (show decode b_mm_isOther 8 = .ok (.iconst 4, 1) by decide +kernel) (by decide), ?_⟩
  refine List.forall_mem_cons.mpr ⟨mx_ok_idiv (show decode b_mm_isOther 9 = .ok (.idiv, 1) by decide +kernel), ?_⟩
  refine List.forall_mem_cons.mpr ⟨mx_ok_icmp_eq (show decode b_mm_isOther 10 = .ok (.if_icmp .eq 7, 3) by decide +kernel) (by decide), ?_⟩
  refine List.forall_mem_cons.mpr ⟨mx_ok_iconst (show decode b_mm_isOther 13 = .ok (.iconst 1, 1) by decide +kernel) (by decide), ?_⟩
  refine List.forall_mem_cons.mpr ⟨mx_ok_goto (show decode b_mm_isOther 14 = .ok (.goto 4, 3) by decide +kernel) (by decide), ?_⟩
  refine List.forall_mem_cons.mpr ⟨mx_ok_iconst (show decode b_mm_isOther 17 = .ok (.iconst 0, 1) by decide +kernel) (by decide), ?_⟩
  refine List.forall_mem_cons.mpr ⟨mx_ok_zret (show decode b_mm_isOther 18 = .ok (.ireturn, 1) by decide +kernel) rfl, ?_⟩
  exact fun _ h => absurd h List.not_mem_nil
set_option maxRecDepth 100000 in
set_option maxHeartbeats 4000000 in
theorem ct_mm_isOther (l : Launch) : mx_Ct l vw_T vw_cl km { frames := 1, cells := 0, slots := 0, locals := 20 } y_mm_isOther b_mm_isOther 2 (some .boolean) pre_mm_isOther fn_mm_isOther := by
  refine mx_ct_of (tb_mm_isOther ) (by decide) (ok_mm_isOther l ) (fun as u h => by obtain ⟨_, _, rfl, -⟩ := h; exact Nat.le_of_ble_eq_true rfl) ?_
  intro as u hpre At hc hw
  obtain ⟨a1, a2, rfl, hp⟩ := hpre
  exact hc 200 [] _ _ _ _ (
    And.intro (by decide) (
    And.intro rfl (
    And.intro ⟨_, rfl, trivial⟩ (
    And.intro (by decide) (
    And.intro (fun h10 => 
     And.intro (Or.inl rfl) (
     congrArg (mx_rI u) (show 0 = (mm_isOther a1 a2 ) from ((mm_isOther_eq a1 a2 ).trans (if_pos h10)).symm))) (fun h10 => 
     And.intro (Or.inr rfl) (
     congrArg (mx_rI u) (show 1 = (mm_isOther a1 a2 ) from ((mm_isOther_eq a1 a2 ).trans (if_neg h10)).symm))))))))
/-! WideMachineModel.hasA(I)Z -/
noncomputable def mm_hasA_b (a1 : Int32) : Int32 :=
  if (mm_isS a1 5 11 ) = 0 then
   if (mm_kind a1 ) = 0 then
    if (mm_operation a1 ) = 9 then
     0
    else
     1
   else
    1
  else
   0
theorem mm_hasA_ex : ∃ f : Int32 → (Int32), f = mm_hasA_b := ⟨_, rfl⟩
noncomputable def mm_hasA : Int32 → (Int32) := Classical.choose mm_hasA_ex
theorem mm_hasA_eq (a1 : Int32) : (mm_hasA a1 ) = (mm_hasA_b a1 ) := by rw [show mm_hasA = mm_hasA_b from Classical.choose_spec mm_hasA_ex]
def pre_mm_hasA : List mx_V → mx_S → Prop := fun as u => ∃ (a1 : Int32), as = [.inl a1] ∧ True
noncomputable def fn_mm_hasA : mx_F := fun as u => match as with
  | [.inl a1] => mx_rI u (mm_hasA a1 )
  | _ => (none, u)
noncomputable def tb_mm_hasA : List (Nat × mx_T) := [
  (0, mx_iload_n 0 0),
  (1, mx_iconst 5 1),
  (2, mx_bipush 11 2),
  (4, mx_invS 3 pre_mm_isS fn_mm_isS 4),
  (7, mx_if_ne 30 7),
  (10, mx_iload_n 0 10),
  (11, mx_invS 1 pre_mm_kind fn_mm_kind 11),
  (14, mx_if_ne 26 14),
  (17, mx_iload_n 0 17),
  (18, mx_invS 1 pre_mm_operation fn_mm_operation 18),
  (21, mx_bipush 9 21),
  (23, mx_icmp_eq 30 23),
  (26, mx_iconst 1 26),
  (27, mx_goto 31 27),
  (30, mx_iconst 0 30),
  (31, mx_zret 31)]
set_option maxRecDepth 100000 in
set_option maxHeartbeats 4000000 in
theorem ok_mm_hasA (l : Launch) : ∀ q ∈ tb_mm_hasA , mx_Ok l ({ frames := 2, cells := 0, slots := 0, locals := 42 } : Room) b_mm_hasA 1 "WideMachineModel" (some .boolean) vw_T vw_cl km q.1 q.2 := by
  refine List.forall_mem_cons.mpr ⟨mx_ok_iload_n (show decode b_mm_hasA 0 = .ok (.iload_n 0, 1) by decide +kernel) rfl, ?_⟩
  refine List.forall_mem_cons.mpr ⟨mx_ok_iconst (show decode b_mm_hasA 1 = .ok (.iconst 5, 1) by decide +kernel) (by decide), ?_⟩
  refine List.forall_mem_cons.mpr ⟨mx_ok_bipush (show decode b_mm_hasA 2 = .ok (.bipush 11, 2) by decide +kernel) (by decide), ?_⟩
  refine List.forall_mem_cons.mpr ⟨mx_ok_invS vw_G (ct_mm_isS l ) ⟨vm_329, vm_330, vm_324, ⟨by decide +kernel, by decide +kernel, by decide +kernel⟩, ⟨by decide, by decide⟩, rfl, rfl⟩ vm_331 (show decode b_mm_hasA 4 = .ok (.invokestatic 88, 3) by decide +kernel), ?_⟩
  refine List.forall_mem_cons.mpr ⟨mx_ok_if_ne (show decode b_mm_hasA 7 = .ok (.ifCond .ne 23, 3) by decide +kernel) (by decide), ?_⟩
  refine List.forall_mem_cons.mpr ⟨mx_ok_iload_n (show decode b_mm_hasA 10 = .ok (.iload_n 0, 1) by decide +kernel) rfl, ?_⟩
  refine List.forall_mem_cons.mpr ⟨mx_ok_invS vw_G (ct_mm_kind l ) ⟨vm_322, vm_323, vm_324, ⟨by decide +kernel, by decide +kernel, by decide +kernel⟩, ⟨by decide, by decide⟩, rfl, rfl⟩ vm_325 (show decode b_mm_hasA 11 = .ok (.invokestatic 81, 3) by decide +kernel), ?_⟩
  refine List.forall_mem_cons.mpr ⟨mx_ok_if_ne (show decode b_mm_hasA 14 = .ok (.ifCond .ne 12, 3) by decide +kernel) (by decide), ?_⟩
  refine List.forall_mem_cons.mpr ⟨mx_ok_iload_n (show decode b_mm_hasA 17 = .ok (.iload_n 0, 1) by decide +kernel) rfl, ?_⟩
  refine List.forall_mem_cons.mpr ⟨mx_ok_invS vw_G (ct_mm_operation l ) ⟨vm_326, vm_327, vm_324, ⟨by decide +kernel, by decide +kernel, by decide +kernel⟩, ⟨by decide, by decide⟩, rfl, rfl⟩ vm_328 (show decode b_mm_hasA 18 = .ok (.invokestatic 85, 3) by decide +kernel), ?_⟩
  refine List.forall_mem_cons.mpr ⟨mx_ok_bipush (show decode b_mm_hasA 21 = .ok (.bipush 9, 2) by decide +kernel) (by decide), ?_⟩
  refine List.forall_mem_cons.mpr ⟨mx_ok_icmp_eq (show decode b_mm_hasA 23 = .ok (.if_icmp .eq 7, 3) by decide +kernel) (by decide), ?_⟩
  refine List.forall_mem_cons.mpr ⟨mx_ok_iconst (show decode b_mm_hasA 26 = .ok (.iconst 1, 1) by decide +kernel) (by decide), ?_⟩
  refine List.forall_mem_cons.mpr ⟨mx_ok_goto (show decode b_mm_hasA 27 = .ok (.goto 4, 3) by decide +kernel) (by decide), ?_⟩
  refine List.forall_mem_cons.mpr ⟨mx_ok_iconst (show decode b_mm_hasA 30 = .ok (.iconst 0, 1) by decide +kernel) (by decide), ?_⟩
  refine List.forall_mem_cons.mpr ⟨mx_ok_zret (show decode b_mm_hasA 31 = .ok (.ireturn, 1) by decide +kernel) rfl, ?_⟩
  exact fun _ h => absurd h List.not_mem_nil
set_option maxRecDepth 100000 in
set_option maxHeartbeats 4000000 in
theorem ct_mm_hasA (l : Launch) : mx_Ct l vw_T vw_cl km { frames := 2, cells := 0, slots := 0, locals := 42 } y_mm_hasA b_mm_hasA 1 (some .boolean) pre_mm_hasA fn_mm_hasA := by
  refine mx_ct_of (tb_mm_hasA ) (by decide) (ok_mm_hasA l ) (fun as u h => by obtain ⟨_, rfl, -⟩ := h; exact Nat.le_of_ble_eq_true rfl) ?_
  intro as u hpre At hc hw
  obtain ⟨a1, rfl, hp⟩ := hpre
  exact hc 200 [] _ _ _ _ (
    And.intro rfl (
    And.intro ⟨_, _, _, rfl, trivial⟩ (
    And.intro (fun h7 => 
     And.intro (Or.inl rfl) (
     congrArg (mx_rI u) (show 0 = (mm_hasA a1 ) from ((mm_hasA_eq a1 ).trans (if_neg h7)).symm))) (fun h7 => 
     And.intro rfl (
     And.intro ⟨_, rfl, trivial⟩ (
     And.intro (fun h14 => 
      And.intro (Or.inr rfl) (
      congrArg (mx_rI u) (show 1 = (mm_hasA a1 ) from ((mm_hasA_eq a1 ).trans ((if_pos h7).trans (if_neg h14))).symm))) (fun h14 => 
      And.intro rfl (
      And.intro ⟨_, rfl, trivial⟩ (
      And.intro (fun h23 => 
       And.intro (Or.inl rfl) (
       congrArg (mx_rI u) (show 0 = (mm_hasA a1 ) from ((mm_hasA_eq a1 ).trans ((if_pos h7).trans ((if_pos h14).trans (if_pos h23)))).symm))) (fun h23 => 
       And.intro (Or.inr rfl) (
       congrArg (mx_rI u) (show 1 = (mm_hasA a1 ) from ((mm_hasA_eq a1 ).trans ((if_pos h7).trans ((if_pos h14).trans (if_neg h23)))).symm))))))))))))
/-! WideMachineModel.a(I)I -/
noncomputable def mm_a (a1 : Int32) : Int32 :=
  ((a1 >>> ((17 : Int32) &&& 31)) &&& (31 : Int32))
def pre_mm_a : List mx_V → mx_S → Prop := fun as u => ∃ (a1 : Int32), as = [.inl a1] ∧ True
noncomputable def fn_mm_a : mx_F := fun as u => match as with
  | [.inl a1] => mx_rI u (mm_a a1 )
  | _ => (none, u)
noncomputable def tb_mm_a : List (Nat × mx_T) := [
  (0, mx_iload_n 0 0),
  (1, mx_bipush 17 1),
  (3, mx_ishr 3),
  (4, mx_bipush 31 4),
  (6, mx_iand 6),
  (7, mx_iret 7)]
set_option maxRecDepth 100000 in
set_option maxHeartbeats 4000000 in
theorem ok_mm_a (l : Launch) : ∀ q ∈ tb_mm_a , mx_Ok l ({ frames := 0, cells := 0, slots := 0, locals := 0 } : Room) b_mm_a 1 "WideMachineModel" (some .int) vw_T vw_cl km q.1 q.2 := by
  refine List.forall_mem_cons.mpr ⟨mx_ok_iload_n (show decode b_mm_a 0 = .ok (.iload_n 0, 1) by decide +kernel) rfl, ?_⟩
  refine List.forall_mem_cons.mpr ⟨mx_ok_bipush (show decode b_mm_a 1 = .ok (.bipush 17, 2) by decide +kernel) (by decide), ?_⟩
  refine List.forall_mem_cons.mpr ⟨mx_ok_ishr (show decode b_mm_a 3 = .ok (.ishr, 1) by decide +kernel), ?_⟩
  refine List.forall_mem_cons.mpr ⟨mx_ok_bipush (show decode b_mm_a 4 = .ok (.bipush 31, 2) by decide +kernel) (by decide), ?_⟩
  refine List.forall_mem_cons.mpr ⟨mx_ok_iand (show decode b_mm_a 6 = .ok (.iand, 1) by decide +kernel), ?_⟩
  refine List.forall_mem_cons.mpr ⟨mx_ok_iret (show decode b_mm_a 7 = .ok (.ireturn, 1) by decide +kernel) rfl, ?_⟩
  exact fun _ h => absurd h List.not_mem_nil
set_option maxRecDepth 100000 in
set_option maxHeartbeats 4000000 in
theorem ct_mm_a (l : Launch) : mx_Ct l vw_T vw_cl km { frames := 0, cells := 0, slots := 0, locals := 0 } y_mm_a b_mm_a 1 (some .int) pre_mm_a fn_mm_a := by
  refine mx_ct_of (tb_mm_a ) (by decide) (ok_mm_a l ) (fun as u h => by obtain ⟨_, rfl, -⟩ := h; exact Nat.le_of_ble_eq_true rfl) ?_
  intro as u hpre At hc hw
  obtain ⟨a1, rfl, hp⟩ := hpre
  exact hc 200 [] _ _ _ _ (
    congrArg (mx_rI u) (show ((a1 >>> ((17 : Int32) &&& 31)) &&& (31 : Int32)) = (mm_a a1 ) from (rfl).symm))
theorem mm_a_in (w : Int32) : vp_in (mm_a w) 32 := pk_andIn _ 5 (by decide) (by decide)
/-! WideMachineModel.isIll(I)Z -/
noncomputable def mm_isIll_b (a1 : Int32) : Int32 :=
  if (mm_kind a1 ) = 0 then
   if (a1.toUInt32 >>> ((28 : Int32).toUInt32 &&& Int32.toUInt32 31)).toInt32 = 0 then
    if 5 < (mm_condition a1 ) then
     1
    else
     if (mm_condition a1 ) = 0 then
      if ((a1 >>> ((4 : Int32) &&& 31)) &&& (1 : Int32)) = 1 then
       1
      else
       if 9 < (mm_operation a1 ) then
        1
       else
        if (mm_hasD a1 ) = 0 then
         if (mm_hasA a1 ) = 0 then
          0
         else
          if (mm_isOther (mm_a a1 ) a1 ) = 0 then
           0
          else
           1
        else
         if (mm_isOther (mm_d a1 ) a1 ) = 0 then
          if (mm_hasA a1 ) = 0 then
           0
          else
           if (mm_isOther (mm_a a1 ) a1 ) = 0 then
            0
           else
            1
         else
          1
     else
      if 9 < (mm_operation a1 ) then
       1
      else
       if (mm_hasD a1 ) = 0 then
        if (mm_hasA a1 ) = 0 then
         0
        else
         if (mm_isOther (mm_a a1 ) a1 ) = 0 then
          0
         else
          1
       else
        if (mm_isOther (mm_d a1 ) a1 ) = 0 then
         if (mm_hasA a1 ) = 0 then
          0
         else
          if (mm_isOther (mm_a a1 ) a1 ) = 0 then
           0
          else
           1
        else
         1
   else
    if (mm_isS a1 5 7 ) = 0 then
     1
    else
     if 5 < (mm_condition a1 ) then
      1
     else
      if (mm_condition a1 ) = 0 then
       if ((a1 >>> ((4 : Int32) &&& 31)) &&& (1 : Int32)) = 1 then
        1
       else
        if 9 < (mm_operation a1 ) then
         1
        else
         if (mm_hasD a1 ) = 0 then
          if (mm_hasA a1 ) = 0 then
           0
          else
           if (mm_isOther (mm_a a1 ) a1 ) = 0 then
            0
           else
            1
         else
          if (mm_isOther (mm_d a1 ) a1 ) = 0 then
           if (mm_hasA a1 ) = 0 then
            0
           else
            if (mm_isOther (mm_a a1 ) a1 ) = 0 then
             0
            else
             1
          else
           1
      else
       if 9 < (mm_operation a1 ) then
        1
       else
        if (mm_hasD a1 ) = 0 then
         if (mm_hasA a1 ) = 0 then
          0
         else
          if (mm_isOther (mm_a a1 ) a1 ) = 0 then
           0
          else
           1
        else
         if (mm_isOther (mm_d a1 ) a1 ) = 0 then
          if (mm_hasA a1 ) = 0 then
           0
          else
           if (mm_isOther (mm_a a1 ) a1 ) = 0 then
            0
           else
            1
         else
          1
  else
   if (mm_kind a1 ) = 1 then
    if (a1.toUInt32 >>> ((28 : Int32).toUInt32 &&& Int32.toUInt32 31)).toInt32 = 0 then
     if 5 < (mm_condition a1 ) then
      1
     else
      if (mm_condition a1 ) = 0 then
       if ((a1 >>> ((4 : Int32) &&& 31)) &&& (1 : Int32)) = 1 then
        1
       else
        if 11 < (mm_operation a1 ) then
         1
        else
         if (mm_hasD a1 ) = 0 then
          if (mm_hasA a1 ) = 0 then
           0
          else
           if (mm_isOther (mm_a a1 ) a1 ) = 0 then
            0
           else
            1
         else
          if (mm_isOther (mm_d a1 ) a1 ) = 0 then
           if (mm_hasA a1 ) = 0 then
            0
           else
            if (mm_isOther (mm_a a1 ) a1 ) = 0 then
             0
            else
             1
          else
           1
      else
       if 11 < (mm_operation a1 ) then
        1
       else
        if (mm_hasD a1 ) = 0 then
         if (mm_hasA a1 ) = 0 then
          0
         else
          if (mm_isOther (mm_a a1 ) a1 ) = 0 then
           0
          else
           1
        else
         if (mm_isOther (mm_d a1 ) a1 ) = 0 then
          if (mm_hasA a1 ) = 0 then
           0
          else
           if (mm_isOther (mm_a a1 ) a1 ) = 0 then
            0
           else
            1
         else
          1
    else
     if (mm_isS a1 5 7 ) = 0 then
      1
     else
      if 5 < (mm_condition a1 ) then
       1
      else
       if (mm_condition a1 ) = 0 then
        if ((a1 >>> ((4 : Int32) &&& 31)) &&& (1 : Int32)) = 1 then
         1
        else
         if 11 < (mm_operation a1 ) then
          1
         else
          if (mm_hasD a1 ) = 0 then
           if (mm_hasA a1 ) = 0 then
            0
           else
            if (mm_isOther (mm_a a1 ) a1 ) = 0 then
             0
            else
             1
          else
           if (mm_isOther (mm_d a1 ) a1 ) = 0 then
            if (mm_hasA a1 ) = 0 then
             0
            else
             if (mm_isOther (mm_a a1 ) a1 ) = 0 then
              0
             else
              1
           else
            1
       else
        if 11 < (mm_operation a1 ) then
         1
        else
         if (mm_hasD a1 ) = 0 then
          if (mm_hasA a1 ) = 0 then
           0
          else
           if (mm_isOther (mm_a a1 ) a1 ) = 0 then
            0
           else
            1
         else
          if (mm_isOther (mm_d a1 ) a1 ) = 0 then
           if (mm_hasA a1 ) = 0 then
            0
           else
            if (mm_isOther (mm_a a1 ) a1 ) = 0 then
             0
            else
             1
          else
           1
   else
    if (a1.toUInt32 >>> ((28 : Int32).toUInt32 &&& Int32.toUInt32 31)).toInt32 = 0 then
     if 5 < (mm_condition a1 ) then
      1
     else
      if (mm_condition a1 ) = 0 then
       if ((a1 >>> ((4 : Int32) &&& 31)) &&& (1 : Int32)) = 1 then
        1
       else
        if 3 < (mm_operation a1 ) then
         1
        else
         if (mm_hasD a1 ) = 0 then
          if (mm_hasA a1 ) = 0 then
           0
          else
           if (mm_isOther (mm_a a1 ) a1 ) = 0 then
            0
           else
            1
         else
          if (mm_isOther (mm_d a1 ) a1 ) = 0 then
           if (mm_hasA a1 ) = 0 then
            0
           else
            if (mm_isOther (mm_a a1 ) a1 ) = 0 then
             0
            else
             1
          else
           1
      else
       if 3 < (mm_operation a1 ) then
        1
       else
        if (mm_hasD a1 ) = 0 then
         if (mm_hasA a1 ) = 0 then
          0
         else
          if (mm_isOther (mm_a a1 ) a1 ) = 0 then
           0
          else
           1
        else
         if (mm_isOther (mm_d a1 ) a1 ) = 0 then
          if (mm_hasA a1 ) = 0 then
           0
          else
           if (mm_isOther (mm_a a1 ) a1 ) = 0 then
            0
           else
            1
         else
          1
    else
     if (mm_isS a1 5 7 ) = 0 then
      1
     else
      if 5 < (mm_condition a1 ) then
       1
      else
       if (mm_condition a1 ) = 0 then
        if ((a1 >>> ((4 : Int32) &&& 31)) &&& (1 : Int32)) = 1 then
         1
        else
         if 3 < (mm_operation a1 ) then
          1
         else
          if (mm_hasD a1 ) = 0 then
           if (mm_hasA a1 ) = 0 then
            0
           else
            if (mm_isOther (mm_a a1 ) a1 ) = 0 then
             0
            else
             1
          else
           if (mm_isOther (mm_d a1 ) a1 ) = 0 then
            if (mm_hasA a1 ) = 0 then
             0
            else
             if (mm_isOther (mm_a a1 ) a1 ) = 0 then
              0
             else
              1
           else
            1
       else
        if 3 < (mm_operation a1 ) then
         1
        else
         if (mm_hasD a1 ) = 0 then
          if (mm_hasA a1 ) = 0 then
           0
          else
           if (mm_isOther (mm_a a1 ) a1 ) = 0 then
            0
           else
            1
         else
          if (mm_isOther (mm_d a1 ) a1 ) = 0 then
           if (mm_hasA a1 ) = 0 then
            0
           else
            if (mm_isOther (mm_a a1 ) a1 ) = 0 then
             0
            else
             1
          else
           1
theorem mm_isIll_ex : ∃ f : Int32 → (Int32), f = mm_isIll_b := ⟨_, rfl⟩
noncomputable def mm_isIll : Int32 → (Int32) := Classical.choose mm_isIll_ex
theorem mm_isIll_eq (a1 : Int32) : (mm_isIll a1 ) = (mm_isIll_b a1 ) := by rw [show mm_isIll = mm_isIll_b from Classical.choose_spec mm_isIll_ex]
def pre_mm_isIll : List mx_V → mx_S → Prop := fun as u => ∃ (a1 : Int32), as = [.inl a1] ∧ True
noncomputable def fn_mm_isIll : mx_F := fun as u => match as with
  | [.inl a1] => mx_rI u (mm_isIll a1 )
  | _ => (none, u)
noncomputable def tb_mm_isIll : List (Nat × mx_T) := [
  (0, mx_iload_n 0 0),
  (1, mx_invS 1 pre_mm_kind fn_mm_kind 1),
  (4, mx_istore_n 1 4),
  (5, mx_iload_n 1 5),
  (6, mx_if_ne 14 6),
  (9, mx_bipush 9 9),
  (11, mx_goto 25 11),
  (14, mx_iload_n 1 14),
  (15, mx_iconst 1 15),
  (16, mx_icmp_ne 24 16),
  (19, mx_bipush 11 19),
  (21, mx_goto 25 21),
  (24, mx_iconst 3 24),
  (25, mx_istore_n 2 25),
  (26, mx_iload_n 0 26),
  (27, mx_bipush 28 27),
  (29, mx_iushr 29),
  (30, mx_if_eq 47 30),
  (33, mx_iload_n 0 33),
  (34, mx_iconst 5 34),
  (35, mx_bipush 7 35),
  (37, mx_invS 3 pre_mm_isS fn_mm_isS 37),
  (40, mx_if_ne 47 40),
  (43, mx_iconst 1 43),
  (44, mx_goto 48 44),
  (47, mx_iconst 0 47),
  (48, mx_istore_n 3 48),
  (49, mx_iload_n 3 49),
  (50, mx_if_ne 121 50),
  (53, mx_iload_n 0 53),
  (54, mx_invS 1 pre_mm_condition fn_mm_condition 54),
  (57, mx_iconst 5 57),
  (58, mx_icmp_gt 121 58),
  (61, mx_iload_n 0 61),
  (62, mx_invS 1 pre_mm_condition fn_mm_condition 62),
  (65, mx_if_ne 77 65),
  (68, mx_iload_n 0 68),
  (69, mx_iconst 4 69),
  (70, mx_ishr 70),
  (71, mx_iconst 1 71),
  (72, mx_iand 72),
  (73, mx_iconst 1 73),
  (74, mx_icmp_eq 121 74),
  (77, mx_iload_n 0 77),
  (78, mx_invS 1 pre_mm_operation fn_mm_operation 78),
  (81, mx_iload_n 2 81),
  (82, mx_icmp_gt 121 82),
  (85, mx_iload_n 0 85),
  (86, mx_invS 1 pre_mm_hasD fn_mm_hasD 86),
  (89, mx_if_eq 103 89),
  (92, mx_iload_n 0 92),
  (93, mx_invS 1 pre_mm_d fn_mm_d 93),
  (96, mx_iload_n 0 96),
  (97, mx_invS 2 pre_mm_isOther fn_mm_isOther 97),
  (100, mx_if_ne 121 100),
  (103, mx_iload_n 0 103),
  (104, mx_invS 1 pre_mm_hasA fn_mm_hasA 104),
  (107, mx_if_eq 125 107),
  (110, mx_iload_n 0 110),
  (111, mx_invS 1 pre_mm_a fn_mm_a 111),
  (114, mx_iload_n 0 114),
  (115, mx_invS 2 pre_mm_isOther fn_mm_isOther 115),
  (118, mx_if_eq 125 118),
  (121, mx_iconst 1 121),
  (122, mx_goto 126 122),
  (125, mx_iconst 0 125),
  (126, mx_zret 126)]
set_option maxRecDepth 100000 in
set_option maxHeartbeats 4000000 in
theorem ok_mm_isIll (l : Launch) : ∀ q ∈ tb_mm_isIll , mx_Ok l ({ frames := 3, cells := 0, slots := 0, locals := 62 } : Room) b_mm_isIll 4 "WideMachineModel" (some .boolean) vw_T vw_cl km q.1 q.2 := by
  refine List.forall_mem_cons.mpr ⟨mx_ok_iload_n (show decode b_mm_isIll 0 = .ok (.iload_n 0, 1) by decide +kernel) rfl, ?_⟩
  refine List.forall_mem_cons.mpr ⟨mx_ok_invS vw_G (ct_mm_kind l ) ⟨vm_322, vm_323, vm_324, ⟨by decide +kernel, by decide +kernel, by decide +kernel⟩, ⟨by decide, by decide⟩, rfl, rfl⟩ vm_325 (show decode b_mm_isIll 1 = .ok (.invokestatic 81, 3) by decide +kernel), ?_⟩
  refine List.forall_mem_cons.mpr ⟨mx_ok_istore_n (show decode b_mm_isIll 4 = .ok (.istore_n 1, 1) by decide +kernel) rfl (by decide), ?_⟩
  refine List.forall_mem_cons.mpr ⟨mx_ok_iload_n (show decode b_mm_isIll 5 = .ok (.iload_n 1, 1) by decide +kernel) rfl, ?_⟩
  refine List.forall_mem_cons.mpr ⟨mx_ok_if_ne (show decode b_mm_isIll 6 = .ok (.ifCond .ne 8, 3) by decide +kernel) (by decide), ?_⟩
  refine List.forall_mem_cons.mpr ⟨mx_ok_bipush (show decode b_mm_isIll 9 = .ok (.bipush 9, 2) by decide +kernel) (by decide), ?_⟩
  refine List.forall_mem_cons.mpr ⟨mx_ok_goto (show decode b_mm_isIll 11 = .ok (.goto 14, 3) by decide +kernel) (by decide), ?_⟩
  refine List.forall_mem_cons.mpr ⟨mx_ok_iload_n (show decode b_mm_isIll 14 = .ok (.iload_n 1, 1) by decide +kernel) rfl, ?_⟩
  refine List.forall_mem_cons.mpr ⟨mx_ok_iconst (show decode b_mm_isIll 15 = .ok (.iconst 1, 1) by decide +kernel) (by decide), ?_⟩
  refine List.forall_mem_cons.mpr ⟨mx_ok_icmp_ne (show decode b_mm_isIll 16 = .ok (.if_icmp .ne 8, 3) by decide +kernel) (by decide), ?_⟩
  refine List.forall_mem_cons.mpr ⟨mx_ok_bipush (show decode b_mm_isIll 19 = .ok (.bipush 11, 2) by decide +kernel) (by decide), ?_⟩
  refine List.forall_mem_cons.mpr ⟨mx_ok_goto (show decode b_mm_isIll 21 = .ok (.goto 4, 3) by decide +kernel) (by decide), ?_⟩
  refine List.forall_mem_cons.mpr ⟨mx_ok_iconst (show decode b_mm_isIll 24 = .ok (.iconst 3, 1) by decide +kernel) (by decide), ?_⟩
  refine List.forall_mem_cons.mpr ⟨mx_ok_istore_n (show decode b_mm_isIll 25 = .ok (.istore_n 2, 1) by decide +kernel) rfl (by decide), ?_⟩
  refine List.forall_mem_cons.mpr ⟨mx_ok_iload_n (show decode b_mm_isIll 26 = .ok (.iload_n 0, 1) by decide +kernel) rfl, ?_⟩
  refine List.forall_mem_cons.mpr ⟨mx_ok_bipush (show decode b_mm_isIll 27 = .ok (.bipush 28, 2) by decide +kernel) (by decide), ?_⟩
  refine List.forall_mem_cons.mpr ⟨mx_ok_iushr (show decode b_mm_isIll 29 = .ok (.iushr, 1) by decide +kernel), ?_⟩
  refine List.forall_mem_cons.mpr ⟨mx_ok_if_eq (show decode b_mm_isIll 30 = .ok (.ifCond .eq 17, 3) by decide +kernel) (by decide), ?_⟩
  refine List.forall_mem_cons.mpr ⟨mx_ok_iload_n (show decode b_mm_isIll 33 = .ok (.iload_n 0, 1) by decide +kernel) rfl, ?_⟩
  refine List.forall_mem_cons.mpr ⟨mx_ok_iconst (show decode b_mm_isIll 34 = .ok (.iconst 5, 1) by decide +kernel) (by decide), ?_⟩
  refine List.forall_mem_cons.mpr ⟨mx_ok_bipush (show decode b_mm_isIll 35 = .ok (.bipush 7, 2) by decide +kernel) (by decide), ?_⟩
  refine List.forall_mem_cons.mpr ⟨mx_ok_invS vw_G (ct_mm_isS l ) ⟨vm_329, vm_330, vm_324, ⟨by decide +kernel, by decide +kernel, by decide +kernel⟩, ⟨by decide, by decide⟩, rfl, rfl⟩ vm_331 (show decode b_mm_isIll 37 = .ok (.invokestatic 88, 3) by decide +kernel), ?_⟩
  refine List.forall_mem_cons.mpr ⟨mx_ok_if_ne (show decode b_mm_isIll 40 = .ok (.ifCond .ne 7, 3) by decide +kernel) (by decide), ?_⟩
  refine List.forall_mem_cons.mpr ⟨mx_ok_iconst (show decode b_mm_isIll 43 = .ok (.iconst 1, 1) by decide +kernel) (by decide), ?_⟩
  refine List.forall_mem_cons.mpr ⟨mx_ok_goto (show decode b_mm_isIll 44 = .ok (.goto 4, 3) by decide +kernel) (by decide), ?_⟩
  refine List.forall_mem_cons.mpr ⟨mx_ok_iconst (show decode b_mm_isIll 47 = .ok (.iconst 0, 1) by decide +kernel) (by decide), ?_⟩
  refine List.forall_mem_cons.mpr ⟨mx_ok_istore_n (show decode b_mm_isIll 48 = .ok (.istore_n 3, 1) by decide +kernel) rfl (by decide), ?_⟩
  refine List.forall_mem_cons.mpr ⟨mx_ok_iload_n (show decode b_mm_isIll 49 = .ok (.iload_n 3, 1) by decide +kernel) rfl, ?_⟩
  refine List.forall_mem_cons.mpr ⟨mx_ok_if_ne (show decode b_mm_isIll 50 = .ok (.ifCond .ne 71, 3) by decide +kernel) (by decide), ?_⟩
  refine List.forall_mem_cons.mpr ⟨mx_ok_iload_n (show decode b_mm_isIll 53 = .ok (.iload_n 0, 1) by decide +kernel) rfl, ?_⟩
  refine List.forall_mem_cons.mpr ⟨mx_ok_invS vw_G (ct_mm_condition l ) ⟨vm_335, vm_336, vm_324, ⟨by decide +kernel, by decide +kernel, by decide +kernel⟩, ⟨by decide, by decide⟩, rfl, rfl⟩ vm_337 (show decode b_mm_isIll 54 = .ok (.invokestatic 95, 3) by decide +kernel), ?_⟩
  refine List.forall_mem_cons.mpr ⟨mx_ok_iconst (show decode b_mm_isIll 57 = .ok (.iconst 5, 1) by decide +kernel) (by decide), ?_⟩
  refine List.forall_mem_cons.mpr ⟨mx_ok_icmp_gt (show decode b_mm_isIll 58 = .ok (.if_icmp .gt 63, 3) by decide +kernel) (by decide), ?_⟩
  refine List.forall_mem_cons.mpr ⟨mx_ok_iload_n (show decode b_mm_isIll 61 = .ok (.iload_n 0, 1) by decide +kernel) rfl, ?_⟩
  refine List.forall_mem_cons.mpr ⟨mx_ok_invS vw_G (ct_mm_condition l ) ⟨vm_335, vm_336, vm_324, ⟨by decide +kernel, by decide +kernel, by decide +kernel⟩, ⟨by decide, by decide⟩, rfl, rfl⟩ vm_337 (show decode b_mm_isIll 62 = .ok (.invokestatic 95, 3) by decide +kernel), ?_⟩
  refine List.forall_mem_cons.mpr ⟨mx_ok_if_ne (show decode b_mm_isIll 65 = .ok (.ifCond .ne 12, 3) by decide +kernel) (by decide), ?_⟩
  refine List.forall_mem_cons.mpr ⟨mx_ok_iload_n (show decode b_mm_isIll 68 = .ok (.iload_n 0, 1) by decide +kernel) rfl, ?_⟩
  refine List.forall_mem_cons.mpr ⟨mx_ok_iconst (show decode b_mm_isIll 69 = .ok (.iconst 4, 1) by decide +kernel) (by decide), ?_⟩
  refine List.forall_mem_cons.mpr ⟨mx_ok_ishr (show decode b_mm_isIll 70 = .ok (.ishr, 1) by decide +kernel), ?_⟩
  refine List.forall_mem_cons.mpr ⟨mx_ok_iconst (show decode b_mm_isIll 71 = .ok (.iconst 1, 1) by decide +kernel) (by decide), ?_⟩
  refine List.forall_mem_cons.mpr ⟨mx_ok_iand (show decode b_mm_isIll 72 = .ok (.iand, 1) by decide +kernel), ?_⟩
  refine List.forall_mem_cons.mpr ⟨mx_ok_iconst (show decode b_mm_isIll 73 = .ok (.iconst 1, 1) by decide +kernel) (by decide), ?_⟩
  refine List.forall_mem_cons.mpr ⟨mx_ok_icmp_eq (show decode b_mm_isIll 74 = .ok (.if_icmp .eq 47, 3) by decide +kernel) (by decide), ?_⟩
  refine List.forall_mem_cons.mpr ⟨mx_ok_iload_n (show decode b_mm_isIll 77 = .ok (.iload_n 0, 1) by decide +kernel) rfl, ?_⟩
  refine List.forall_mem_cons.mpr ⟨mx_ok_invS vw_G (ct_mm_operation l ) ⟨vm_326, vm_327, vm_324, ⟨by decide +kernel, by decide +kernel, by decide +kernel⟩, ⟨by decide, by decide⟩, rfl, rfl⟩ vm_328 (show decode b_mm_isIll 78 = .ok (.invokestatic 85, 3) by decide +kernel), ?_⟩
  refine List.forall_mem_cons.mpr ⟨mx_ok_iload_n (show decode b_mm_isIll 81 = .ok (.iload_n 2, 1) by decide +kernel) rfl, ?_⟩
  refine List.forall_mem_cons.mpr ⟨mx_ok_icmp_gt (show decode b_mm_isIll 82 = .ok (.if_icmp .gt 39, 3) by decide +kernel) (by decide), ?_⟩
  refine List.forall_mem_cons.mpr ⟨mx_ok_iload_n (show decode b_mm_isIll 85 = .ok (.iload_n 0, 1) by decide +kernel) rfl, ?_⟩
  refine List.forall_mem_cons.mpr ⟨mx_ok_invS vw_G (ct_mm_hasD l ) ⟨vm_338, vm_339, vm_324, ⟨by decide +kernel, by decide +kernel, by decide +kernel⟩, ⟨by decide, by decide⟩, rfl, rfl⟩ vm_340 (show decode b_mm_isIll 86 = .ok (.invokestatic 98, 3) by decide +kernel), ?_⟩
  refine List.forall_mem_cons.mpr ⟨mx_ok_if_eq (show decode b_mm_isIll 89 = .ok (.ifCond .eq 14, 3) by decide +kernel) (by decide), ?_⟩
  refine List.forall_mem_cons.mpr ⟨mx_ok_iload_n (show decode b_mm_isIll 92 = .ok (.iload_n 0, 1) by decide +kernel) rfl, ?_⟩
  refine List.forall_mem_cons.mpr ⟨mx_ok_invS vw_G (ct_mm_d l ) ⟨vm_341, vm_342, vm_324, ⟨by decide +kernel, by decide +kernel, by decide +kernel⟩, ⟨by decide, by decide⟩, rfl, rfl⟩ vm_343 (show decode b_mm_isIll 93 = .ok (.invokestatic 102, 3) by decide +kernel), ?_⟩
  refine List.forall_mem_cons.mpr ⟨mx_ok_iload_n (show decode b_mm_isIll 96 = .ok (.iload_n 0, 1) by decide +kernel) rfl, ?_⟩
  refine List.forall_mem_cons.mpr ⟨mx_ok_invS vw_G (ct_mm_isOther l ) ⟨vm_344, vm_345, vm_324, ⟨by decide +kernel, by decide +kernel, by decide +kernel⟩, ⟨by decide, by decide⟩, rfl, rfl⟩ vm_346 (show decode b_mm_isIll 97 = .ok (.invokestatic 105, 3) by decide +kernel), ?_⟩
  refine List.forall_mem_cons.mpr ⟨mx_ok_if_ne (show decode b_mm_isIll 100 = .ok (.ifCond .ne 21, 3) by decide +kernel) (by decide), ?_⟩
  refine List.forall_mem_cons.mpr ⟨mx_ok_iload_n (show decode b_mm_isIll 103 = .ok (.iload_n 0, 1) by decide +kernel) rfl, ?_⟩
  refine List.forall_mem_cons.mpr ⟨mx_ok_invS vw_G (ct_mm_hasA l ) ⟨vm_347, vm_348, vm_324, ⟨by decide +kernel, by decide +kernel, by decide +kernel⟩, ⟨by decide, by decide⟩, rfl, rfl⟩ vm_349 (show decode b_mm_isIll 104 = .ok (.invokestatic 109, 3) by decide +kernel), ?_⟩
  refine List.forall_mem_cons.mpr ⟨mx_ok_if_eq (show decode b_mm_isIll 107 = .ok (.ifCond .eq 18, 3) by decide +kernel) (by decide), ?_⟩
  refine List.forall_mem_cons.mpr ⟨mx_ok_iload_n (show decode b_mm_isIll 110 = .ok (.iload_n 0, 1) by decide +kernel) rfl, ?_⟩
  refine List.forall_mem_cons.mpr ⟨mx_ok_invS vw_G (ct_mm_a l ) ⟨vm_350, vm_351, vm_324, ⟨by decide +kernel, by decide +kernel, by decide +kernel⟩, ⟨by decide, by decide⟩, rfl, rfl⟩ vm_352 (show decode b_mm_isIll 111 = .ok (.invokestatic 112, 3) by decide +kernel), ?_⟩
  refine List.forall_mem_cons.mpr ⟨mx_ok_iload_n (show decode b_mm_isIll 114 = .ok (.iload_n 0, 1) by decide +kernel) rfl, ?_⟩
  refine List.forall_mem_cons.mpr ⟨mx_ok_invS vw_G (ct_mm_isOther l ) ⟨vm_344, vm_345, vm_324, ⟨by decide +kernel, by decide +kernel, by decide +kernel⟩, ⟨by decide, by decide⟩, rfl, rfl⟩ vm_346 (show decode b_mm_isIll 115 = .ok (.invokestatic 105, 3) by decide +kernel), ?_⟩
  refine List.forall_mem_cons.mpr ⟨mx_ok_if_eq (show decode b_mm_isIll 118 = .ok (.ifCond .eq 7, 3) by decide +kernel) (by decide), ?_⟩
  refine List.forall_mem_cons.mpr ⟨mx_ok_iconst (show decode b_mm_isIll 121 = .ok (.iconst 1, 1) by decide +kernel) (by decide), ?_⟩
  refine List.forall_mem_cons.mpr ⟨mx_ok_goto (show decode b_mm_isIll 122 = .ok (.goto 4, 3) by decide +kernel) (by decide), ?_⟩
  refine List.forall_mem_cons.mpr ⟨mx_ok_iconst (show decode b_mm_isIll 125 = .ok (.iconst 0, 1) by decide +kernel) (by decide), ?_⟩
  refine List.forall_mem_cons.mpr ⟨mx_ok_zret (show decode b_mm_isIll 126 = .ok (.ireturn, 1) by decide +kernel) rfl, ?_⟩
  exact fun _ h => absurd h List.not_mem_nil
set_option maxRecDepth 100000 in
set_option maxHeartbeats 4000000 in
theorem ct_mm_isIll (l : Launch) : mx_Ct l vw_T vw_cl km { frames := 3, cells := 0, slots := 0, locals := 62 } y_mm_isIll b_mm_isIll 4 (some .boolean) pre_mm_isIll fn_mm_isIll := by
  refine mx_ct_of (tb_mm_isIll ) (by decide) (ok_mm_isIll l ) (fun as u h => by obtain ⟨_, rfl, -⟩ := h; exact Nat.le_of_ble_eq_true rfl) ?_
  intro as u hpre At hc hw
  obtain ⟨a1, rfl, hp⟩ := hpre
  exact hc 200 [] _ _ _ _ (
    And.intro rfl (
    And.intro ⟨_, rfl, trivial⟩ (
    And.intro (fun h6 => 
     And.intro (fun h16 => 
      And.intro (fun h30 => 
       And.intro (fun h50 => absurd h50 (by decide)) (fun h50 => 
        And.intro rfl (
        And.intro ⟨_, rfl, trivial⟩ (
        And.intro (fun h58 => 
         And.intro (Or.inr rfl) (
         congrArg (mx_rI u) (show 1 = (mm_isIll a1 ) from ((mm_isIll_eq a1 ).trans ((if_neg h6).trans ((if_neg h16).trans ((if_pos h30).trans (if_pos h58))))).symm))) (fun h58 => 
         And.intro rfl (
         And.intro ⟨_, rfl, trivial⟩ (
         And.intro (fun h65 => 
          And.intro rfl (
          And.intro ⟨_, rfl, trivial⟩ (
          And.intro (fun h82 => 
           And.intro (Or.inr rfl) (
           congrArg (mx_rI u) (show 1 = (mm_isIll a1 ) from ((mm_isIll_eq a1 ).trans ((if_neg h6).trans ((if_neg h16).trans ((if_pos h30).trans ((if_neg h58).trans ((if_neg h65).trans (if_pos h82))))))).symm))) (fun h82 => 
           And.intro rfl (
           And.intro ⟨_, rfl, trivial⟩ (
           And.intro (fun h89 => 
            And.intro rfl (
            And.intro ⟨_, rfl, trivial⟩ (
            And.intro (fun h107 => 
             And.intro (Or.inl rfl) (
             congrArg (mx_rI u) (show 0 = (mm_isIll a1 ) from ((mm_isIll_eq a1 ).trans ((if_neg h6).trans ((if_neg h16).trans ((if_pos h30).trans ((if_neg h58).trans ((if_neg h65).trans ((if_neg h82).trans ((if_pos h89).trans (if_pos h107))))))))).symm))) (fun h107 => 
             And.intro rfl (
             And.intro ⟨_, rfl, trivial⟩ (
             And.intro rfl (
             And.intro ⟨_, _, rfl, trivial⟩ (
             And.intro (fun h118 => 
              And.intro (Or.inl rfl) (
              congrArg (mx_rI u) (show 0 = (mm_isIll a1 ) from ((mm_isIll_eq a1 ).trans ((if_neg h6).trans ((if_neg h16).trans ((if_pos h30).trans ((if_neg h58).trans ((if_neg h65).trans ((if_neg h82).trans ((if_pos h89).trans ((if_neg h107).trans (if_pos h118)))))))))).symm))) (fun h118 => 
              And.intro (Or.inr rfl) (
              congrArg (mx_rI u) (show 1 = (mm_isIll a1 ) from ((mm_isIll_eq a1 ).trans ((if_neg h6).trans ((if_neg h16).trans ((if_pos h30).trans ((if_neg h58).trans ((if_neg h65).trans ((if_neg h82).trans ((if_pos h89).trans ((if_neg h107).trans (if_neg h118)))))))))).symm))))))))))) (fun h89 => 
            And.intro rfl (
            And.intro ⟨_, rfl, trivial⟩ (
            And.intro rfl (
            And.intro ⟨_, _, rfl, trivial⟩ (
            And.intro (fun h100 => 
             And.intro (Or.inr rfl) (
             congrArg (mx_rI u) (show 1 = (mm_isIll a1 ) from ((mm_isIll_eq a1 ).trans ((if_neg h6).trans ((if_neg h16).trans ((if_pos h30).trans ((if_neg h58).trans ((if_neg h65).trans ((if_neg h82).trans ((if_neg h89).trans (if_neg h100))))))))).symm))) (fun h100 => 
             And.intro rfl (
             And.intro ⟨_, rfl, trivial⟩ (
             And.intro (fun h107 => 
              And.intro (Or.inl rfl) (
              congrArg (mx_rI u) (show 0 = (mm_isIll a1 ) from ((mm_isIll_eq a1 ).trans ((if_neg h6).trans ((if_neg h16).trans ((if_pos h30).trans ((if_neg h58).trans ((if_neg h65).trans ((if_neg h82).trans ((if_neg h89).trans ((if_pos h100).trans (if_pos h107)))))))))).symm))) (fun h107 => 
              And.intro rfl (
              And.intro ⟨_, rfl, trivial⟩ (
              And.intro rfl (
              And.intro ⟨_, _, rfl, trivial⟩ (
              And.intro (fun h118 => 
               And.intro (Or.inl rfl) (
               congrArg (mx_rI u) (show 0 = (mm_isIll a1 ) from ((mm_isIll_eq a1 ).trans ((if_neg h6).trans ((if_neg h16).trans ((if_pos h30).trans ((if_neg h58).trans ((if_neg h65).trans ((if_neg h82).trans ((if_neg h89).trans ((if_pos h100).trans ((if_neg h107).trans (if_pos h118))))))))))).symm))) (fun h118 => 
               And.intro (Or.inr rfl) (
               congrArg (mx_rI u) (show 1 = (mm_isIll a1 ) from ((mm_isIll_eq a1 ).trans ((if_neg h6).trans ((if_neg h16).trans ((if_pos h30).trans ((if_neg h58).trans ((if_neg h65).trans ((if_neg h82).trans ((if_neg h89).trans ((if_pos h100).trans ((if_neg h107).trans (if_neg h118))))))))))).symm)))))))))))))))))))))) (fun h65 => 
          And.intro (fun h74 => 
           And.intro (Or.inr rfl) (
           congrArg (mx_rI u) (show 1 = (mm_isIll a1 ) from ((mm_isIll_eq a1 ).trans ((if_neg h6).trans ((if_neg h16).trans ((if_pos h30).trans ((if_neg h58).trans ((if_pos h65).trans (if_pos h74))))))).symm))) (fun h74 => 
           And.intro rfl (
           And.intro ⟨_, rfl, trivial⟩ (
           And.intro (fun h82 => 
            And.intro (Or.inr rfl) (
            congrArg (mx_rI u) (show 1 = (mm_isIll a1 ) from ((mm_isIll_eq a1 ).trans ((if_neg h6).trans ((if_neg h16).trans ((if_pos h30).trans ((if_neg h58).trans ((if_pos h65).trans ((if_neg h74).trans (if_pos h82)))))))).symm))) (fun h82 => 
            And.intro rfl (
            And.intro ⟨_, rfl, trivial⟩ (
            And.intro (fun h89 => 
             And.intro rfl (
             And.intro ⟨_, rfl, trivial⟩ (
             And.intro (fun h107 => 
              And.intro (Or.inl rfl) (
              congrArg (mx_rI u) (show 0 = (mm_isIll a1 ) from ((mm_isIll_eq a1 ).trans ((if_neg h6).trans ((if_neg h16).trans ((if_pos h30).trans ((if_neg h58).trans ((if_pos h65).trans ((if_neg h74).trans ((if_neg h82).trans ((if_pos h89).trans (if_pos h107)))))))))).symm))) (fun h107 => 
              And.intro rfl (
              And.intro ⟨_, rfl, trivial⟩ (
              And.intro rfl (
              And.intro ⟨_, _, rfl, trivial⟩ (
              And.intro (fun h118 => 
               And.intro (Or.inl rfl) (
               congrArg (mx_rI u) (show 0 = (mm_isIll a1 ) from ((mm_isIll_eq a1 ).trans ((if_neg h6).trans ((if_neg h16).trans ((if_pos h30).trans ((if_neg h58).trans ((if_pos h65).trans ((if_neg h74).trans ((if_neg h82).trans ((if_pos h89).trans ((if_neg h107).trans (if_pos h118))))))))))).symm))) (fun h118 => 
               And.intro (Or.inr rfl) (
               congrArg (mx_rI u) (show 1 = (mm_isIll a1 ) from ((mm_isIll_eq a1 ).trans ((if_neg h6).trans ((if_neg h16).trans ((if_pos h30).trans ((if_neg h58).trans ((if_pos h65).trans ((if_neg h74).trans ((if_neg h82).trans ((if_pos h89).trans ((if_neg h107).trans (if_neg h118))))))))))).symm))))))))))) (fun h89 => 
             And.intro rfl (
             And.intro ⟨_, rfl, trivial⟩ (
             And.intro rfl (
             And.intro ⟨_, _, rfl, trivial⟩ (
             And.intro (fun h100 => 
              And.intro (Or.inr rfl) (
              congrArg (mx_rI u) (show 1 = (mm_isIll a1 ) from ((mm_isIll_eq a1 ).trans ((if_neg h6).trans ((if_neg h16).trans ((if_pos h30).trans ((if_neg h58).trans ((if_pos h65).trans ((if_neg h74).trans ((if_neg h82).trans ((if_neg h89).trans (if_neg h100)))))))))).symm))) (fun h100 => 
              And.intro rfl (
              And.intro ⟨_, rfl, trivial⟩ (
              And.intro (fun h107 => 
               And.intro (Or.inl rfl) (
               congrArg (mx_rI u) (show 0 = (mm_isIll a1 ) from ((mm_isIll_eq a1 ).trans ((if_neg h6).trans ((if_neg h16).trans ((if_pos h30).trans ((if_neg h58).trans ((if_pos h65).trans ((if_neg h74).trans ((if_neg h82).trans ((if_neg h89).trans ((if_pos h100).trans (if_pos h107))))))))))).symm))) (fun h107 => 
               And.intro rfl (
               And.intro ⟨_, rfl, trivial⟩ (
               And.intro rfl (
               And.intro ⟨_, _, rfl, trivial⟩ (
               And.intro (fun h118 => 
                And.intro (Or.inl rfl) (
                congrArg (mx_rI u) (show 0 = (mm_isIll a1 ) from ((mm_isIll_eq a1 ).trans ((if_neg h6).trans ((if_neg h16).trans ((if_pos h30).trans ((if_neg h58).trans ((if_pos h65).trans ((if_neg h74).trans ((if_neg h82).trans ((if_neg h89).trans ((if_pos h100).trans ((if_neg h107).trans (if_pos h118)))))))))))).symm))) (fun h118 => 
                And.intro (Or.inr rfl) (
                congrArg (mx_rI u) (show 1 = (mm_isIll a1 ) from ((mm_isIll_eq a1 ).trans ((if_neg h6).trans ((if_neg h16).trans ((if_pos h30).trans ((if_neg h58).trans ((if_pos h65).trans ((if_neg h74).trans ((if_neg h82).trans ((if_neg h89).trans ((if_pos h100).trans ((if_neg h107).trans (if_neg h118)))))))))))).symm)))))))))))))))))))))))))))))) (fun h30 => 
       And.intro rfl (
       And.intro ⟨_, _, _, rfl, trivial⟩ (
       And.intro (fun h40 => 
        And.intro (fun h50 => absurd h50 (by decide)) (fun h50 => 
         And.intro rfl (
         And.intro ⟨_, rfl, trivial⟩ (
         And.intro (fun h58 => 
          And.intro (Or.inr rfl) (
          congrArg (mx_rI u) (show 1 = (mm_isIll a1 ) from ((mm_isIll_eq a1 ).trans ((if_neg h6).trans ((if_neg h16).trans ((if_neg h30).trans ((if_neg h40).trans (if_pos h58)))))).symm))) (fun h58 => 
          And.intro rfl (
          And.intro ⟨_, rfl, trivial⟩ (
          And.intro (fun h65 => 
           And.intro rfl (
           And.intro ⟨_, rfl, trivial⟩ (
           And.intro (fun h82 => 
            And.intro (Or.inr rfl) (
            congrArg (mx_rI u) (show 1 = (mm_isIll a1 ) from ((mm_isIll_eq a1 ).trans ((if_neg h6).trans ((if_neg h16).trans ((if_neg h30).trans ((if_neg h40).trans ((if_neg h58).trans ((if_neg h65).trans (if_pos h82)))))))).symm))) (fun h82 => 
            And.intro rfl (
            And.intro ⟨_, rfl, trivial⟩ (
            And.intro (fun h89 => 
             And.intro rfl (
             And.intro ⟨_, rfl, trivial⟩ (
             And.intro (fun h107 => 
              And.intro (Or.inl rfl) (
              congrArg (mx_rI u) (show 0 = (mm_isIll a1 ) from ((mm_isIll_eq a1 ).trans ((if_neg h6).trans ((if_neg h16).trans ((if_neg h30).trans ((if_neg h40).trans ((if_neg h58).trans ((if_neg h65).trans ((if_neg h82).trans ((if_pos h89).trans (if_pos h107)))))))))).symm))) (fun h107 => 
              And.intro rfl (
              And.intro ⟨_, rfl, trivial⟩ (
              And.intro rfl (
              And.intro ⟨_, _, rfl, trivial⟩ (
              And.intro (fun h118 => 
               And.intro (Or.inl rfl) (
               congrArg (mx_rI u) (show 0 = (mm_isIll a1 ) from ((mm_isIll_eq a1 ).trans ((if_neg h6).trans ((if_neg h16).trans ((if_neg h30).trans ((if_neg h40).trans ((if_neg h58).trans ((if_neg h65).trans ((if_neg h82).trans ((if_pos h89).trans ((if_neg h107).trans (if_pos h118))))))))))).symm))) (fun h118 => 
               And.intro (Or.inr rfl) (
               congrArg (mx_rI u) (show 1 = (mm_isIll a1 ) from ((mm_isIll_eq a1 ).trans ((if_neg h6).trans ((if_neg h16).trans ((if_neg h30).trans ((if_neg h40).trans ((if_neg h58).trans ((if_neg h65).trans ((if_neg h82).trans ((if_pos h89).trans ((if_neg h107).trans (if_neg h118))))))))))).symm))))))))))) (fun h89 => 
             And.intro rfl (
             And.intro ⟨_, rfl, trivial⟩ (
             And.intro rfl (
             And.intro ⟨_, _, rfl, trivial⟩ (
             And.intro (fun h100 => 
              And.intro (Or.inr rfl) (
              congrArg (mx_rI u) (show 1 = (mm_isIll a1 ) from ((mm_isIll_eq a1 ).trans ((if_neg h6).trans ((if_neg h16).trans ((if_neg h30).trans ((if_neg h40).trans ((if_neg h58).trans ((if_neg h65).trans ((if_neg h82).trans ((if_neg h89).trans (if_neg h100)))))))))).symm))) (fun h100 => 
              And.intro rfl (
              And.intro ⟨_, rfl, trivial⟩ (
              And.intro (fun h107 => 
               And.intro (Or.inl rfl) (
               congrArg (mx_rI u) (show 0 = (mm_isIll a1 ) from ((mm_isIll_eq a1 ).trans ((if_neg h6).trans ((if_neg h16).trans ((if_neg h30).trans ((if_neg h40).trans ((if_neg h58).trans ((if_neg h65).trans ((if_neg h82).trans ((if_neg h89).trans ((if_pos h100).trans (if_pos h107))))))))))).symm))) (fun h107 => 
               And.intro rfl (
               And.intro ⟨_, rfl, trivial⟩ (
               And.intro rfl (
               And.intro ⟨_, _, rfl, trivial⟩ (
               And.intro (fun h118 => 
                And.intro (Or.inl rfl) (
                congrArg (mx_rI u) (show 0 = (mm_isIll a1 ) from ((mm_isIll_eq a1 ).trans ((if_neg h6).trans ((if_neg h16).trans ((if_neg h30).trans ((if_neg h40).trans ((if_neg h58).trans ((if_neg h65).trans ((if_neg h82).trans ((if_neg h89).trans ((if_pos h100).trans ((if_neg h107).trans (if_pos h118)))))))))))).symm))) (fun h118 => 
                And.intro (Or.inr rfl) (
                congrArg (mx_rI u) (show 1 = (mm_isIll a1 ) from ((mm_isIll_eq a1 ).trans ((if_neg h6).trans ((if_neg h16).trans ((if_neg h30).trans ((if_neg h40).trans ((if_neg h58).trans ((if_neg h65).trans ((if_neg h82).trans ((if_neg h89).trans ((if_pos h100).trans ((if_neg h107).trans (if_neg h118)))))))))))).symm)))))))))))))))))))))) (fun h65 => 
           And.intro (fun h74 => 
            And.intro (Or.inr rfl) (
            congrArg (mx_rI u) (show 1 = (mm_isIll a1 ) from ((mm_isIll_eq a1 ).trans ((if_neg h6).trans ((if_neg h16).trans ((if_neg h30).trans ((if_neg h40).trans ((if_neg h58).trans ((if_pos h65).trans (if_pos h74)))))))).symm))) (fun h74 => 
            And.intro rfl (
            And.intro ⟨_, rfl, trivial⟩ (
            And.intro (fun h82 => 
             And.intro (Or.inr rfl) (
             congrArg (mx_rI u) (show 1 = (mm_isIll a1 ) from ((mm_isIll_eq a1 ).trans ((if_neg h6).trans ((if_neg h16).trans ((if_neg h30).trans ((if_neg h40).trans ((if_neg h58).trans ((if_pos h65).trans ((if_neg h74).trans (if_pos h82))))))))).symm))) (fun h82 => 
             And.intro rfl (
             And.intro ⟨_, rfl, trivial⟩ (
             And.intro (fun h89 => 
              And.intro rfl (
              And.intro ⟨_, rfl, trivial⟩ (
              And.intro (fun h107 => 
               And.intro (Or.inl rfl) (
               congrArg (mx_rI u) (show 0 = (mm_isIll a1 ) from ((mm_isIll_eq a1 ).trans ((if_neg h6).trans ((if_neg h16).trans ((if_neg h30).trans ((if_neg h40).trans ((if_neg h58).trans ((if_pos h65).trans ((if_neg h74).trans ((if_neg h82).trans ((if_pos h89).trans (if_pos h107))))))))))).symm))) (fun h107 => 
               And.intro rfl (
               And.intro ⟨_, rfl, trivial⟩ (
               And.intro rfl (
               And.intro ⟨_, _, rfl, trivial⟩ (
               And.intro (fun h118 => 
                And.intro (Or.inl rfl) (
                congrArg (mx_rI u) (show 0 = (mm_isIll a1 ) from ((mm_isIll_eq a1 ).trans ((if_neg h6).trans ((if_neg h16).trans ((if_neg h30).trans ((if_neg h40).trans ((if_neg h58).trans ((if_pos h65).trans ((if_neg h74).trans ((if_neg h82).trans ((if_pos h89).trans ((if_neg h107).trans (if_pos h118)))))))))))).symm))) (fun h118 => 
                And.intro (Or.inr rfl) (
                congrArg (mx_rI u) (show 1 = (mm_isIll a1 ) from ((mm_isIll_eq a1 ).trans ((if_neg h6).trans ((if_neg h16).trans ((if_neg h30).trans ((if_neg h40).trans ((if_neg h58).trans ((if_pos h65).trans ((if_neg h74).trans ((if_neg h82).trans ((if_pos h89).trans ((if_neg h107).trans (if_neg h118)))))))))))).symm))))))))))) (fun h89 => 
              And.intro rfl (
              And.intro ⟨_, rfl, trivial⟩ (
              And.intro rfl (
              And.intro ⟨_, _, rfl, trivial⟩ (
              And.intro (fun h100 => 
               And.intro (Or.inr rfl) (
               congrArg (mx_rI u) (show 1 = (mm_isIll a1 ) from ((mm_isIll_eq a1 ).trans ((if_neg h6).trans ((if_neg h16).trans ((if_neg h30).trans ((if_neg h40).trans ((if_neg h58).trans ((if_pos h65).trans ((if_neg h74).trans ((if_neg h82).trans ((if_neg h89).trans (if_neg h100))))))))))).symm))) (fun h100 => 
               And.intro rfl (
               And.intro ⟨_, rfl, trivial⟩ (
               And.intro (fun h107 => 
                And.intro (Or.inl rfl) (
                congrArg (mx_rI u) (show 0 = (mm_isIll a1 ) from ((mm_isIll_eq a1 ).trans ((if_neg h6).trans ((if_neg h16).trans ((if_neg h30).trans ((if_neg h40).trans ((if_neg h58).trans ((if_pos h65).trans ((if_neg h74).trans ((if_neg h82).trans ((if_neg h89).trans ((if_pos h100).trans (if_pos h107)))))))))))).symm))) (fun h107 => 
                And.intro rfl (
                And.intro ⟨_, rfl, trivial⟩ (
                And.intro rfl (
                And.intro ⟨_, _, rfl, trivial⟩ (
                And.intro (fun h118 => 
                 And.intro (Or.inl rfl) (
                 congrArg (mx_rI u) (show 0 = (mm_isIll a1 ) from ((mm_isIll_eq a1 ).trans ((if_neg h6).trans ((if_neg h16).trans ((if_neg h30).trans ((if_neg h40).trans ((if_neg h58).trans ((if_pos h65).trans ((if_neg h74).trans ((if_neg h82).trans ((if_neg h89).trans ((if_pos h100).trans ((if_neg h107).trans (if_pos h118))))))))))))).symm))) (fun h118 => 
                 And.intro (Or.inr rfl) (
                 congrArg (mx_rI u) (show 1 = (mm_isIll a1 ) from ((mm_isIll_eq a1 ).trans ((if_neg h6).trans ((if_neg h16).trans ((if_neg h30).trans ((if_neg h40).trans ((if_neg h58).trans ((if_pos h65).trans ((if_neg h74).trans ((if_neg h82).trans ((if_neg h89).trans ((if_pos h100).trans ((if_neg h107).trans (if_neg h118))))))))))))).symm)))))))))))))))))))))))))))))) (fun h40 => 
        And.intro (fun h50 => 
         And.intro (Or.inr rfl) (
         congrArg (mx_rI u) (show 1 = (mm_isIll a1 ) from ((mm_isIll_eq a1 ).trans ((if_neg h6).trans ((if_neg h16).trans ((if_neg h30).trans (if_pos h40))))).symm))) (fun h50 => absurd h50 (by decide))))))) (fun h16 => 
      And.intro (fun h30 => 
       And.intro (fun h50 => absurd h50 (by decide)) (fun h50 => 
        And.intro rfl (
        And.intro ⟨_, rfl, trivial⟩ (
        And.intro (fun h58 => 
         And.intro (Or.inr rfl) (
         congrArg (mx_rI u) (show 1 = (mm_isIll a1 ) from ((mm_isIll_eq a1 ).trans ((if_neg h6).trans ((if_pos h16).trans ((if_pos h30).trans (if_pos h58))))).symm))) (fun h58 => 
         And.intro rfl (
         And.intro ⟨_, rfl, trivial⟩ (
         And.intro (fun h65 => 
          And.intro rfl (
          And.intro ⟨_, rfl, trivial⟩ (
          And.intro (fun h82 => 
           And.intro (Or.inr rfl) (
           congrArg (mx_rI u) (show 1 = (mm_isIll a1 ) from ((mm_isIll_eq a1 ).trans ((if_neg h6).trans ((if_pos h16).trans ((if_pos h30).trans ((if_neg h58).trans ((if_neg h65).trans (if_pos h82))))))).symm))) (fun h82 => 
           And.intro rfl (
           And.intro ⟨_, rfl, trivial⟩ (
           And.intro (fun h89 => 
            And.intro rfl (
            And.intro ⟨_, rfl, trivial⟩ (
            And.intro (fun h107 => 
             And.intro (Or.inl rfl) (
             congrArg (mx_rI u) (show 0 = (mm_isIll a1 ) from ((mm_isIll_eq a1 ).trans ((if_neg h6).trans ((if_pos h16).trans ((if_pos h30).trans ((if_neg h58).trans ((if_neg h65).trans ((if_neg h82).trans ((if_pos h89).trans (if_pos h107))))))))).symm))) (fun h107 => 
             And.intro rfl (
             And.intro ⟨_, rfl, trivial⟩ (
             And.intro rfl (
             And.intro ⟨_, _, rfl, trivial⟩ (
             And.intro (fun h118 => 
              And.intro (Or.inl rfl) (
              congrArg (mx_rI u) (show 0 = (mm_isIll a1 ) from ((mm_isIll_eq a1 ).trans ((if_neg h6).trans ((if_pos h16).trans ((if_pos h30).trans ((if_neg h58).trans ((if_neg h65).trans ((if_neg h82).trans ((if_pos h89).trans ((if_neg h107).trans (if_pos h118)))))))))).symm))) (fun h118 => 
              And.intro (Or.inr rfl) (
              congrArg (mx_rI u) (show 1 = (mm_isIll a1 ) from ((mm_isIll_eq a1 ).trans ((if_neg h6).trans ((if_pos h16).trans ((if_pos h30).trans ((if_neg h58).trans ((if_neg h65).trans ((if_neg h82).trans ((if_pos h89).trans ((if_neg h107).trans (if_neg h118)))))))))).symm))))))))))) (fun h89 => 
            And.intro rfl (
            And.intro ⟨_, rfl, trivial⟩ (
            And.intro rfl (
            And.intro ⟨_, _, rfl, trivial⟩ (
            And.intro (fun h100 => 
             And.intro (Or.inr rfl) (
             congrArg (mx_rI u) (show 1 = (mm_isIll a1 ) from ((mm_isIll_eq a1 ).trans ((if_neg h6).trans ((if_pos h16).trans ((if_pos h30).trans ((if_neg h58).trans ((if_neg h65).trans ((if_neg h82).trans ((if_neg h89).trans (if_neg h100))))))))).symm))) (fun h100 => 
             And.intro rfl (
             And.intro ⟨_, rfl, trivial⟩ (
             And.intro (fun h107 => 
              And.intro (Or.inl rfl) (
              congrArg (mx_rI u) (show 0 = (mm_isIll a1 ) from ((mm_isIll_eq a1 ).trans ((if_neg h6).trans ((if_pos h16).trans ((if_pos h30).trans ((if_neg h58).trans ((if_neg h65).trans ((if_neg h82).trans ((if_neg h89).trans ((if_pos h100).trans (if_pos h107)))))))))).symm))) (fun h107 => 
              And.intro rfl (
              And.intro ⟨_, rfl, trivial⟩ (
              And.intro rfl (
              And.intro ⟨_, _, rfl, trivial⟩ (
              And.intro (fun h118 => 
               And.intro (Or.inl rfl) (
               congrArg (mx_rI u) (show 0 = (mm_isIll a1 ) from ((mm_isIll_eq a1 ).trans ((if_neg h6).trans ((if_pos h16).trans ((if_pos h30).trans ((if_neg h58).trans ((if_neg h65).trans ((if_neg h82).trans ((if_neg h89).trans ((if_pos h100).trans ((if_neg h107).trans (if_pos h118))))))))))).symm))) (fun h118 => 
               And.intro (Or.inr rfl) (
               congrArg (mx_rI u) (show 1 = (mm_isIll a1 ) from ((mm_isIll_eq a1 ).trans ((if_neg h6).trans ((if_pos h16).trans ((if_pos h30).trans ((if_neg h58).trans ((if_neg h65).trans ((if_neg h82).trans ((if_neg h89).trans ((if_pos h100).trans ((if_neg h107).trans (if_neg h118))))))))))).symm)))))))))))))))))))))) (fun h65 => 
          And.intro (fun h74 => 
           And.intro (Or.inr rfl) (
           congrArg (mx_rI u) (show 1 = (mm_isIll a1 ) from ((mm_isIll_eq a1 ).trans ((if_neg h6).trans ((if_pos h16).trans ((if_pos h30).trans ((if_neg h58).trans ((if_pos h65).trans (if_pos h74))))))).symm))) (fun h74 => 
           And.intro rfl (
           And.intro ⟨_, rfl, trivial⟩ (
           And.intro (fun h82 => 
            And.intro (Or.inr rfl) (
            congrArg (mx_rI u) (show 1 = (mm_isIll a1 ) from ((mm_isIll_eq a1 ).trans ((if_neg h6).trans ((if_pos h16).trans ((if_pos h30).trans ((if_neg h58).trans ((if_pos h65).trans ((if_neg h74).trans (if_pos h82)))))))).symm))) (fun h82 => 
            And.intro rfl (
            And.intro ⟨_, rfl, trivial⟩ (
            And.intro (fun h89 => 
             And.intro rfl (
             And.intro ⟨_, rfl, trivial⟩ (
             And.intro (fun h107 => 
              And.intro (Or.inl rfl) (
              congrArg (mx_rI u) (show 0 = (mm_isIll a1 ) from ((mm_isIll_eq a1 ).trans ((if_neg h6).trans ((if_pos h16).trans ((if_pos h30).trans ((if_neg h58).trans ((if_pos h65).trans ((if_neg h74).trans ((if_neg h82).trans ((if_pos h89).trans (if_pos h107)))))))))).symm))) (fun h107 => 
              And.intro rfl (
              And.intro ⟨_, rfl, trivial⟩ (
              And.intro rfl (
              And.intro ⟨_, _, rfl, trivial⟩ (
              And.intro (fun h118 => 
               And.intro (Or.inl rfl) (
               congrArg (mx_rI u) (show 0 = (mm_isIll a1 ) from ((mm_isIll_eq a1 ).trans ((if_neg h6).trans ((if_pos h16).trans ((if_pos h30).trans ((if_neg h58).trans ((if_pos h65).trans ((if_neg h74).trans ((if_neg h82).trans ((if_pos h89).trans ((if_neg h107).trans (if_pos h118))))))))))).symm))) (fun h118 => 
               And.intro (Or.inr rfl) (
               congrArg (mx_rI u) (show 1 = (mm_isIll a1 ) from ((mm_isIll_eq a1 ).trans ((if_neg h6).trans ((if_pos h16).trans ((if_pos h30).trans ((if_neg h58).trans ((if_pos h65).trans ((if_neg h74).trans ((if_neg h82).trans ((if_pos h89).trans ((if_neg h107).trans (if_neg h118))))))))))).symm))))))))))) (fun h89 => 
             And.intro rfl (
             And.intro ⟨_, rfl, trivial⟩ (
             And.intro rfl (
             And.intro ⟨_, _, rfl, trivial⟩ (
             And.intro (fun h100 => 
              And.intro (Or.inr rfl) (
              congrArg (mx_rI u) (show 1 = (mm_isIll a1 ) from ((mm_isIll_eq a1 ).trans ((if_neg h6).trans ((if_pos h16).trans ((if_pos h30).trans ((if_neg h58).trans ((if_pos h65).trans ((if_neg h74).trans ((if_neg h82).trans ((if_neg h89).trans (if_neg h100)))))))))).symm))) (fun h100 => 
              And.intro rfl (
              And.intro ⟨_, rfl, trivial⟩ (
              And.intro (fun h107 => 
               And.intro (Or.inl rfl) (
               congrArg (mx_rI u) (show 0 = (mm_isIll a1 ) from ((mm_isIll_eq a1 ).trans ((if_neg h6).trans ((if_pos h16).trans ((if_pos h30).trans ((if_neg h58).trans ((if_pos h65).trans ((if_neg h74).trans ((if_neg h82).trans ((if_neg h89).trans ((if_pos h100).trans (if_pos h107))))))))))).symm))) (fun h107 => 
               And.intro rfl (
               And.intro ⟨_, rfl, trivial⟩ (
               And.intro rfl (
               And.intro ⟨_, _, rfl, trivial⟩ (
               And.intro (fun h118 => 
                And.intro (Or.inl rfl) (
                congrArg (mx_rI u) (show 0 = (mm_isIll a1 ) from ((mm_isIll_eq a1 ).trans ((if_neg h6).trans ((if_pos h16).trans ((if_pos h30).trans ((if_neg h58).trans ((if_pos h65).trans ((if_neg h74).trans ((if_neg h82).trans ((if_neg h89).trans ((if_pos h100).trans ((if_neg h107).trans (if_pos h118)))))))))))).symm))) (fun h118 => 
                And.intro (Or.inr rfl) (
                congrArg (mx_rI u) (show 1 = (mm_isIll a1 ) from ((mm_isIll_eq a1 ).trans ((if_neg h6).trans ((if_pos h16).trans ((if_pos h30).trans ((if_neg h58).trans ((if_pos h65).trans ((if_neg h74).trans ((if_neg h82).trans ((if_neg h89).trans ((if_pos h100).trans ((if_neg h107).trans (if_neg h118)))))))))))).symm)))))))))))))))))))))))))))))) (fun h30 => 
       And.intro rfl (
       And.intro ⟨_, _, _, rfl, trivial⟩ (
       And.intro (fun h40 => 
        And.intro (fun h50 => absurd h50 (by decide)) (fun h50 => 
         And.intro rfl (
         And.intro ⟨_, rfl, trivial⟩ (
         And.intro (fun h58 => 
          And.intro (Or.inr rfl) (
          congrArg (mx_rI u) (show 1 = (mm_isIll a1 ) from ((mm_isIll_eq a1 ).trans ((if_neg h6).trans ((if_pos h16).trans ((if_neg h30).trans ((if_neg h40).trans (if_pos h58)))))).symm))) (fun h58 => 
          And.intro rfl (
          And.intro ⟨_, rfl, trivial⟩ (
          And.intro (fun h65 => 
           And.intro rfl (
           And.intro ⟨_, rfl, trivial⟩ (
           And.intro (fun h82 => 
            And.intro (Or.inr rfl) (
            congrArg (mx_rI u) (show 1 = (mm_isIll a1 ) from ((mm_isIll_eq a1 ).trans ((if_neg h6).trans ((if_pos h16).trans ((if_neg h30).trans ((if_neg h40).trans ((if_neg h58).trans ((if_neg h65).trans (if_pos h82)))))))).symm))) (fun h82 => 
            And.intro rfl (
            And.intro ⟨_, rfl, trivial⟩ (
            And.intro (fun h89 => 
             And.intro rfl (
             And.intro ⟨_, rfl, trivial⟩ (
             And.intro (fun h107 => 
              And.intro (Or.inl rfl) (
              congrArg (mx_rI u) (show 0 = (mm_isIll a1 ) from ((mm_isIll_eq a1 ).trans ((if_neg h6).trans ((if_pos h16).trans ((if_neg h30).trans ((if_neg h40).trans ((if_neg h58).trans ((if_neg h65).trans ((if_neg h82).trans ((if_pos h89).trans (if_pos h107)))))))))).symm))) (fun h107 => 
              And.intro rfl (
              And.intro ⟨_, rfl, trivial⟩ (
              And.intro rfl (
              And.intro ⟨_, _, rfl, trivial⟩ (
              And.intro (fun h118 => 
               And.intro (Or.inl rfl) (
               congrArg (mx_rI u) (show 0 = (mm_isIll a1 ) from ((mm_isIll_eq a1 ).trans ((if_neg h6).trans ((if_pos h16).trans ((if_neg h30).trans ((if_neg h40).trans ((if_neg h58).trans ((if_neg h65).trans ((if_neg h82).trans ((if_pos h89).trans ((if_neg h107).trans (if_pos h118))))))))))).symm))) (fun h118 => 
               And.intro (Or.inr rfl) (
               congrArg (mx_rI u) (show 1 = (mm_isIll a1 ) from ((mm_isIll_eq a1 ).trans ((if_neg h6).trans ((if_pos h16).trans ((if_neg h30).trans ((if_neg h40).trans ((if_neg h58).trans ((if_neg h65).trans ((if_neg h82).trans ((if_pos h89).trans ((if_neg h107).trans (if_neg h118))))))))))).symm))))))))))) (fun h89 => 
             And.intro rfl (
             And.intro ⟨_, rfl, trivial⟩ (
             And.intro rfl (
             And.intro ⟨_, _, rfl, trivial⟩ (
             And.intro (fun h100 => 
              And.intro (Or.inr rfl) (
              congrArg (mx_rI u) (show 1 = (mm_isIll a1 ) from ((mm_isIll_eq a1 ).trans ((if_neg h6).trans ((if_pos h16).trans ((if_neg h30).trans ((if_neg h40).trans ((if_neg h58).trans ((if_neg h65).trans ((if_neg h82).trans ((if_neg h89).trans (if_neg h100)))))))))).symm))) (fun h100 => 
              And.intro rfl (
              And.intro ⟨_, rfl, trivial⟩ (
              And.intro (fun h107 => 
               And.intro (Or.inl rfl) (
               congrArg (mx_rI u) (show 0 = (mm_isIll a1 ) from ((mm_isIll_eq a1 ).trans ((if_neg h6).trans ((if_pos h16).trans ((if_neg h30).trans ((if_neg h40).trans ((if_neg h58).trans ((if_neg h65).trans ((if_neg h82).trans ((if_neg h89).trans ((if_pos h100).trans (if_pos h107))))))))))).symm))) (fun h107 => 
               And.intro rfl (
               And.intro ⟨_, rfl, trivial⟩ (
               And.intro rfl (
               And.intro ⟨_, _, rfl, trivial⟩ (
               And.intro (fun h118 => 
                And.intro (Or.inl rfl) (
                congrArg (mx_rI u) (show 0 = (mm_isIll a1 ) from ((mm_isIll_eq a1 ).trans ((if_neg h6).trans ((if_pos h16).trans ((if_neg h30).trans ((if_neg h40).trans ((if_neg h58).trans ((if_neg h65).trans ((if_neg h82).trans ((if_neg h89).trans ((if_pos h100).trans ((if_neg h107).trans (if_pos h118)))))))))))).symm))) (fun h118 => 
                And.intro (Or.inr rfl) (
                congrArg (mx_rI u) (show 1 = (mm_isIll a1 ) from ((mm_isIll_eq a1 ).trans ((if_neg h6).trans ((if_pos h16).trans ((if_neg h30).trans ((if_neg h40).trans ((if_neg h58).trans ((if_neg h65).trans ((if_neg h82).trans ((if_neg h89).trans ((if_pos h100).trans ((if_neg h107).trans (if_neg h118)))))))))))).symm)))))))))))))))))))))) (fun h65 => 
           And.intro (fun h74 => 
            And.intro (Or.inr rfl) (
            congrArg (mx_rI u) (show 1 = (mm_isIll a1 ) from ((mm_isIll_eq a1 ).trans ((if_neg h6).trans ((if_pos h16).trans ((if_neg h30).trans ((if_neg h40).trans ((if_neg h58).trans ((if_pos h65).trans (if_pos h74)))))))).symm))) (fun h74 => 
            And.intro rfl (
            And.intro ⟨_, rfl, trivial⟩ (
            And.intro (fun h82 => 
             And.intro (Or.inr rfl) (
             congrArg (mx_rI u) (show 1 = (mm_isIll a1 ) from ((mm_isIll_eq a1 ).trans ((if_neg h6).trans ((if_pos h16).trans ((if_neg h30).trans ((if_neg h40).trans ((if_neg h58).trans ((if_pos h65).trans ((if_neg h74).trans (if_pos h82))))))))).symm))) (fun h82 => 
             And.intro rfl (
             And.intro ⟨_, rfl, trivial⟩ (
             And.intro (fun h89 => 
              And.intro rfl (
              And.intro ⟨_, rfl, trivial⟩ (
              And.intro (fun h107 => 
               And.intro (Or.inl rfl) (
               congrArg (mx_rI u) (show 0 = (mm_isIll a1 ) from ((mm_isIll_eq a1 ).trans ((if_neg h6).trans ((if_pos h16).trans ((if_neg h30).trans ((if_neg h40).trans ((if_neg h58).trans ((if_pos h65).trans ((if_neg h74).trans ((if_neg h82).trans ((if_pos h89).trans (if_pos h107))))))))))).symm))) (fun h107 => 
               And.intro rfl (
               And.intro ⟨_, rfl, trivial⟩ (
               And.intro rfl (
               And.intro ⟨_, _, rfl, trivial⟩ (
               And.intro (fun h118 => 
                And.intro (Or.inl rfl) (
                congrArg (mx_rI u) (show 0 = (mm_isIll a1 ) from ((mm_isIll_eq a1 ).trans ((if_neg h6).trans ((if_pos h16).trans ((if_neg h30).trans ((if_neg h40).trans ((if_neg h58).trans ((if_pos h65).trans ((if_neg h74).trans ((if_neg h82).trans ((if_pos h89).trans ((if_neg h107).trans (if_pos h118)))))))))))).symm))) (fun h118 => 
                And.intro (Or.inr rfl) (
                congrArg (mx_rI u) (show 1 = (mm_isIll a1 ) from ((mm_isIll_eq a1 ).trans ((if_neg h6).trans ((if_pos h16).trans ((if_neg h30).trans ((if_neg h40).trans ((if_neg h58).trans ((if_pos h65).trans ((if_neg h74).trans ((if_neg h82).trans ((if_pos h89).trans ((if_neg h107).trans (if_neg h118)))))))))))).symm))))))))))) (fun h89 => 
              And.intro rfl (
              And.intro ⟨_, rfl, trivial⟩ (
              And.intro rfl (
              And.intro ⟨_, _, rfl, trivial⟩ (
              And.intro (fun h100 => 
               And.intro (Or.inr rfl) (
               congrArg (mx_rI u) (show 1 = (mm_isIll a1 ) from ((mm_isIll_eq a1 ).trans ((if_neg h6).trans ((if_pos h16).trans ((if_neg h30).trans ((if_neg h40).trans ((if_neg h58).trans ((if_pos h65).trans ((if_neg h74).trans ((if_neg h82).trans ((if_neg h89).trans (if_neg h100))))))))))).symm))) (fun h100 => 
               And.intro rfl (
               And.intro ⟨_, rfl, trivial⟩ (
               And.intro (fun h107 => 
                And.intro (Or.inl rfl) (
                congrArg (mx_rI u) (show 0 = (mm_isIll a1 ) from ((mm_isIll_eq a1 ).trans ((if_neg h6).trans ((if_pos h16).trans ((if_neg h30).trans ((if_neg h40).trans ((if_neg h58).trans ((if_pos h65).trans ((if_neg h74).trans ((if_neg h82).trans ((if_neg h89).trans ((if_pos h100).trans (if_pos h107)))))))))))).symm))) (fun h107 => 
                And.intro rfl (
                And.intro ⟨_, rfl, trivial⟩ (
                And.intro rfl (
                And.intro ⟨_, _, rfl, trivial⟩ (
                And.intro (fun h118 => 
                 And.intro (Or.inl rfl) (
                 congrArg (mx_rI u) (show 0 = (mm_isIll a1 ) from ((mm_isIll_eq a1 ).trans ((if_neg h6).trans ((if_pos h16).trans ((if_neg h30).trans ((if_neg h40).trans ((if_neg h58).trans ((if_pos h65).trans ((if_neg h74).trans ((if_neg h82).trans ((if_neg h89).trans ((if_pos h100).trans ((if_neg h107).trans (if_pos h118))))))))))))).symm))) (fun h118 => 
                 And.intro (Or.inr rfl) (
                 congrArg (mx_rI u) (show 1 = (mm_isIll a1 ) from ((mm_isIll_eq a1 ).trans ((if_neg h6).trans ((if_pos h16).trans ((if_neg h30).trans ((if_neg h40).trans ((if_neg h58).trans ((if_pos h65).trans ((if_neg h74).trans ((if_neg h82).trans ((if_neg h89).trans ((if_pos h100).trans ((if_neg h107).trans (if_neg h118))))))))))))).symm)))))))))))))))))))))))))))))) (fun h40 => 
        And.intro (fun h50 => 
         And.intro (Or.inr rfl) (
         congrArg (mx_rI u) (show 1 = (mm_isIll a1 ) from ((mm_isIll_eq a1 ).trans ((if_neg h6).trans ((if_pos h16).trans ((if_neg h30).trans (if_pos h40))))).symm))) (fun h50 => absurd h50 (by decide)))))))) (fun h6 => 
     And.intro (fun h30 => 
      And.intro (fun h50 => absurd h50 (by decide)) (fun h50 => 
       And.intro rfl (
       And.intro ⟨_, rfl, trivial⟩ (
       And.intro (fun h58 => 
        And.intro (Or.inr rfl) (
        congrArg (mx_rI u) (show 1 = (mm_isIll a1 ) from ((mm_isIll_eq a1 ).trans ((if_pos h6).trans ((if_pos h30).trans (if_pos h58)))).symm))) (fun h58 => 
        And.intro rfl (
        And.intro ⟨_, rfl, trivial⟩ (
        And.intro (fun h65 => 
         And.intro rfl (
         And.intro ⟨_, rfl, trivial⟩ (
         And.intro (fun h82 => 
          And.intro (Or.inr rfl) (
          congrArg (mx_rI u) (show 1 = (mm_isIll a1 ) from ((mm_isIll_eq a1 ).trans ((if_pos h6).trans ((if_pos h30).trans ((if_neg h58).trans ((if_neg h65).trans (if_pos h82)))))).symm))) (fun h82 => 
          And.intro rfl (
          And.intro ⟨_, rfl, trivial⟩ (
          And.intro (fun h89 => 
           And.intro rfl (
           And.intro ⟨_, rfl, trivial⟩ (
           And.intro (fun h107 => 
            And.intro (Or.inl rfl) (
            congrArg (mx_rI u) (show 0 = (mm_isIll a1 ) from ((mm_isIll_eq a1 ).trans ((if_pos h6).trans ((if_pos h30).trans ((if_neg h58).trans ((if_neg h65).trans ((if_neg h82).trans ((if_pos h89).trans (if_pos h107)))))))).symm))) (fun h107 => 
            And.intro rfl (
            And.intro ⟨_, rfl, trivial⟩ (
            And.intro rfl (
            And.intro ⟨_, _, rfl, trivial⟩ (
            And.intro (fun h118 => 
             And.intro (Or.inl rfl) (
             congrArg (mx_rI u) (show 0 = (mm_isIll a1 ) from ((mm_isIll_eq a1 ).trans ((if_pos h6).trans ((if_pos h30).trans ((if_neg h58).trans ((if_neg h65).trans ((if_neg h82).trans ((if_pos h89).trans ((if_neg h107).trans (if_pos h118))))))))).symm))) (fun h118 => 
             And.intro (Or.inr rfl) (
             congrArg (mx_rI u) (show 1 = (mm_isIll a1 ) from ((mm_isIll_eq a1 ).trans ((if_pos h6).trans ((if_pos h30).trans ((if_neg h58).trans ((if_neg h65).trans ((if_neg h82).trans ((if_pos h89).trans ((if_neg h107).trans (if_neg h118))))))))).symm))))))))))) (fun h89 => 
           And.intro rfl (
           And.intro ⟨_, rfl, trivial⟩ (
           And.intro rfl (
           And.intro ⟨_, _, rfl, trivial⟩ (
           And.intro (fun h100 => 
            And.intro (Or.inr rfl) (
            congrArg (mx_rI u) (show 1 = (mm_isIll a1 ) from ((mm_isIll_eq a1 ).trans ((if_pos h6).trans ((if_pos h30).trans ((if_neg h58).trans ((if_neg h65).trans ((if_neg h82).trans ((if_neg h89).trans (if_neg h100)))))))).symm))) (fun h100 => 
            And.intro rfl (
            And.intro ⟨_, rfl, trivial⟩ (
            And.intro (fun h107 => 
             And.intro (Or.inl rfl) (
             congrArg (mx_rI u) (show 0 = (mm_isIll a1 ) from ((mm_isIll_eq a1 ).trans ((if_pos h6).trans ((if_pos h30).trans ((if_neg h58).trans ((if_neg h65).trans ((if_neg h82).trans ((if_neg h89).trans ((if_pos h100).trans (if_pos h107))))))))).symm))) (fun h107 => 
             And.intro rfl (
             And.intro ⟨_, rfl, trivial⟩ (
             And.intro rfl (
             And.intro ⟨_, _, rfl, trivial⟩ (
             And.intro (fun h118 => 
              And.intro (Or.inl rfl) (
              congrArg (mx_rI u) (show 0 = (mm_isIll a1 ) from ((mm_isIll_eq a1 ).trans ((if_pos h6).trans ((if_pos h30).trans ((if_neg h58).trans ((if_neg h65).trans ((if_neg h82).trans ((if_neg h89).trans ((if_pos h100).trans ((if_neg h107).trans (if_pos h118)))))))))).symm))) (fun h118 => 
              And.intro (Or.inr rfl) (
              congrArg (mx_rI u) (show 1 = (mm_isIll a1 ) from ((mm_isIll_eq a1 ).trans ((if_pos h6).trans ((if_pos h30).trans ((if_neg h58).trans ((if_neg h65).trans ((if_neg h82).trans ((if_neg h89).trans ((if_pos h100).trans ((if_neg h107).trans (if_neg h118)))))))))).symm)))))))))))))))))))))) (fun h65 => 
         And.intro (fun h74 => 
          And.intro (Or.inr rfl) (
          congrArg (mx_rI u) (show 1 = (mm_isIll a1 ) from ((mm_isIll_eq a1 ).trans ((if_pos h6).trans ((if_pos h30).trans ((if_neg h58).trans ((if_pos h65).trans (if_pos h74)))))).symm))) (fun h74 => 
          And.intro rfl (
          And.intro ⟨_, rfl, trivial⟩ (
          And.intro (fun h82 => 
           And.intro (Or.inr rfl) (
           congrArg (mx_rI u) (show 1 = (mm_isIll a1 ) from ((mm_isIll_eq a1 ).trans ((if_pos h6).trans ((if_pos h30).trans ((if_neg h58).trans ((if_pos h65).trans ((if_neg h74).trans (if_pos h82))))))).symm))) (fun h82 => 
           And.intro rfl (
           And.intro ⟨_, rfl, trivial⟩ (
           And.intro (fun h89 => 
            And.intro rfl (
            And.intro ⟨_, rfl, trivial⟩ (
            And.intro (fun h107 => 
             And.intro (Or.inl rfl) (
             congrArg (mx_rI u) (show 0 = (mm_isIll a1 ) from ((mm_isIll_eq a1 ).trans ((if_pos h6).trans ((if_pos h30).trans ((if_neg h58).trans ((if_pos h65).trans ((if_neg h74).trans ((if_neg h82).trans ((if_pos h89).trans (if_pos h107))))))))).symm))) (fun h107 => 
             And.intro rfl (
             And.intro ⟨_, rfl, trivial⟩ (
             And.intro rfl (
             And.intro ⟨_, _, rfl, trivial⟩ (
             And.intro (fun h118 => 
              And.intro (Or.inl rfl) (
              congrArg (mx_rI u) (show 0 = (mm_isIll a1 ) from ((mm_isIll_eq a1 ).trans ((if_pos h6).trans ((if_pos h30).trans ((if_neg h58).trans ((if_pos h65).trans ((if_neg h74).trans ((if_neg h82).trans ((if_pos h89).trans ((if_neg h107).trans (if_pos h118)))))))))).symm))) (fun h118 => 
              And.intro (Or.inr rfl) (
              congrArg (mx_rI u) (show 1 = (mm_isIll a1 ) from ((mm_isIll_eq a1 ).trans ((if_pos h6).trans ((if_pos h30).trans ((if_neg h58).trans ((if_pos h65).trans ((if_neg h74).trans ((if_neg h82).trans ((if_pos h89).trans ((if_neg h107).trans (if_neg h118)))))))))).symm))))))))))) (fun h89 => 
            And.intro rfl (
            And.intro ⟨_, rfl, trivial⟩ (
            And.intro rfl (
            And.intro ⟨_, _, rfl, trivial⟩ (
            And.intro (fun h100 => 
             And.intro (Or.inr rfl) (
             congrArg (mx_rI u) (show 1 = (mm_isIll a1 ) from ((mm_isIll_eq a1 ).trans ((if_pos h6).trans ((if_pos h30).trans ((if_neg h58).trans ((if_pos h65).trans ((if_neg h74).trans ((if_neg h82).trans ((if_neg h89).trans (if_neg h100))))))))).symm))) (fun h100 => 
             And.intro rfl (
             And.intro ⟨_, rfl, trivial⟩ (
             And.intro (fun h107 => 
              And.intro (Or.inl rfl) (
              congrArg (mx_rI u) (show 0 = (mm_isIll a1 ) from ((mm_isIll_eq a1 ).trans ((if_pos h6).trans ((if_pos h30).trans ((if_neg h58).trans ((if_pos h65).trans ((if_neg h74).trans ((if_neg h82).trans ((if_neg h89).trans ((if_pos h100).trans (if_pos h107)))))))))).symm))) (fun h107 => 
              And.intro rfl (
              And.intro ⟨_, rfl, trivial⟩ (
              And.intro rfl (
              And.intro ⟨_, _, rfl, trivial⟩ (
              And.intro (fun h118 => 
               And.intro (Or.inl rfl) (
               congrArg (mx_rI u) (show 0 = (mm_isIll a1 ) from ((mm_isIll_eq a1 ).trans ((if_pos h6).trans ((if_pos h30).trans ((if_neg h58).trans ((if_pos h65).trans ((if_neg h74).trans ((if_neg h82).trans ((if_neg h89).trans ((if_pos h100).trans ((if_neg h107).trans (if_pos h118))))))))))).symm))) (fun h118 => 
               And.intro (Or.inr rfl) (
               congrArg (mx_rI u) (show 1 = (mm_isIll a1 ) from ((mm_isIll_eq a1 ).trans ((if_pos h6).trans ((if_pos h30).trans ((if_neg h58).trans ((if_pos h65).trans ((if_neg h74).trans ((if_neg h82).trans ((if_neg h89).trans ((if_pos h100).trans ((if_neg h107).trans (if_neg h118))))))))))).symm)))))))))))))))))))))))))))))) (fun h30 => 
      And.intro rfl (
      And.intro ⟨_, _, _, rfl, trivial⟩ (
      And.intro (fun h40 => 
       And.intro (fun h50 => absurd h50 (by decide)) (fun h50 => 
        And.intro rfl (
        And.intro ⟨_, rfl, trivial⟩ (
        And.intro (fun h58 => 
         And.intro (Or.inr rfl) (
         congrArg (mx_rI u) (show 1 = (mm_isIll a1 ) from ((mm_isIll_eq a1 ).trans ((if_pos h6).trans ((if_neg h30).trans ((if_neg h40).trans (if_pos h58))))).symm))) (fun h58 => 
         And.intro rfl (
         And.intro ⟨_, rfl, trivial⟩ (
         And.intro (fun h65 => 
          And.intro rfl (
          And.intro ⟨_, rfl, trivial⟩ (
          And.intro (fun h82 => 
           And.intro (Or.inr rfl) (
           congrArg (mx_rI u) (show 1 = (mm_isIll a1 ) from ((mm_isIll_eq a1 ).trans ((if_pos h6).trans ((if_neg h30).trans ((if_neg h40).trans ((if_neg h58).trans ((if_neg h65).trans (if_pos h82))))))).symm))) (fun h82 => 
           And.intro rfl (
           And.intro ⟨_, rfl, trivial⟩ (
           And.intro (fun h89 => 
            And.intro rfl (
            And.intro ⟨_, rfl, trivial⟩ (
            And.intro (fun h107 => 
             And.intro (Or.inl rfl) (
             congrArg (mx_rI u) (show 0 = (mm_isIll a1 ) from ((mm_isIll_eq a1 ).trans ((if_pos h6).trans ((if_neg h30).trans ((if_neg h40).trans ((if_neg h58).trans ((if_neg h65).trans ((if_neg h82).trans ((if_pos h89).trans (if_pos h107))))))))).symm))) (fun h107 => 
             And.intro rfl (
             And.intro ⟨_, rfl, trivial⟩ (
             And.intro rfl (
             And.intro ⟨_, _, rfl, trivial⟩ (
             And.intro (fun h118 => 
              And.intro (Or.inl rfl) (
              congrArg (mx_rI u) (show 0 = (mm_isIll a1 ) from ((mm_isIll_eq a1 ).trans ((if_pos h6).trans ((if_neg h30).trans ((if_neg h40).trans ((if_neg h58).trans ((if_neg h65).trans ((if_neg h82).trans ((if_pos h89).trans ((if_neg h107).trans (if_pos h118)))))))))).symm))) (fun h118 => 
              And.intro (Or.inr rfl) (
              congrArg (mx_rI u) (show 1 = (mm_isIll a1 ) from ((mm_isIll_eq a1 ).trans ((if_pos h6).trans ((if_neg h30).trans ((if_neg h40).trans ((if_neg h58).trans ((if_neg h65).trans ((if_neg h82).trans ((if_pos h89).trans ((if_neg h107).trans (if_neg h118)))))))))).symm))))))))))) (fun h89 => 
            And.intro rfl (
            And.intro ⟨_, rfl, trivial⟩ (
            And.intro rfl (
            And.intro ⟨_, _, rfl, trivial⟩ (
            And.intro (fun h100 => 
             And.intro (Or.inr rfl) (
             congrArg (mx_rI u) (show 1 = (mm_isIll a1 ) from ((mm_isIll_eq a1 ).trans ((if_pos h6).trans ((if_neg h30).trans ((if_neg h40).trans ((if_neg h58).trans ((if_neg h65).trans ((if_neg h82).trans ((if_neg h89).trans (if_neg h100))))))))).symm))) (fun h100 => 
             And.intro rfl (
             And.intro ⟨_, rfl, trivial⟩ (
             And.intro (fun h107 => 
              And.intro (Or.inl rfl) (
              congrArg (mx_rI u) (show 0 = (mm_isIll a1 ) from ((mm_isIll_eq a1 ).trans ((if_pos h6).trans ((if_neg h30).trans ((if_neg h40).trans ((if_neg h58).trans ((if_neg h65).trans ((if_neg h82).trans ((if_neg h89).trans ((if_pos h100).trans (if_pos h107)))))))))).symm))) (fun h107 => 
              And.intro rfl (
              And.intro ⟨_, rfl, trivial⟩ (
              And.intro rfl (
              And.intro ⟨_, _, rfl, trivial⟩ (
              And.intro (fun h118 => 
               And.intro (Or.inl rfl) (
               congrArg (mx_rI u) (show 0 = (mm_isIll a1 ) from ((mm_isIll_eq a1 ).trans ((if_pos h6).trans ((if_neg h30).trans ((if_neg h40).trans ((if_neg h58).trans ((if_neg h65).trans ((if_neg h82).trans ((if_neg h89).trans ((if_pos h100).trans ((if_neg h107).trans (if_pos h118))))))))))).symm))) (fun h118 => 
               And.intro (Or.inr rfl) (
               congrArg (mx_rI u) (show 1 = (mm_isIll a1 ) from ((mm_isIll_eq a1 ).trans ((if_pos h6).trans ((if_neg h30).trans ((if_neg h40).trans ((if_neg h58).trans ((if_neg h65).trans ((if_neg h82).trans ((if_neg h89).trans ((if_pos h100).trans ((if_neg h107).trans (if_neg h118))))))))))).symm)))))))))))))))))))))) (fun h65 => 
          And.intro (fun h74 => 
           And.intro (Or.inr rfl) (
           congrArg (mx_rI u) (show 1 = (mm_isIll a1 ) from ((mm_isIll_eq a1 ).trans ((if_pos h6).trans ((if_neg h30).trans ((if_neg h40).trans ((if_neg h58).trans ((if_pos h65).trans (if_pos h74))))))).symm))) (fun h74 => 
           And.intro rfl (
           And.intro ⟨_, rfl, trivial⟩ (
           And.intro (fun h82 => 
            And.intro (Or.inr rfl) (
            congrArg (mx_rI u) (show 1 = (mm_isIll a1 ) from ((mm_isIll_eq a1 ).trans ((if_pos h6).trans ((if_neg h30).trans ((if_neg h40).trans ((if_neg h58).trans ((if_pos h65).trans ((if_neg h74).trans (if_pos h82)))))))).symm))) (fun h82 => 
            And.intro rfl (
            And.intro ⟨_, rfl, trivial⟩ (
            And.intro (fun h89 => 
             And.intro rfl (
             And.intro ⟨_, rfl, trivial⟩ (
             And.intro (fun h107 => 
              And.intro (Or.inl rfl) (
              congrArg (mx_rI u) (show 0 = (mm_isIll a1 ) from ((mm_isIll_eq a1 ).trans ((if_pos h6).trans ((if_neg h30).trans ((if_neg h40).trans ((if_neg h58).trans ((if_pos h65).trans ((if_neg h74).trans ((if_neg h82).trans ((if_pos h89).trans (if_pos h107)))))))))).symm))) (fun h107 => 
              And.intro rfl (
              And.intro ⟨_, rfl, trivial⟩ (
              And.intro rfl (
              And.intro ⟨_, _, rfl, trivial⟩ (
              And.intro (fun h118 => 
               And.intro (Or.inl rfl) (
               congrArg (mx_rI u) (show 0 = (mm_isIll a1 ) from ((mm_isIll_eq a1 ).trans ((if_pos h6).trans ((if_neg h30).trans ((if_neg h40).trans ((if_neg h58).trans ((if_pos h65).trans ((if_neg h74).trans ((if_neg h82).trans ((if_pos h89).trans ((if_neg h107).trans (if_pos h118))))))))))).symm))) (fun h118 => 
               And.intro (Or.inr rfl) (
               congrArg (mx_rI u) (show 1 = (mm_isIll a1 ) from ((mm_isIll_eq a1 ).trans ((if_pos h6).trans ((if_neg h30).trans ((if_neg h40).trans ((if_neg h58).trans ((if_pos h65).trans ((if_neg h74).trans ((if_neg h82).trans ((if_pos h89).trans ((if_neg h107).trans (if_neg h118))))))))))).symm))))))))))) (fun h89 => 
             And.intro rfl (
             And.intro ⟨_, rfl, trivial⟩ (
             And.intro rfl (
             And.intro ⟨_, _, rfl, trivial⟩ (
             And.intro (fun h100 => 
              And.intro (Or.inr rfl) (
              congrArg (mx_rI u) (show 1 = (mm_isIll a1 ) from ((mm_isIll_eq a1 ).trans ((if_pos h6).trans ((if_neg h30).trans ((if_neg h40).trans ((if_neg h58).trans ((if_pos h65).trans ((if_neg h74).trans ((if_neg h82).trans ((if_neg h89).trans (if_neg h100)))))))))).symm))) (fun h100 => 
              And.intro rfl (
              And.intro ⟨_, rfl, trivial⟩ (
              And.intro (fun h107 => 
               And.intro (Or.inl rfl) (
               congrArg (mx_rI u) (show 0 = (mm_isIll a1 ) from ((mm_isIll_eq a1 ).trans ((if_pos h6).trans ((if_neg h30).trans ((if_neg h40).trans ((if_neg h58).trans ((if_pos h65).trans ((if_neg h74).trans ((if_neg h82).trans ((if_neg h89).trans ((if_pos h100).trans (if_pos h107))))))))))).symm))) (fun h107 => 
               And.intro rfl (
               And.intro ⟨_, rfl, trivial⟩ (
               And.intro rfl (
               And.intro ⟨_, _, rfl, trivial⟩ (
               And.intro (fun h118 => 
                And.intro (Or.inl rfl) (
                congrArg (mx_rI u) (show 0 = (mm_isIll a1 ) from ((mm_isIll_eq a1 ).trans ((if_pos h6).trans ((if_neg h30).trans ((if_neg h40).trans ((if_neg h58).trans ((if_pos h65).trans ((if_neg h74).trans ((if_neg h82).trans ((if_neg h89).trans ((if_pos h100).trans ((if_neg h107).trans (if_pos h118)))))))))))).symm))) (fun h118 => 
                And.intro (Or.inr rfl) (
                congrArg (mx_rI u) (show 1 = (mm_isIll a1 ) from ((mm_isIll_eq a1 ).trans ((if_pos h6).trans ((if_neg h30).trans ((if_neg h40).trans ((if_neg h58).trans ((if_pos h65).trans ((if_neg h74).trans ((if_neg h82).trans ((if_neg h89).trans ((if_pos h100).trans ((if_neg h107).trans (if_neg h118)))))))))))).symm)))))))))))))))))))))))))))))) (fun h40 => 
       And.intro (fun h50 => 
        And.intro (Or.inr rfl) (
        congrArg (mx_rI u) (show 1 = (mm_isIll a1 ) from ((mm_isIll_eq a1 ).trans ((if_pos h6).trans ((if_neg h30).trans (if_pos h40)))).symm))) (fun h50 => absurd h50 (by decide))))))))))
/-! WideMachineModel.hasB(I)Z -/
noncomputable def mm_hasB_b (a1 : Int32) : Int32 :=
  if (mm_isS a1 5 7 ) = 0 then
   if (mm_isS a1 9 9 ) = 0 then
    if (mm_isS a1 11 11 ) = 0 then
     1
    else
     0
   else
    0
  else
   0
theorem mm_hasB_ex : ∃ f : Int32 → (Int32), f = mm_hasB_b := ⟨_, rfl⟩
noncomputable def mm_hasB : Int32 → (Int32) := Classical.choose mm_hasB_ex
theorem mm_hasB_eq (a1 : Int32) : (mm_hasB a1 ) = (mm_hasB_b a1 ) := by rw [show mm_hasB = mm_hasB_b from Classical.choose_spec mm_hasB_ex]
def pre_mm_hasB : List mx_V → mx_S → Prop := fun as u => ∃ (a1 : Int32), as = [.inl a1] ∧ True
noncomputable def fn_mm_hasB : mx_F := fun as u => match as with
  | [.inl a1] => mx_rI u (mm_hasB a1 )
  | _ => (none, u)
noncomputable def tb_mm_hasB : List (Nat × mx_T) := [
  (0, mx_iload_n 0 0),
  (1, mx_iconst 5 1),
  (2, mx_bipush 7 2),
  (4, mx_invS 3 pre_mm_isS fn_mm_isS 4),
  (7, mx_if_ne 36 7),
  (10, mx_iload_n 0 10),
  (11, mx_bipush 9 11),
  (13, mx_bipush 9 13),
  (15, mx_invS 3 pre_mm_isS fn_mm_isS 15),
  (18, mx_if_ne 36 18),
  (21, mx_iload_n 0 21),
  (22, mx_bipush 11 22),
  (24, mx_bipush 11 24),
  (26, mx_invS 3 pre_mm_isS fn_mm_isS 26),
  (29, mx_if_ne 36 29),
  (32, mx_iconst 1 32),
  (33, mx_goto 37 33),
  (36, mx_iconst 0 36),
  (37, mx_zret 37)]
set_option maxRecDepth 100000 in
set_option maxHeartbeats 4000000 in
theorem ok_mm_hasB (l : Launch) : ∀ q ∈ tb_mm_hasB , mx_Ok l ({ frames := 2, cells := 0, slots := 0, locals := 42 } : Room) b_mm_hasB 1 "WideMachineModel" (some .boolean) vw_T vw_cl km q.1 q.2 := by
  refine List.forall_mem_cons.mpr ⟨mx_ok_iload_n (show decode b_mm_hasB 0 = .ok (.iload_n 0, 1) by decide +kernel) rfl, ?_⟩
  refine List.forall_mem_cons.mpr ⟨mx_ok_iconst (show decode b_mm_hasB 1 = .ok (.iconst 5, 1) by decide +kernel) (by decide), ?_⟩
  refine List.forall_mem_cons.mpr ⟨mx_ok_bipush (show decode b_mm_hasB 2 = .ok (.bipush 7, 2) by decide +kernel) (by decide), ?_⟩
  refine List.forall_mem_cons.mpr ⟨mx_ok_invS vw_G (ct_mm_isS l ) ⟨vm_329, vm_330, vm_324, ⟨by decide +kernel, by decide +kernel, by decide +kernel⟩, ⟨by decide, by decide⟩, rfl, rfl⟩ vm_331 (show decode b_mm_hasB 4 = .ok (.invokestatic 88, 3) by decide +kernel), ?_⟩
  refine List.forall_mem_cons.mpr ⟨mx_ok_if_ne (show decode b_mm_hasB 7 = .ok (.ifCond .ne 29, 3) by decide +kernel) (by decide), ?_⟩
  refine List.forall_mem_cons.mpr ⟨mx_ok_iload_n (show decode b_mm_hasB 10 = .ok (.iload_n 0, 1) by decide +kernel) rfl, ?_⟩
  refine List.forall_mem_cons.mpr ⟨mx_ok_bipush (show decode b_mm_hasB 11 = .ok (.bipush 9, 2) by decide +kernel) (by decide), ?_⟩
  refine List.forall_mem_cons.mpr ⟨mx_ok_bipush (show decode b_mm_hasB 13 = .ok (.bipush 9, 2) by decide +kernel) (by decide), ?_⟩
  refine List.forall_mem_cons.mpr ⟨mx_ok_invS vw_G (ct_mm_isS l ) ⟨vm_329, vm_330, vm_324, ⟨by decide +kernel, by decide +kernel, by decide +kernel⟩, ⟨by decide, by decide⟩, rfl, rfl⟩ vm_331 (show decode b_mm_hasB 15 = .ok (.invokestatic 88, 3) by decide +kernel), ?_⟩
  refine List.forall_mem_cons.mpr ⟨mx_ok_if_ne (show decode b_mm_hasB 18 = .ok (.ifCond .ne 18, 3) by decide +kernel) (by decide), ?_⟩
  refine List.forall_mem_cons.mpr ⟨mx_ok_iload_n (show decode b_mm_hasB 21 = .ok (.iload_n 0, 1) by decide +kernel) rfl, ?_⟩
  refine List.forall_mem_cons.mpr ⟨mx_ok_bipush (show decode b_mm_hasB 22 = .ok (.bipush 11, 2) by decide +kernel) (by decide), ?_⟩
  refine List.forall_mem_cons.mpr ⟨mx_ok_bipush (show decode b_mm_hasB 24 = .ok (.bipush 11, 2) by decide +kernel) (by decide), ?_⟩
  refine List.forall_mem_cons.mpr ⟨mx_ok_invS vw_G (ct_mm_isS l ) ⟨vm_329, vm_330, vm_324, ⟨by decide +kernel, by decide +kernel, by decide +kernel⟩, ⟨by decide, by decide⟩, rfl, rfl⟩ vm_331 (show decode b_mm_hasB 26 = .ok (.invokestatic 88, 3) by decide +kernel), ?_⟩
  refine List.forall_mem_cons.mpr ⟨mx_ok_if_ne (show decode b_mm_hasB 29 = .ok (.ifCond .ne 7, 3) by decide +kernel) (by decide), ?_⟩
  refine List.forall_mem_cons.mpr ⟨mx_ok_iconst (show decode b_mm_hasB 32 = .ok (.iconst 1, 1) by decide +kernel) (by decide), ?_⟩
  refine List.forall_mem_cons.mpr ⟨mx_ok_goto (show decode b_mm_hasB 33 = .ok (.goto 4, 3) by decide +kernel) (by decide), ?_⟩
  refine List.forall_mem_cons.mpr ⟨mx_ok_iconst (show decode b_mm_hasB 36 = .ok (.iconst 0, 1) by decide +kernel) (by decide), ?_⟩
  refine List.forall_mem_cons.mpr ⟨mx_ok_zret (show decode b_mm_hasB 37 = .ok (.ireturn, 1) by decide +kernel) rfl, ?_⟩
  exact fun _ h => absurd h List.not_mem_nil
set_option maxRecDepth 100000 in
set_option maxHeartbeats 4000000 in
theorem ct_mm_hasB (l : Launch) : mx_Ct l vw_T vw_cl km { frames := 2, cells := 0, slots := 0, locals := 42 } y_mm_hasB b_mm_hasB 1 (some .boolean) pre_mm_hasB fn_mm_hasB := by
  refine mx_ct_of (tb_mm_hasB ) (by decide) (ok_mm_hasB l ) (fun as u h => by obtain ⟨_, rfl, -⟩ := h; exact Nat.le_of_ble_eq_true rfl) ?_
  intro as u hpre At hc hw
  obtain ⟨a1, rfl, hp⟩ := hpre
  exact hc 200 [] _ _ _ _ (
    And.intro rfl (
    And.intro ⟨_, _, _, rfl, trivial⟩ (
    And.intro (fun h7 => 
     And.intro (Or.inl rfl) (
     congrArg (mx_rI u) (show 0 = (mm_hasB a1 ) from ((mm_hasB_eq a1 ).trans (if_neg h7)).symm))) (fun h7 => 
     And.intro rfl (
     And.intro ⟨_, _, _, rfl, trivial⟩ (
     And.intro (fun h18 => 
      And.intro (Or.inl rfl) (
      congrArg (mx_rI u) (show 0 = (mm_hasB a1 ) from ((mm_hasB_eq a1 ).trans ((if_pos h7).trans (if_neg h18))).symm))) (fun h18 => 
      And.intro rfl (
      And.intro ⟨_, _, _, rfl, trivial⟩ (
      And.intro (fun h29 => 
       And.intro (Or.inl rfl) (
       congrArg (mx_rI u) (show 0 = (mm_hasB a1 ) from ((mm_hasB_eq a1 ).trans ((if_pos h7).trans ((if_pos h18).trans (if_neg h29)))).symm))) (fun h29 => 
       And.intro (Or.inr rfl) (
       congrArg (mx_rI u) (show 1 = (mm_hasB a1 ) from ((mm_hasB_eq a1 ).trans ((if_pos h7).trans ((if_pos h18).trans (if_pos h29)))).symm))))))))))))
/-! WideMachineModel.isNumber(I)Z -/
noncomputable def mm_isNumber_b (a1 : Int32) : Int32 :=
  if ((a1 >>> ((27 : Int32) &&& 31)) &&& (1 : Int32)) = 1 then
   1
  else
   0
theorem mm_isNumber_ex : ∃ f : Int32 → (Int32), f = mm_isNumber_b := ⟨_, rfl⟩
noncomputable def mm_isNumber : Int32 → (Int32) := Classical.choose mm_isNumber_ex
theorem mm_isNumber_eq (a1 : Int32) : (mm_isNumber a1 ) = (mm_isNumber_b a1 ) := by rw [show mm_isNumber = mm_isNumber_b from Classical.choose_spec mm_isNumber_ex]
def pre_mm_isNumber : List mx_V → mx_S → Prop := fun as u => ∃ (a1 : Int32), as = [.inl a1] ∧ True
noncomputable def fn_mm_isNumber : mx_F := fun as u => match as with
  | [.inl a1] => mx_rI u (mm_isNumber a1 )
  | _ => (none, u)
noncomputable def tb_mm_isNumber : List (Nat × mx_T) := [
  (0, mx_iload_n 0 0),
  (1, mx_bipush 27 1),
  (3, mx_ishr 3),
  (4, mx_iconst 1 4),
  (5, mx_iand 5),
  (6, mx_iconst 1 6),
  (7, mx_icmp_ne 14 7),
  (10, mx_iconst 1 10),
  (11, mx_goto 15 11),
  (14, mx_iconst 0 14),
  (15, mx_zret 15)]
set_option maxRecDepth 100000 in
set_option maxHeartbeats 4000000 in
theorem ok_mm_isNumber (l : Launch) : ∀ q ∈ tb_mm_isNumber , mx_Ok l ({ frames := 0, cells := 0, slots := 0, locals := 0 } : Room) b_mm_isNumber 1 "WideMachineModel" (some .boolean) vw_T vw_cl km q.1 q.2 := by
  refine List.forall_mem_cons.mpr ⟨mx_ok_iload_n (show decode b_mm_isNumber 0 = .ok (.iload_n 0, 1) by decide +kernel) rfl, ?_⟩
  refine List.forall_mem_cons.mpr ⟨mx_ok_bipush (show decode b_mm_isNumber 1 = .ok (.bipush 27, 2) by decide +kernel) (by decide), ?_⟩
  refine List.forall_mem_cons.mpr ⟨mx_ok_ishr (show decode b_mm_isNumber 3 = .ok (.ishr, 1) by decide +kernel), ?_⟩
  refine List.forall_mem_cons.mpr ⟨mx_ok_iconst (show decode b_mm_isNumber 4 = .ok (.iconst 1, 1) by decide +kernel) (by decide), ?_⟩
  refine List.forall_mem_cons.mpr ⟨mx_ok_iand (show decode b_mm_isNumber 5 = .ok (.iand, 1) by decide +kernel), ?_⟩
  refine List.forall_mem_cons.mpr ⟨mx_ok_iconst (show decode b_mm_isNumber 6 = .ok (.iconst 1, 1) by decide +kernel) (by decide), ?_⟩
  refine List.forall_mem_cons.mpr ⟨mx_ok_icmp_ne (show decode b_mm_isNumber 7 = .ok (.if_icmp .ne 7, 3) by decide +kernel) (by decide), ?_⟩
  refine List.forall_mem_cons.mpr ⟨mx_ok_iconst (show decode b_mm_isNumber 10 = .ok (.iconst 1, 1) by decide +kernel) (by decide), ?_⟩
  refine List.forall_mem_cons.mpr ⟨mx_ok_goto (show decode b_mm_isNumber 11 = .ok (.goto 4, 3) by decide +kernel) (by decide), ?_⟩
  refine List.forall_mem_cons.mpr ⟨mx_ok_iconst (show decode b_mm_isNumber 14 = .ok (.iconst 0, 1) by decide +kernel) (by decide), ?_⟩
  refine List.forall_mem_cons.mpr ⟨mx_ok_zret (show decode b_mm_isNumber 15 = .ok (.ireturn, 1) by decide +kernel) rfl, ?_⟩
  exact fun _ h => absurd h List.not_mem_nil
set_option maxRecDepth 100000 in
set_option maxHeartbeats 4000000 in
theorem ct_mm_isNumber (l : Launch) : mx_Ct l vw_T vw_cl km { frames := 0, cells := 0, slots := 0, locals := 0 } y_mm_isNumber b_mm_isNumber 1 (some .boolean) pre_mm_isNumber fn_mm_isNumber := by
  refine mx_ct_of (tb_mm_isNumber ) (by decide) (ok_mm_isNumber l ) (fun as u h => by obtain ⟨_, rfl, -⟩ := h; exact Nat.le_of_ble_eq_true rfl) ?_
  intro as u hpre At hc hw
  obtain ⟨a1, rfl, hp⟩ := hpre
  exact hc 200 [] _ _ _ _ (
    And.intro (fun h7 => 
     And.intro (Or.inl rfl) (
     congrArg (mx_rI u) (show 0 = (mm_isNumber a1 ) from ((mm_isNumber_eq a1 ).trans (if_neg h7)).symm))) (fun h7 => 
     And.intro (Or.inr rfl) (
     congrArg (mx_rI u) (show 1 = (mm_isNumber a1 ) from ((mm_isNumber_eq a1 ).trans (if_pos h7)).symm))))
/-! WideMachineModel.b(I)I -/
noncomputable def mm_b (a1 : Int32) : Int32 :=
  ((a1 >>> ((22 : Int32) &&& 31)) &&& (31 : Int32))
def pre_mm_b : List mx_V → mx_S → Prop := fun as u => ∃ (a1 : Int32), as = [.inl a1] ∧ True
noncomputable def fn_mm_b : mx_F := fun as u => match as with
  | [.inl a1] => mx_rI u (mm_b a1 )
  | _ => (none, u)
noncomputable def tb_mm_b : List (Nat × mx_T) := [
  (0, mx_iload_n 0 0),
  (1, mx_bipush 22 1),
  (3, mx_ishr 3),
  (4, mx_bipush 31 4),
  (6, mx_iand 6),
  (7, mx_iret 7)]
set_option maxRecDepth 100000 in
set_option maxHeartbeats 4000000 in
theorem ok_mm_b (l : Launch) : ∀ q ∈ tb_mm_b , mx_Ok l ({ frames := 0, cells := 0, slots := 0, locals := 0 } : Room) b_mm_b 1 "WideMachineModel" (some .int) vw_T vw_cl km q.1 q.2 := by
  refine List.forall_mem_cons.mpr ⟨mx_ok_iload_n (show decode b_mm_b 0 = .ok (.iload_n 0, 1) by decide +kernel) rfl, ?_⟩
  refine List.forall_mem_cons.mpr ⟨mx_ok_bipush (show decode b_mm_b 1 = .ok (.bipush 22, 2) by decide +kernel) (by decide), ?_⟩
  refine List.forall_mem_cons.mpr ⟨mx_ok_ishr (show decode b_mm_b 3 = .ok (.ishr, 1) by decide +kernel), ?_⟩
  refine List.forall_mem_cons.mpr ⟨mx_ok_bipush (show decode b_mm_b 4 = .ok (.bipush 31, 2) by decide +kernel) (by decide), ?_⟩
  refine List.forall_mem_cons.mpr ⟨mx_ok_iand (show decode b_mm_b 6 = .ok (.iand, 1) by decide +kernel), ?_⟩
  refine List.forall_mem_cons.mpr ⟨mx_ok_iret (show decode b_mm_b 7 = .ok (.ireturn, 1) by decide +kernel) rfl, ?_⟩
  exact fun _ h => absurd h List.not_mem_nil
set_option maxRecDepth 100000 in
set_option maxHeartbeats 4000000 in
theorem ct_mm_b (l : Launch) : mx_Ct l vw_T vw_cl km { frames := 0, cells := 0, slots := 0, locals := 0 } y_mm_b b_mm_b 1 (some .int) pre_mm_b fn_mm_b := by
  refine mx_ct_of (tb_mm_b ) (by decide) (ok_mm_b l ) (fun as u h => by obtain ⟨_, rfl, -⟩ := h; exact Nat.le_of_ble_eq_true rfl) ?_
  intro as u hpre At hc hw
  obtain ⟨a1, rfl, hp⟩ := hpre
  exact hc 200 [] _ _ _ _ (
    congrArg (mx_rI u) (show ((a1 >>> ((22 : Int32) &&& 31)) &&& (31 : Int32)) = (mm_b a1 ) from (rfl).symm))
theorem mm_b_in (w : Int32) : vp_in (mm_b w) 32 := pk_andIn _ 5 (by decide) (by decide)
/-! WideMachineModel.logic(III)I -/
noncomputable def mm_logic_l142 (a1 : Int32) (a2 : Int32) (a3 : Int32) : Nat → Int32 → (Int32)
  | 0, _ => 0
  | n + 1, v3 =>
    if 31 ≤ v3 then
     v3
    else
     if ((a3 >>> (((30 : Int32) - v3) &&& 31)) &&& (1 : Int32)) = (a3.toUInt32 >>> ((31 : Int32).toUInt32 &&& Int32.toUInt32 31)).toInt32 then
      mm_logic_l142 a1 a2 a3 n (v3 + 1)
     else
      v3
def q_mm_logic_l142 (a1 : Int32) (a2 : Int32) (a3 : Int32) (u : mx_S) : Nat → Int32 → Prop
  | 0, _ => False
  | n + 1, v3 =>
    ((31 ≤ v3) → 
     True) ∧ ((¬ (31 ≤ v3)) → 
     ((¬ (((a3 >>> (((30 : Int32) - v3) &&& 31)) &&& (1 : Int32)) = (a3.toUInt32 >>> ((31 : Int32).toUInt32 &&& Int32.toUInt32 31)).toInt32)) → 
      True) ∧ ((((a3 >>> (((30 : Int32) - v3) &&& 31)) &&& (1 : Int32)) = (a3.toUInt32 >>> ((31 : Int32).toUInt32 &&& Int32.toUInt32 31)).toInt32) → 
      q_mm_logic_l142 a1 a2 a3 u n (v3 + 1)))
noncomputable def mm_logic_b (a1 : Int32) (a2 : Int32) (a3 : Int32) : Int32 :=
  if a1 = 0 then
   (a2 + a3)
  else
  if a1 = 1 then
   (a2 - a3)
  else
  if a1 = 2 then
   (a2 &&& a3)
  else
  if a1 = 3 then
   (a2 ||| a3)
  else
  if a1 = 4 then
   (a2 ^^^ a3)
  else
  if a1 = 5 then
   if a2 = a3 then
    1
   else
    0
  else
  if a1 = 6 then
   if a2 ≤ a3 then
    0
   else
    1
  else
  if a1 = 7 then
   if a3 ≤ a2 then
    0
   else
    1
  else
  if a1 = 8 then
   if (lg_cmp (a2.toInt64 + a3.toInt64) 2147483647) ≤ 0 then
    if 0 ≤ (lg_cmp (a2.toInt64 + a3.toInt64) (-2147483648)) then
     (a2.toInt64 + a3.toInt64).toInt32
    else
     (-2147483648)
   else
    2147483647
  else
  mm_logic_l142 a1 a2 a3 33 0
theorem mm_logic_ex : ∃ f : Int32 → Int32 → Int32 → (Int32), f = mm_logic_b := ⟨_, rfl⟩
noncomputable def mm_logic : Int32 → Int32 → Int32 → (Int32) := Classical.choose mm_logic_ex
theorem mm_logic_eq (a1 : Int32) (a2 : Int32) (a3 : Int32) : (mm_logic a1 a2 a3 ) = (mm_logic_b a1 a2 a3 ) := by rw [show mm_logic = mm_logic_b from Classical.choose_spec mm_logic_ex]
def q_mm_logic (a1 : Int32) (a2 : Int32) (a3 : Int32) (u : mx_S) : Prop :=
  ((a1 = 0) → 
   True) ∧ (¬ (a1 = 0) → 
  ((a1 = 1) → 
   True) ∧ (¬ (a1 = 1) → 
  ((a1 = 2) → 
   True) ∧ (¬ (a1 = 2) → 
  ((a1 = 3) → 
   True) ∧ (¬ (a1 = 3) → 
  ((a1 = 4) → 
   True) ∧ (¬ (a1 = 4) → 
  ((a1 = 5) → 
   True) ∧ (¬ (a1 = 5) → 
  ((a1 = 6) → 
   True) ∧ (¬ (a1 = 6) → 
  ((a1 = 7) → 
   True) ∧ (¬ (a1 = 7) → 
  ((a1 = 8) → 
   True) ∧ (¬ (a1 = 8) → 
   q_mm_logic_l142 a1 a2 a3 u 33 0)))))))))
def pre_mm_logic : List mx_V → mx_S → Prop := fun as u => ∃ (a1 : Int32) (a2 : Int32) (a3 : Int32), as = [.inl a1, .inl a2, .inl a3] ∧ q_mm_logic a1 a2 a3 u
noncomputable def fn_mm_logic : mx_F := fun as u => match as with
  | [.inl a1, .inl a2, .inl a3] => mx_rI u (mm_logic a1 a2 a3 )
  | _ => (none, u)
noncomputable def tb_mm_logic : List (Nat × mx_T) := [
  (0, mx_iload_n 0 0),
  (1, mx_tsw 140 [(0, 52), (1, 56), (2, 60), (3, 64), (4, 68), (5, 72), (6, 83), (7, 94), (8, 105)] 1),
  (52, mx_iload_n 1 52),
  (53, mx_iload_n 2 53),
  (54, mx_iadd 54),
  (55, mx_iret 55),
  (56, mx_iload_n 1 56),
  (57, mx_iload_n 2 57),
  (58, mx_isub 58),
  (59, mx_iret 59),
  (60, mx_iload_n 1 60),
  (61, mx_iload_n 2 61),
  (62, mx_iand 62),
  (63, mx_iret 63),
  (64, mx_iload_n 1 64),
  (65, mx_iload_n 2 65),
  (66, mx_ior 66),
  (67, mx_iret 67),
  (68, mx_iload_n 1 68),
  (69, mx_iload_n 2 69),
  (70, mx_ixor 70),
  (71, mx_iret 71),
  (72, mx_iload_n 1 72),
  (73, mx_iload_n 2 73),
  (74, mx_icmp_ne 81 74),
  (77, mx_iconst 1 77),
  (78, mx_goto 82 78),
  (81, mx_iconst 0 81),
  (82, mx_iret 82),
  (83, mx_iload_n 1 83),
  (84, mx_iload_n 2 84),
  (85, mx_icmp_le 92 85),
  (88, mx_iconst 1 88),
  (89, mx_goto 93 89),
  (92, mx_iconst 0 92),
  (93, mx_iret 93),
  (94, mx_iload_n 1 94),
  (95, mx_iload_n 2 95),
  (96, mx_icmp_ge 103 96),
  (99, mx_iconst 1 99),
  (100, mx_goto 104 100),
  (103, mx_iconst 0 103),
  (104, mx_iret 104),
  (105, mx_iload_n 1 105),
  (106, mx_i2l 106),
  (107, mx_iload_n 2 107),
  (108, mx_i2l 108),
  (109, mx_ladd 109),
  (110, mx_lstore_n 3 110),
  (111, mx_lload_n 3 111),
  (112, mx_ldc2 2147483647 112),
  (115, mx_lcmp 115),
  (116, mx_if_le 124 116),
  (119, mx_ldc 2147483647 119),
  (121, mx_goto 139 121),
  (124, mx_lload_n 3 124),
  (125, mx_ldc2 (-2147483648) 125),
  (128, mx_lcmp 128),
  (129, mx_if_ge 137 129),
  (132, mx_ldc (-2147483648) 132),
  (134, mx_goto 139 134),
  (137, mx_lload_n 3 137),
  (138, mx_l2i 138),
  (139, mx_iret 139),
  (140, mx_iconst 0 140),
  (141, mx_istore_n 3 141),
  (142, mx_iload_n 3 142),
  (143, mx_bipush 31 143),
  (145, mx_icmp_ge 169 145),
  (148, mx_iload_n 2 148),
  (149, mx_bipush 30 149),
  (151, mx_iload_n 3 151),
  (152, mx_isub 152),
  (153, mx_ishr 153),
  (154, mx_iconst 1 154),
  (155, mx_iand 155),
  (156, mx_iload_n 2 156),
  (157, mx_bipush 31 157),
  (159, mx_iushr 159),
  (160, mx_icmp_ne 169 160),
  (163, mx_iinc 3 1 163),
  (166, mx_goto 142 166),
  (169, mx_iload_n 3 169),
  (170, mx_iret 170)]
set_option maxRecDepth 100000 in
set_option maxHeartbeats 4000000 in
theorem ok_mm_logic (l : Launch) : ∀ q ∈ tb_mm_logic , mx_Ok l ({ frames := 0, cells := 0, slots := 0, locals := 0 } : Room) b_mm_logic 5 "WideMachineModel" (some .int) vw_T vw_cl km q.1 q.2 := by
  refine List.forall_mem_cons.mpr ⟨mx_ok_iload_n (show decode b_mm_logic 0 = .ok (.iload_n 0, 1) by decide +kernel) rfl, ?_⟩
  refine List.forall_mem_cons.mpr ⟨mx_ok_tsw (show decode b_mm_logic 1 = .ok (.tableswitch 139 0 8 #[51, 55, 59, 63, 67, 71, 82, 93, 104], 51) by decide +kernel) (by decide) (by decide), ?_⟩
  refine List.forall_mem_cons.mpr ⟨mx_ok_iload_n (show decode b_mm_logic 52 = .ok (.iload_n 1, 1) by decide +kernel) rfl, ?_⟩
  refine List.forall_mem_cons.mpr ⟨mx_ok_iload_n (show decode b_mm_logic 53 = .ok (.iload_n 2, 1) by decide +kernel) rfl, ?_⟩
  refine List.forall_mem_cons.mpr ⟨mx_ok_iadd (show decode b_mm_logic 54 = .ok (.iadd, 1) by decide +kernel), ?_⟩
  refine List.forall_mem_cons.mpr ⟨mx_ok_iret (show decode b_mm_logic 55 = .ok (.ireturn, 1) by decide +kernel) rfl, ?_⟩
  refine List.forall_mem_cons.mpr ⟨mx_ok_iload_n (show decode b_mm_logic 56 = .ok (.iload_n 1, 1) by decide +kernel) rfl, ?_⟩
  refine List.forall_mem_cons.mpr ⟨mx_ok_iload_n (show decode b_mm_logic 57 = .ok (.iload_n 2, 1) by decide +kernel) rfl, ?_⟩
  refine List.forall_mem_cons.mpr ⟨mx_ok_isub (show decode b_mm_logic 58 = .ok (.isub, 1) by decide +kernel), ?_⟩
  refine List.forall_mem_cons.mpr ⟨mx_ok_iret (show decode b_mm_logic 59 = .ok (.ireturn, 1) by decide +kernel) rfl, ?_⟩
  refine List.forall_mem_cons.mpr ⟨mx_ok_iload_n (show decode b_mm_logic 60 = .ok (.iload_n 1, 1) by decide +kernel) rfl, ?_⟩
  refine List.forall_mem_cons.mpr ⟨mx_ok_iload_n (show decode b_mm_logic 61 = .ok (.iload_n 2, 1) by decide +kernel) rfl, ?_⟩
  refine List.forall_mem_cons.mpr ⟨mx_ok_iand (show decode b_mm_logic 62 = .ok (.iand, 1) by decide +kernel), ?_⟩
  refine List.forall_mem_cons.mpr ⟨mx_ok_iret (show decode b_mm_logic 63 = .ok (.ireturn, 1) by decide +kernel) rfl, ?_⟩
  refine List.forall_mem_cons.mpr ⟨mx_ok_iload_n (show decode b_mm_logic 64 = .ok (.iload_n 1, 1) by decide +kernel) rfl, ?_⟩
  refine List.forall_mem_cons.mpr ⟨mx_ok_iload_n (show decode b_mm_logic 65 = .ok (.iload_n 2, 1) by decide +kernel) rfl, ?_⟩
  refine List.forall_mem_cons.mpr ⟨mx_ok_ior (show decode b_mm_logic 66 = .ok (.ior, 1) by decide +kernel), ?_⟩
  refine List.forall_mem_cons.mpr ⟨mx_ok_iret (show decode b_mm_logic 67 = .ok (.ireturn, 1) by decide +kernel) rfl, ?_⟩
  refine List.forall_mem_cons.mpr ⟨mx_ok_iload_n (show decode b_mm_logic 68 = .ok (.iload_n 1, 1) by decide +kernel) rfl, ?_⟩
  refine List.forall_mem_cons.mpr ⟨mx_ok_iload_n (show decode b_mm_logic 69 = .ok (.iload_n 2, 1) by decide +kernel) rfl, ?_⟩
  refine List.forall_mem_cons.mpr ⟨mx_ok_ixor (show decode b_mm_logic 70 = .ok (.ixor, 1) by decide +kernel), ?_⟩
  refine List.forall_mem_cons.mpr ⟨mx_ok_iret (show decode b_mm_logic 71 = .ok (.ireturn, 1) by decide +kernel) rfl, ?_⟩
  refine List.forall_mem_cons.mpr ⟨mx_ok_iload_n (show decode b_mm_logic 72 = .ok (.iload_n 1, 1) by decide +kernel) rfl, ?_⟩
  refine List.forall_mem_cons.mpr ⟨mx_ok_iload_n (show decode b_mm_logic 73 = .ok (.iload_n 2, 1) by decide +kernel) rfl, ?_⟩
  refine List.forall_mem_cons.mpr ⟨mx_ok_icmp_ne (show decode b_mm_logic 74 = .ok (.if_icmp .ne 7, 3) by decide +kernel) (by decide), ?_⟩
  refine List.forall_mem_cons.mpr ⟨mx_ok_iconst (show decode b_mm_logic 77 = .ok (.iconst 1, 1) by decide +kernel) (by decide), ?_⟩
  refine List.forall_mem_cons.mpr ⟨mx_ok_goto (show decode b_mm_logic 78 = .ok (.goto 4, 3) by decide +kernel) (by decide), ?_⟩
  refine List.forall_mem_cons.mpr ⟨mx_ok_iconst (show decode b_mm_logic 81 = .ok (.iconst 0, 1) by decide +kernel) (by decide), ?_⟩
  refine List.forall_mem_cons.mpr ⟨mx_ok_iret (show decode b_mm_logic 82 = .ok (.ireturn, 1) by decide +kernel) rfl, ?_⟩
  refine List.forall_mem_cons.mpr ⟨mx_ok_iload_n (show decode b_mm_logic 83 = .ok (.iload_n 1, 1) by decide +kernel) rfl, ?_⟩
  refine List.forall_mem_cons.mpr ⟨mx_ok_iload_n (show decode b_mm_logic 84 = .ok (.iload_n 2, 1) by decide +kernel) rfl, ?_⟩
  refine List.forall_mem_cons.mpr ⟨mx_ok_icmp_le (show decode b_mm_logic 85 = .ok (.if_icmp .le 7, 3) by decide +kernel) (by decide), ?_⟩
  refine List.forall_mem_cons.mpr ⟨mx_ok_iconst (show decode b_mm_logic 88 = .ok (.iconst 1, 1) by decide +kernel) (by decide), ?_⟩
  refine List.forall_mem_cons.mpr ⟨mx_ok_goto (show decode b_mm_logic 89 = .ok (.goto 4, 3) by decide +kernel) (by decide), ?_⟩
  refine List.forall_mem_cons.mpr ⟨mx_ok_iconst (show decode b_mm_logic 92 = .ok (.iconst 0, 1) by decide +kernel) (by decide), ?_⟩
  refine List.forall_mem_cons.mpr ⟨mx_ok_iret (show decode b_mm_logic 93 = .ok (.ireturn, 1) by decide +kernel) rfl, ?_⟩
  refine List.forall_mem_cons.mpr ⟨mx_ok_iload_n (show decode b_mm_logic 94 = .ok (.iload_n 1, 1) by decide +kernel) rfl, ?_⟩
  refine List.forall_mem_cons.mpr ⟨mx_ok_iload_n (show decode b_mm_logic 95 = .ok (.iload_n 2, 1) by decide +kernel) rfl, ?_⟩
  refine List.forall_mem_cons.mpr ⟨mx_ok_icmp_ge (show decode b_mm_logic 96 = .ok (.if_icmp .ge 7, 3) by decide +kernel) (by decide), ?_⟩
  refine List.forall_mem_cons.mpr ⟨mx_ok_iconst (show decode b_mm_logic 99 = .ok (.iconst 1, 1) by decide +kernel) (by decide), ?_⟩
  refine List.forall_mem_cons.mpr ⟨mx_ok_goto (show decode b_mm_logic 100 = .ok (.goto 4, 3) by decide +kernel) (by decide), ?_⟩
  refine List.forall_mem_cons.mpr ⟨mx_ok_iconst (show decode b_mm_logic 103 = .ok (.iconst 0, 1) by decide +kernel) (by decide), ?_⟩
  refine List.forall_mem_cons.mpr ⟨mx_ok_iret (show decode b_mm_logic 104 = .ok (.ireturn, 1) by decide +kernel) rfl, ?_⟩
  refine List.forall_mem_cons.mpr ⟨mx_ok_iload_n (show decode b_mm_logic 105 = .ok (.iload_n 1, 1) by decide +kernel) rfl, ?_⟩
  refine List.forall_mem_cons.mpr ⟨mx_ok_i2l (show decode b_mm_logic 106 = .ok (.i2l, 1) by decide +kernel), ?_⟩
  refine List.forall_mem_cons.mpr ⟨mx_ok_iload_n (show decode b_mm_logic 107 = .ok (.iload_n 2, 1) by decide +kernel) rfl, ?_⟩
  refine List.forall_mem_cons.mpr ⟨mx_ok_i2l (show decode b_mm_logic 108 = .ok (.i2l, 1) by decide +kernel), ?_⟩
  refine List.forall_mem_cons.mpr ⟨mx_ok_ladd (show decode b_mm_logic 109 = .ok (.ladd, 1) by decide +kernel), ?_⟩
  refine List.forall_mem_cons.mpr ⟨mx_ok_lstore_n (show decode b_mm_logic 110 = .ok (.lstore_n 3, 1) by decide +kernel) rfl (by decide), ?_⟩
  refine List.forall_mem_cons.mpr ⟨mx_ok_lload_n (show decode b_mm_logic 111 = .ok (.lload_n 3, 1) by decide +kernel) rfl, ?_⟩
  refine List.forall_mem_cons.mpr ⟨mx_ok_ldc2 (show decode b_mm_logic 112 = .ok (.ldc2_w 179, 3) by decide +kernel) vm_384, ?_⟩
  refine List.forall_mem_cons.mpr ⟨mx_ok_lcmp (show decode b_mm_logic 115 = .ok (.lcmp, 1) by decide +kernel), ?_⟩
  refine List.forall_mem_cons.mpr ⟨mx_ok_if_le (show decode b_mm_logic 116 = .ok (.ifCond .le 8, 3) by decide +kernel) (by decide), ?_⟩
  refine List.forall_mem_cons.mpr ⟨mx_ok_ldc (show decode b_mm_logic 119 = .ok (.ldc 181, 2) by decide +kernel) vm_385, ?_⟩
  refine List.forall_mem_cons.mpr ⟨mx_ok_goto (show decode b_mm_logic 121 = .ok (.goto 18, 3) by decide +kernel) (by decide), ?_⟩
  refine List.forall_mem_cons.mpr ⟨mx_ok_lload_n (show decode b_mm_logic 124 = .ok (.lload_n 3, 1) by decide +kernel) rfl, ?_⟩
  refine List.forall_mem_cons.mpr ⟨mx_ok_ldc2 (show decode b_mm_logic 125 = .ok (.ldc2_w 182, 3) by decide +kernel) vm_386, ?_⟩
  refine List.forall_mem_cons.mpr ⟨mx_ok_lcmp (show decode b_mm_logic 128 = .ok (.lcmp, 1) by decide +kernel), ?_⟩
  refine List.forall_mem_cons.mpr ⟨mx_ok_if_ge (show decode b_mm_logic 129 = .ok (.ifCond .ge 8, 3) by decide +kernel) (by decide), ?_⟩
  refine List.forall_mem_cons.mpr ⟨mx_ok_ldc (show decode b_mm_logic 132 = .ok (.ldc 184, 2) by decide +kernel) vm_387, ?_⟩
  refine List.forall_mem_cons.mpr ⟨mx_ok_goto (show decode b_mm_logic 134 = .ok (.goto 5, 3) by decide +kernel) (by decide), ?_⟩
  refine List.forall_mem_cons.mpr ⟨mx_ok_lload_n (show decode b_mm_logic 137 = .ok (.lload_n 3, 1) by decide +kernel) rfl, ?_⟩
  refine List.forall_mem_cons.mpr ⟨mx_ok_l2i (show decode b_mm_logic 138 = .ok (.l2i, 1) by decide +kernel), ?_⟩
  refine List.forall_mem_cons.mpr ⟨mx_ok_iret (show decode b_mm_logic 139 = .ok (.ireturn, 1) by decide +kernel) rfl, ?_⟩
  refine List.forall_mem_cons.mpr ⟨mx_ok_iconst (show decode b_mm_logic 140 = .ok (.iconst 0, 1) by decide +kernel) (by decide), ?_⟩
  refine List.forall_mem_cons.mpr ⟨mx_ok_istore_n (show decode b_mm_logic 141 = .ok (.istore_n 3, 1) by decide +kernel) rfl (by decide), ?_⟩
  refine List.forall_mem_cons.mpr ⟨mx_ok_iload_n (show decode b_mm_logic 142 = .ok (.iload_n 3, 1) by decide +kernel) rfl, ?_⟩
  refine List.forall_mem_cons.mpr ⟨mx_ok_bipush (show decode b_mm_logic 143 = .ok (.bipush 31, 2) by decide +kernel) (by decide), ?_⟩
  refine List.forall_mem_cons.mpr ⟨mx_ok_icmp_ge (show decode b_mm_logic 145 = .ok (.if_icmp .ge 24, 3) by decide +kernel) (by decide), ?_⟩
  refine List.forall_mem_cons.mpr ⟨mx_ok_iload_n (show decode b_mm_logic 148 = .ok (.iload_n 2, 1) by decide +kernel) rfl, ?_⟩
  refine List.forall_mem_cons.mpr ⟨mx_ok_bipush (show decode b_mm_logic 149 = .ok (.bipush 30, 2) by decide +kernel) (by decide), ?_⟩
  refine List.forall_mem_cons.mpr ⟨mx_ok_iload_n (show decode b_mm_logic 151 = .ok (.iload_n 3, 1) by decide +kernel) rfl, ?_⟩
  refine List.forall_mem_cons.mpr ⟨mx_ok_isub (show decode b_mm_logic 152 = .ok (.isub, 1) by decide +kernel), ?_⟩
  refine List.forall_mem_cons.mpr ⟨mx_ok_ishr (show decode b_mm_logic 153 = .ok (.ishr, 1) by decide +kernel), ?_⟩
  refine List.forall_mem_cons.mpr ⟨mx_ok_iconst (show decode b_mm_logic 154 = .ok (.iconst 1, 1) by decide +kernel) (by decide), ?_⟩
  refine List.forall_mem_cons.mpr ⟨mx_ok_iand (show decode b_mm_logic 155 = .ok (.iand, 1) by decide +kernel), ?_⟩
  refine List.forall_mem_cons.mpr ⟨mx_ok_iload_n (show decode b_mm_logic 156 = .ok (.iload_n 2, 1) by decide +kernel) rfl, ?_⟩
  refine List.forall_mem_cons.mpr ⟨mx_ok_bipush (show decode b_mm_logic 157 = .ok (.bipush 31, 2) by decide +kernel) (by decide), ?_⟩
  refine List.forall_mem_cons.mpr ⟨mx_ok_iushr (show decode b_mm_logic 159 = .ok (.iushr, 1) by decide +kernel), ?_⟩
  refine List.forall_mem_cons.mpr ⟨mx_ok_icmp_ne (show decode b_mm_logic 160 = .ok (.if_icmp .ne 9, 3) by decide +kernel) (by decide), ?_⟩
  refine List.forall_mem_cons.mpr ⟨mx_ok_iinc (show decode b_mm_logic 163 = .ok (.iinc 3 1, 3) by decide +kernel) (by decide) (by decide), ?_⟩
  refine List.forall_mem_cons.mpr ⟨mx_ok_goto (show decode b_mm_logic 166 = .ok (.goto (-24), 3) by decide +kernel) (by decide), ?_⟩
  refine List.forall_mem_cons.mpr ⟨mx_ok_iload_n (show decode b_mm_logic 169 = .ok (.iload_n 3, 1) by decide +kernel) rfl, ?_⟩
  refine List.forall_mem_cons.mpr ⟨mx_ok_iret (show decode b_mm_logic 170 = .ok (.ireturn, 1) by decide +kernel) rfl, ?_⟩
  exact fun _ h => absurd h List.not_mem_nil
set_option maxRecDepth 100000 in
set_option maxHeartbeats 4000000 in
theorem ct_mm_logic (l : Launch) : mx_Ct l vw_T vw_cl km { frames := 0, cells := 0, slots := 0, locals := 0 } y_mm_logic b_mm_logic 5 (some .int) pre_mm_logic fn_mm_logic := by
  refine mx_ct_of (tb_mm_logic ) (by decide) (ok_mm_logic l ) (fun as u h => by obtain ⟨_, _, _, rfl, -⟩ := h; exact Nat.le_of_ble_eq_true rfl) ?_
  intro as u hpre At hc hw
  obtain ⟨a1, a2, a3, rfl, hp⟩ := hpre
  obtain ⟨RES, hRES⟩ : ∃ z, z = (mm_logic a1 a2 a3 ) := ⟨_, rfl⟩
  have hfn : fn_mm_logic [.inl a1, .inl a2, .inl a3] u = mx_rI u RES := by rw [hRES]; rfl
  rw [hfn] at hc
  have lp142 : ∀ (n142 : Nat) (v3 : Int32), q_mm_logic_l142 a1 a2 a3 u n142 v3 → mm_logic_l142 a1 a2 a3 n142 v3 = RES → At 142 [(3, .inl v3), (0, .inl a1), (1, .inl a2), (2, .inl a3)] [] u := by
    intro n142
    induction n142 with
    | zero =>
      intro v3 hi he
      exact hi.elim
    | succ n142 ih142 =>
      intro v3 hi142 he142
      exact hc 200 [142] _ _ _ _ (
        And.intro (fun h145 => 
         congrArg (mx_rI u) (show v3 = RES from (if_pos h145).symm.trans he142)) (fun h145 => 
         And.intro (fun h160 => 
          congrArg (mx_rI u) (show v3 = RES from ((if_neg h145).trans (if_neg h160)).symm.trans he142)) (fun h160 => 
          hw [0, 1, 2, 3] 142 _ [] _ (ih142 (v3 + 1) ((hi142.2 h145).2 h160) (((if_neg h145).trans (if_pos h160)).symm.trans he142)))))
  exact hc 200 [142] _ _ _ _ (
    And.intro (fun h1_0 => 
     congrArg (mx_rI u) (show (a2 + a3) = RES from ((mm_logic_eq a1 a2 a3 ).trans (if_pos h1_0)).symm.trans hRES.symm)) (fun h1_0 => 
    And.intro (fun h1_1 => 
     congrArg (mx_rI u) (show (a2 - a3) = RES from ((mm_logic_eq a1 a2 a3 ).trans ((if_neg h1_0).trans (if_pos h1_1))).symm.trans hRES.symm)) (fun h1_1 => 
    And.intro (fun h1_2 => 
     congrArg (mx_rI u) (show (a2 &&& a3) = RES from ((mm_logic_eq a1 a2 a3 ).trans ((if_neg h1_0).trans ((if_neg h1_1).trans (if_pos h1_2)))).symm.trans hRES.symm)) (fun h1_2 => 
    And.intro (fun h1_3 => 
     congrArg (mx_rI u) (show (a2 ||| a3) = RES from ((mm_logic_eq a1 a2 a3 ).trans ((if_neg h1_0).trans ((if_neg h1_1).trans ((if_neg h1_2).trans (if_pos h1_3))))).symm.trans hRES.symm)) (fun h1_3 => 
    And.intro (fun h1_4 => 
     congrArg (mx_rI u) (show (a2 ^^^ a3) = RES from ((mm_logic_eq a1 a2 a3 ).trans ((if_neg h1_0).trans ((if_neg h1_1).trans ((if_neg h1_2).trans ((if_neg h1_3).trans (if_pos h1_4)))))).symm.trans hRES.symm)) (fun h1_4 => 
    And.intro (fun h1_5 => 
     And.intro (fun h74 => 
      congrArg (mx_rI u) (show 0 = RES from ((mm_logic_eq a1 a2 a3 ).trans ((if_neg h1_0).trans ((if_neg h1_1).trans ((if_neg h1_2).trans ((if_neg h1_3).trans ((if_neg h1_4).trans ((if_pos h1_5).trans (if_neg h74)))))))).symm.trans hRES.symm)) (fun h74 => 
      congrArg (mx_rI u) (show 1 = RES from ((mm_logic_eq a1 a2 a3 ).trans ((if_neg h1_0).trans ((if_neg h1_1).trans ((if_neg h1_2).trans ((if_neg h1_3).trans ((if_neg h1_4).trans ((if_pos h1_5).trans (if_pos h74)))))))).symm.trans hRES.symm))) (fun h1_5 => 
    And.intro (fun h1_6 => 
     And.intro (fun h85 => 
      congrArg (mx_rI u) (show 0 = RES from ((mm_logic_eq a1 a2 a3 ).trans ((if_neg h1_0).trans ((if_neg h1_1).trans ((if_neg h1_2).trans ((if_neg h1_3).trans ((if_neg h1_4).trans ((if_neg h1_5).trans ((if_pos h1_6).trans (if_pos h85))))))))).symm.trans hRES.symm)) (fun h85 => 
      congrArg (mx_rI u) (show 1 = RES from ((mm_logic_eq a1 a2 a3 ).trans ((if_neg h1_0).trans ((if_neg h1_1).trans ((if_neg h1_2).trans ((if_neg h1_3).trans ((if_neg h1_4).trans ((if_neg h1_5).trans ((if_pos h1_6).trans (if_neg h85))))))))).symm.trans hRES.symm))) (fun h1_6 => 
    And.intro (fun h1_7 => 
     And.intro (fun h96 => 
      congrArg (mx_rI u) (show 0 = RES from ((mm_logic_eq a1 a2 a3 ).trans ((if_neg h1_0).trans ((if_neg h1_1).trans ((if_neg h1_2).trans ((if_neg h1_3).trans ((if_neg h1_4).trans ((if_neg h1_5).trans ((if_neg h1_6).trans ((if_pos h1_7).trans (if_pos h96)))))))))).symm.trans hRES.symm)) (fun h96 => 
      congrArg (mx_rI u) (show 1 = RES from ((mm_logic_eq a1 a2 a3 ).trans ((if_neg h1_0).trans ((if_neg h1_1).trans ((if_neg h1_2).trans ((if_neg h1_3).trans ((if_neg h1_4).trans ((if_neg h1_5).trans ((if_neg h1_6).trans ((if_pos h1_7).trans (if_neg h96)))))))))).symm.trans hRES.symm))) (fun h1_7 => 
    And.intro (fun h1_8 => 
     And.intro (fun h116 => 
      And.intro (fun h129 => 
       congrArg (mx_rI u) (show (a2.toInt64 + a3.toInt64).toInt32 = RES from ((mm_logic_eq a1 a2 a3 ).trans ((if_neg h1_0).trans ((if_neg h1_1).trans ((if_neg h1_2).trans ((if_neg h1_3).trans ((if_neg h1_4).trans ((if_neg h1_5).trans ((if_neg h1_6).trans ((if_neg h1_7).trans ((if_pos h1_8).trans ((if_pos h116).trans (if_pos h129)))))))))))).symm.trans hRES.symm)) (fun h129 => 
       congrArg (mx_rI u) (show (-2147483648) = RES from ((mm_logic_eq a1 a2 a3 ).trans ((if_neg h1_0).trans ((if_neg h1_1).trans ((if_neg h1_2).trans ((if_neg h1_3).trans ((if_neg h1_4).trans ((if_neg h1_5).trans ((if_neg h1_6).trans ((if_neg h1_7).trans ((if_pos h1_8).trans ((if_pos h116).trans (if_neg h129)))))))))))).symm.trans hRES.symm))) (fun h116 => 
      congrArg (mx_rI u) (show 2147483647 = RES from ((mm_logic_eq a1 a2 a3 ).trans ((if_neg h1_0).trans ((if_neg h1_1).trans ((if_neg h1_2).trans ((if_neg h1_3).trans ((if_neg h1_4).trans ((if_neg h1_5).trans ((if_neg h1_6).trans ((if_neg h1_7).trans ((if_pos h1_8).trans (if_neg h116))))))))))).symm.trans hRES.symm))) (fun h1_8 => 
     hw [0, 1, 2, 3] 142 _ [] _ (lp142 33 0 (((((((((hp.2 h1_0).2 h1_1).2 h1_2).2 h1_3).2 h1_4).2 h1_5).2 h1_6).2 h1_7).2 h1_8) (((mm_logic_eq a1 a2 a3 ).trans ((if_neg h1_0).trans ((if_neg h1_1).trans ((if_neg h1_2).trans ((if_neg h1_3).trans ((if_neg h1_4).trans ((if_neg h1_5).trans ((if_neg h1_6).trans ((if_neg h1_7).trans (if_neg h1_8)))))))))).symm.trans hRES.symm))))))))))))
/-! WideMachineModel.product(III)I -/
noncomputable def mm_product_b (a1 : Int32) (a2 : Int32) (a3 : Int32) : Int32 :=
  if a1 = 0 then
   (a2.toInt16.toInt32 * a3.toInt16.toInt32)
  else
  if a1 = 1 then
   ((a2 >>> ((16 : Int32) &&& 31)) * (a3 >>> ((16 : Int32) &&& 31)))
  else
  if a1 = 2 then
   ((a2 &&& (65535 : Int32)) * (a3 &&& (65535 : Int32)))
  else
  if (a2.toInt16.toInt32 * a3.toInt16.toInt32) = 1073741824 then
   2147483647
  else
   ((2 : Int32) * (a2.toInt16.toInt32 * a3.toInt16.toInt32))
theorem mm_product_ex : ∃ f : Int32 → Int32 → Int32 → (Int32), f = mm_product_b := ⟨_, rfl⟩
noncomputable def mm_product : Int32 → Int32 → Int32 → (Int32) := Classical.choose mm_product_ex
theorem mm_product_eq (a1 : Int32) (a2 : Int32) (a3 : Int32) : (mm_product a1 a2 a3 ) = (mm_product_b a1 a2 a3 ) := by rw [show mm_product = mm_product_b from Classical.choose_spec mm_product_ex]
def pre_mm_product : List mx_V → mx_S → Prop := fun as u => ∃ (a1 : Int32) (a2 : Int32) (a3 : Int32), as = [.inl a1, .inl a2, .inl a3] ∧ True
noncomputable def fn_mm_product : mx_F := fun as u => match as with
  | [.inl a1, .inl a2, .inl a3] => mx_rI u (mm_product a1 a2 a3 )
  | _ => (none, u)
noncomputable def tb_mm_product : List (Nat × mx_T) := [
  (0, mx_iload_n 1 0),
  (1, mx_i2s 1),
  (2, mx_iload_n 2 2),
  (3, mx_i2s 3),
  (4, mx_imul 4),
  (5, mx_istore_n 3 5),
  (6, mx_iload_n 0 6),
  (7, mx_tsw 54 [(0, 32), (1, 34), (2, 44)] 7),
  (32, mx_iload_n 3 32),
  (33, mx_iret 33),
  (34, mx_iload_n 1 34),
  (35, mx_bipush 16 35),
  (37, mx_ishr 37),
  (38, mx_iload_n 2 38),
  (39, mx_bipush 16 39),
  (41, mx_ishr 41),
  (42, mx_imul 42),
  (43, mx_iret 43),
  (44, mx_iload_n 1 44),
  (45, mx_ldc 65535 45),
  (47, mx_iand 47),
  (48, mx_iload_n 2 48),
  (49, mx_ldc 65535 49),
  (51, mx_iand 51),
  (52, mx_imul 52),
  (53, mx_iret 53),
  (54, mx_iload_n 3 54),
  (55, mx_ldc 1073741824 55),
  (57, mx_icmp_ne 65 57),
  (60, mx_ldc 2147483647 60),
  (62, mx_goto 68 62),
  (65, mx_iconst 2 65),
  (66, mx_iload_n 3 66),
  (67, mx_imul 67),
  (68, mx_iret 68)]
set_option maxRecDepth 100000 in
set_option maxHeartbeats 4000000 in
theorem ok_mm_product (l : Launch) : ∀ q ∈ tb_mm_product , mx_Ok l ({ frames := 0, cells := 0, slots := 0, locals := 0 } : Room) b_mm_product 4 "WideMachineModel" (some .int) vw_T vw_cl km q.1 q.2 := by
  refine List.forall_mem_cons.mpr ⟨mx_ok_iload_n (show decode b_mm_product 0 = .ok (.iload_n 1, 1) by decide +kernel) rfl, ?_⟩
  refine List.forall_mem_cons.mpr ⟨mx_ok_i2s (show decode b_mm_product 1 = .ok (.i2s, 1) by decide +kernel), ?_⟩
  refine List.forall_mem_cons.mpr ⟨mx_ok_iload_n (show decode b_mm_product 2 = .ok (.iload_n 2, 1) by decide +kernel) rfl, ?_⟩
  refine List.forall_mem_cons.mpr ⟨mx_ok_i2s (show decode b_mm_product 3 = .ok (.i2s, 1) by decide +kernel), ?_⟩
  refine List.forall_mem_cons.mpr ⟨mx_ok_imul (show decode b_mm_product 4 = .ok (.imul, 1) by decide +kernel), ?_⟩
  refine List.forall_mem_cons.mpr ⟨mx_ok_istore_n (show decode b_mm_product 5 = .ok (.istore_n 3, 1) by decide +kernel) rfl (by decide), ?_⟩
  refine List.forall_mem_cons.mpr ⟨mx_ok_iload_n (show decode b_mm_product 6 = .ok (.iload_n 0, 1) by decide +kernel) rfl, ?_⟩
  refine List.forall_mem_cons.mpr ⟨mx_ok_tsw (show decode b_mm_product 7 = .ok (.tableswitch 47 0 2 #[25, 27, 37], 25) by decide +kernel) (by decide) (by decide), ?_⟩
  refine List.forall_mem_cons.mpr ⟨mx_ok_iload_n (show decode b_mm_product 32 = .ok (.iload_n 3, 1) by decide +kernel) rfl, ?_⟩
  refine List.forall_mem_cons.mpr ⟨mx_ok_iret (show decode b_mm_product 33 = .ok (.ireturn, 1) by decide +kernel) rfl, ?_⟩
  refine List.forall_mem_cons.mpr ⟨mx_ok_iload_n (show decode b_mm_product 34 = .ok (.iload_n 1, 1) by decide +kernel) rfl, ?_⟩
  refine List.forall_mem_cons.mpr ⟨mx_ok_bipush (show decode b_mm_product 35 = .ok (.bipush 16, 2) by decide +kernel) (by decide), ?_⟩
  refine List.forall_mem_cons.mpr ⟨mx_ok_ishr (show decode b_mm_product 37 = .ok (.ishr, 1) by decide +kernel), ?_⟩
  refine List.forall_mem_cons.mpr ⟨mx_ok_iload_n (show decode b_mm_product 38 = .ok (.iload_n 2, 1) by decide +kernel) rfl, ?_⟩
  refine List.forall_mem_cons.mpr ⟨mx_ok_bipush (show decode b_mm_product 39 = .ok (.bipush 16, 2) by decide +kernel) (by decide), ?_⟩
  refine List.forall_mem_cons.mpr ⟨mx_ok_ishr (show decode b_mm_product 41 = .ok (.ishr, 1) by decide +kernel), ?_⟩
  refine List.forall_mem_cons.mpr ⟨mx_ok_imul (show decode b_mm_product 42 = .ok (.imul, 1) by decide +kernel), ?_⟩
  refine List.forall_mem_cons.mpr ⟨mx_ok_iret (show decode b_mm_product 43 = .ok (.ireturn, 1) by decide +kernel) rfl, ?_⟩
  refine List.forall_mem_cons.mpr ⟨mx_ok_iload_n (show decode b_mm_product 44 = .ok (.iload_n 1, 1) by decide +kernel) rfl, ?_⟩
  refine List.forall_mem_cons.mpr ⟨mx_ok_ldc (show decode b_mm_product 45 = .ok (.ldc 185, 2) by decide +kernel) vm_388, ?_⟩
  refine List.forall_mem_cons.mpr ⟨mx_ok_iand (show decode b_mm_product 47 = .ok (.iand, 1) by decide +kernel), ?_⟩
  refine List.forall_mem_cons.mpr ⟨mx_ok_iload_n (show decode b_mm_product 48 = .ok (.iload_n 2, 1) by decide +kernel) rfl, ?_⟩
  refine List.forall_mem_cons.mpr ⟨mx_ok_ldc (show decode b_mm_product 49 = .ok (.ldc 185, 2) by decide +kernel) vm_388, ?_⟩
  refine List.forall_mem_cons.mpr ⟨mx_ok_iand (show decode b_mm_product 51 = .ok (.iand, 1) by decide +kernel), ?_⟩
  refine List.forall_mem_cons.mpr ⟨mx_ok_imul (show decode b_mm_product 52 = .ok (.imul, 1) by decide +kernel), ?_⟩
  refine List.forall_mem_cons.mpr ⟨mx_ok_iret (show decode b_mm_product 53 = .ok (.ireturn, 1) by decide +kernel) rfl, ?_⟩
  refine List.forall_mem_cons.mpr ⟨mx_ok_iload_n (show decode b_mm_product 54 = .ok (.iload_n 3, 1) by decide +kernel) rfl, ?_⟩
  refine List.forall_mem_cons.mpr ⟨mx_ok_ldc (show decode b_mm_product 55 = .ok (.ldc 186, 2) by decide +kernel) vm_389, ?_⟩
  refine List.forall_mem_cons.mpr ⟨mx_ok_icmp_ne (show decode b_mm_product 57 = .ok (.if_icmp .ne 8, 3) by decide +kernel) (by decide), ?_⟩
  refine List.forall_mem_cons.mpr ⟨mx_ok_ldc (show decode b_mm_product 60 = .ok (.ldc 181, 2) by decide +kernel) vm_385, ?_⟩
  refine List.forall_mem_cons.mpr ⟨mx_ok_goto (show decode b_mm_product 62 = .ok (.goto 6, 3) by decide +kernel) (by decide), ?_⟩
  refine List.forall_mem_cons.mpr ⟨mx_ok_iconst (show decode b_mm_product 65 = .ok (.iconst 2, 1) by decide +kernel) (by decide), ?_⟩
  refine List.forall_mem_cons.mpr ⟨mx_ok_iload_n (show decode b_mm_product 66 = .ok (.iload_n 3, 1) by decide +kernel) rfl, ?_⟩
  refine List.forall_mem_cons.mpr ⟨mx_ok_imul (show decode b_mm_product 67 = .ok (.imul, 1) by decide +kernel), ?_⟩
  refine List.forall_mem_cons.mpr ⟨mx_ok_iret (show decode b_mm_product 68 = .ok (.ireturn, 1) by decide +kernel) rfl, ?_⟩
  exact fun _ h => absurd h List.not_mem_nil
set_option maxRecDepth 100000 in
set_option maxHeartbeats 4000000 in
theorem ct_mm_product (l : Launch) : mx_Ct l vw_T vw_cl km { frames := 0, cells := 0, slots := 0, locals := 0 } y_mm_product b_mm_product 4 (some .int) pre_mm_product fn_mm_product := by
  refine mx_ct_of (tb_mm_product ) (by decide) (ok_mm_product l ) (fun as u h => by obtain ⟨_, _, _, rfl, -⟩ := h; exact Nat.le_of_ble_eq_true rfl) ?_
  intro as u hpre At hc hw
  obtain ⟨a1, a2, a3, rfl, hp⟩ := hpre
  exact hc 200 [] _ _ _ _ (
    And.intro (fun h7_0 => 
     congrArg (mx_rI u) (show (a2.toInt16.toInt32 * a3.toInt16.toInt32) = (mm_product a1 a2 a3 ) from ((mm_product_eq a1 a2 a3 ).trans (if_pos h7_0)).symm)) (fun h7_0 => 
    And.intro (fun h7_1 => 
     congrArg (mx_rI u) (show ((a2 >>> ((16 : Int32) &&& 31)) * (a3 >>> ((16 : Int32) &&& 31))) = (mm_product a1 a2 a3 ) from ((mm_product_eq a1 a2 a3 ).trans ((if_neg h7_0).trans (if_pos h7_1))).symm)) (fun h7_1 => 
    And.intro (fun h7_2 => 
     congrArg (mx_rI u) (show ((a2 &&& (65535 : Int32)) * (a3 &&& (65535 : Int32))) = (mm_product a1 a2 a3 ) from ((mm_product_eq a1 a2 a3 ).trans ((if_neg h7_0).trans ((if_neg h7_1).trans (if_pos h7_2)))).symm)) (fun h7_2 => 
     And.intro (fun h57 => 
      congrArg (mx_rI u) (show ((2 : Int32) * (a2.toInt16.toInt32 * a3.toInt16.toInt32)) = (mm_product a1 a2 a3 ) from ((mm_product_eq a1 a2 a3 ).trans ((if_neg h7_0).trans ((if_neg h7_1).trans ((if_neg h7_2).trans (if_neg h57))))).symm)) (fun h57 => 
      congrArg (mx_rI u) (show 2147483647 = (mm_product a1 a2 a3 ) from ((mm_product_eq a1 a2 a3 ).trans ((if_neg h7_0).trans ((if_neg h7_1).trans ((if_neg h7_2).trans (if_pos h57))))).symm))))))
