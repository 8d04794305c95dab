/-! WideMachine$Word.goesOn(I)Z -/
noncomputable def xw_goesOn_b (a1 : Int32) : Int32 :=
  if (a1 &&& (1 : Int32)) = 0 then
   0
  else
   1
theorem xw_goesOn_ex : ∃ f : Int32 → (Int32), f = xw_goesOn_b := ⟨_, rfl⟩
noncomputable def xw_goesOn : Int32 → (Int32) := Classical.choose xw_goesOn_ex
theorem xw_goesOn_eq (a1 : Int32) : (xw_goesOn a1 ) = (xw_goesOn_b a1 ) := by rw [show xw_goesOn = xw_goesOn_b from Classical.choose_spec xw_goesOn_ex]
def pre_xw_goesOn (np nd : Nat) : List mx_V → mx_S → Prop := fun as u => ∃ (a1 : Int32), as = [.inl a1] ∧ True
noncomputable def fn_xw_goesOn (np nd : Nat) : mx_F := fun as u => match as with
  | [.inl a1] => mx_rI u (xw_goesOn a1 )
  | _ => (none, u)
noncomputable def tb_xw_goesOn (np nd : Nat) : List (Nat × mx_T) := [
  (0, mx_iload_n 0 0),
  (1, mx_iconst 1 1),
  (2, mx_iand 2),
  (3, mx_if_eq 10 3),
  (6, mx_iconst 1 6),
  (7, mx_goto 11 7),
  (10, mx_iconst 0 10),
  (11, mx_zret 11)]
set_option maxRecDepth 100000 in
set_option maxHeartbeats 4000000 in
theorem ok_xw_goesOn (l : Launch) (np nd : Nat) : ∀ q ∈ tb_xw_goesOn np nd , mx_Ok l ({ frames := 0, cells := 0, slots := 0, locals := 0 } : Room) b_xw_goesOn 1 "WideMachine$Word" (some .boolean) vw_T vw_cl (kx np nd) q.1 q.2 := by
  refine List.forall_mem_cons.mpr ⟨mx_ok_iload_n (show decode b_xw_goesOn 0 = .ok (.iload_n 0, 1) by decide +kernel) rfl, ?_⟩
  refine List.forall_mem_cons.mpr ⟨mx_ok_iconst (show decode b_xw_goesOn 1 = .ok (.iconst 1, 1) by decide +kernel) (by decide), ?_⟩
  refine List.forall_mem_cons.mpr ⟨mx_ok_iand (show decode b_xw_goesOn 2 = .ok (.iand, 1) by decide +kernel), ?_⟩
  refine List.forall_mem_cons.mpr ⟨mx_ok_if_eq (show decode b_xw_goesOn 3 = .ok (.ifCond .eq 7, 3) by decide +kernel) (by decide), ?_⟩
  refine List.forall_mem_cons.mpr ⟨mx_ok_iconst (show decode b_xw_goesOn 6 = .ok (.iconst 1, 1) by decide +kernel) (by decide), ?_⟩
  refine List.forall_mem_cons.mpr ⟨mx_ok_goto (show decode b_xw_goesOn 7 = .ok (.goto 4, 3) by decide +kernel) (by decide), ?_⟩
  refine List.forall_mem_cons.mpr ⟨mx_ok_iconst (show decode b_xw_goesOn 10 = .ok (.iconst 0, 1) by decide +kernel) (by decide), ?_⟩
  refine List.forall_mem_cons.mpr ⟨mx_ok_zret (show decode b_xw_goesOn 11 = .ok (.ireturn, 1) by decide +kernel) rfl, ?_⟩
  exact fun _ h => absurd h List.not_mem_nil
set_option maxRecDepth 100000 in
set_option maxHeartbeats 4000000 in
theorem ct_xw_goesOn (l : Launch) (np nd : Nat) : mx_Ct l vw_T vw_cl (kx np nd) { frames := 0, cells := 0, slots := 0, locals := 0 } y_xw_goesOn b_xw_goesOn 1 (some .boolean) (pre_xw_goesOn np nd) (fn_xw_goesOn np nd) := by
  refine mx_ct_of (tb_xw_goesOn np nd ) (by decide) (ok_xw_goesOn l np nd ) (fun as u h => by obtain ⟨_, rfl, -⟩ := h; exact Nat.le_of_ble_eq_true rfl) ?_
  intro as u hpre At hc hw
  obtain ⟨a1, rfl, hp⟩ := hpre
  exact hc 200 [] _ _ _ _ (
    And.intro (fun h3 => 
     And.intro (Or.inl rfl) (
     congrArg (mx_rI u) (show 0 = (xw_goesOn a1 ) from ((xw_goesOn_eq a1 ).trans (if_pos h3)).symm))) (fun h3 => 
     And.intro (Or.inr rfl) (
     congrArg (mx_rI u) (show 1 = (xw_goesOn a1 ) from ((xw_goesOn_eq a1 ).trans (if_neg h3)).symm))))
/-! WideMachine$Word.code(I)I -/
noncomputable def xw_code (a1 : Int32) : Int32 :=
  ((((a1 >>> ((5 : Int32) &&& 31)) &&& (3 : Int32)) <<< ((4 : Int32) &&& 31)) ||| ((a1 >>> ((8 : Int32) &&& 31)) &&& (15 : Int32)))
def pre_xw_code (np nd : Nat) : List mx_V → mx_S → Prop := fun as u => ∃ (a1 : Int32), as = [.inl a1] ∧ True
noncomputable def fn_xw_code (np nd : Nat) : mx_F := fun as u => match as with
  | [.inl a1] => mx_rI u (xw_code a1 )
  | _ => (none, u)
noncomputable def tb_xw_code (np nd : Nat) : List (Nat × mx_T) := [
  (0, mx_iload_n 0 0),
  (1, mx_iconst 5 1),
  (2, mx_ishr 2),
  (3, mx_iconst 3 3),
  (4, mx_iand 4),
  (5, mx_iconst 4 5),
  (6, mx_ishl 6),
  (7, mx_iload_n 0 7),
  (8, mx_bipush 8 8),
  (10, mx_ishr 10),
  (11, mx_bipush 15 11),
  (13, mx_iand 13),
  (14, mx_ior 14),
  (15, mx_iret 15)]
set_option maxRecDepth 100000 in
set_option maxHeartbeats 4000000 in
theorem ok_xw_code (l : Launch) (np nd : Nat) : ∀ q ∈ tb_xw_code np nd , mx_Ok l ({ frames := 0, cells := 0, slots := 0, locals := 0 } : Room) b_xw_code 1 "WideMachine$Word" (some .int) vw_T vw_cl (kx np nd) q.1 q.2 := by
  refine List.forall_mem_cons.mpr ⟨mx_ok_iload_n (show decode b_xw_code 0 = .ok (.iload_n 0, 1) by decide +kernel) rfl, ?_⟩
  refine List.forall_mem_cons.mpr ⟨mx_ok_iconst (show decode b_xw_code 1 = .ok (.iconst 5, 1) by decide +kernel) (by decide), ?_⟩
  refine List.forall_mem_cons.mpr ⟨mx_ok_ishr (show decode b_xw_code 2 = .ok (.ishr, 1) by decide +kernel), ?_⟩
  refine List.forall_mem_cons.mpr ⟨mx_ok_iconst (show decode b_xw_code 3 = .ok (.iconst 3, 1) by decide +kernel) (by decide), ?_⟩
  refine List.forall_mem_cons.mpr ⟨mx_ok_iand (show decode b_xw_code 4 = .ok (.iand, 1) by decide +kernel), ?_⟩
  refine List.forall_mem_cons.mpr ⟨mx_ok_iconst (show decode b_xw_code 5 = .ok (.iconst 4, 1) by decide +kernel) (by decide), ?_⟩
  refine List.forall_mem_cons.mpr ⟨mx_ok_ishl (show decode b_xw_code 6 = .ok (.ishl, 1) by decide +kernel), ?_⟩
  refine List.forall_mem_cons.mpr ⟨mx_ok_iload_n (show decode b_xw_code 7 = .ok (.iload_n 0, 1) by decide +kernel) rfl, ?_⟩
  refine List.forall_mem_cons.mpr ⟨mx_ok_bipush (show decode b_xw_code 8 = .ok (.bipush 8, 2) by decide +kernel) (by decide), ?_⟩
  refine List.forall_mem_cons.mpr ⟨mx_ok_ishr (show decode b_xw_code 10 = .ok (.ishr, 1) by decide +kernel), ?_⟩
  refine List.forall_mem_cons.mpr ⟨mx_ok_bipush (show decode b_xw_code 11 = .ok (.bipush 15, 2) by decide +kernel) (by decide), ?_⟩
  refine List.forall_mem_cons.mpr ⟨mx_ok_iand (show decode b_xw_code 13 = .ok (.iand, 1) by decide +kernel), ?_⟩
  refine List.forall_mem_cons.mpr ⟨mx_ok_ior (show decode b_xw_code 14 = .ok (.ior, 1) by decide +kernel), ?_⟩
  refine List.forall_mem_cons.mpr ⟨mx_ok_iret (show decode b_xw_code 15 = .ok (.ireturn, 1) by decide +kernel) rfl, ?_⟩
  exact fun _ h => absurd h List.not_mem_nil
set_option maxRecDepth 100000 in
set_option maxHeartbeats 4000000 in
theorem ct_xw_code (l : Launch) (np nd : Nat) : mx_Ct l vw_T vw_cl (kx np nd) { frames := 0, cells := 0, slots := 0, locals := 0 } y_xw_code b_xw_code 1 (some .int) (pre_xw_code np nd) (fn_xw_code np nd) := by
  refine mx_ct_of (tb_xw_code np nd ) (by decide) (ok_xw_code l np nd ) (fun as u h => by obtain ⟨_, rfl, -⟩ := h; exact Nat.le_of_ble_eq_true rfl) ?_
  intro as u hpre At hc hw
  obtain ⟨a1, rfl, hp⟩ := hpre
  exact hc 200 [] _ _ _ _ (
    congrArg (mx_rI u) (show ((((a1 >>> ((5 : Int32) &&& 31)) &&& (3 : Int32)) <<< ((4 : Int32) &&& 31)) ||| ((a1 >>> ((8 : Int32) &&& 31)) &&& (15 : Int32))) = (xw_code a1 ) from (rfl).symm))
/-! WideMachine$Word.isOnZero(I)Z -/
noncomputable def xw_isOnZero_b (a1 : Int32) : Int32 :=
  if ((a1 >>> ((4 : Int32) &&& 31)) &&& (1 : Int32)) = 0 then
   0
  else
   1
theorem xw_isOnZero_ex : ∃ f : Int32 → (Int32), f = xw_isOnZero_b := ⟨_, rfl⟩
noncomputable def xw_isOnZero : Int32 → (Int32) := Classical.choose xw_isOnZero_ex
theorem xw_isOnZero_eq (a1 : Int32) : (xw_isOnZero a1 ) = (xw_isOnZero_b a1 ) := by rw [show xw_isOnZero = xw_isOnZero_b from Classical.choose_spec xw_isOnZero_ex]
def pre_xw_isOnZero (np nd : Nat) : List mx_V → mx_S → Prop := fun as u => ∃ (a1 : Int32), as = [.inl a1] ∧ True
noncomputable def fn_xw_isOnZero (np nd : Nat) : mx_F := fun as u => match as with
  | [.inl a1] => mx_rI u (xw_isOnZero a1 )
  | _ => (none, u)
noncomputable def tb_xw_isOnZero (np nd : Nat) : List (Nat × mx_T) := [
  (0, mx_iload_n 0 0),
  (1, mx_iconst 4 1),
  (2, mx_ishr 2),
  (3, mx_iconst 1 3),
  (4, mx_iand 4),
  (5, mx_if_eq 12 5),
  (8, mx_iconst 1 8),
  (9, mx_goto 13 9),
  (12, mx_iconst 0 12),
  (13, mx_zret 13)]
set_option maxRecDepth 100000 in
set_option maxHeartbeats 4000000 in
theorem ok_xw_isOnZero (l : Launch) (np nd : Nat) : ∀ q ∈ tb_xw_isOnZero np nd , mx_Ok l ({ frames := 0, cells := 0, slots := 0, locals := 0 } : Room) b_xw_isOnZero 1 "WideMachine$Word" (some .boolean) vw_T vw_cl (kx np nd) q.1 q.2 := by
  refine List.forall_mem_cons.mpr ⟨mx_ok_iload_n (show decode b_xw_isOnZero 0 = .ok (.iload_n 0, 1) by decide +kernel) rfl, ?_⟩
  refine List.forall_mem_cons.mpr ⟨mx_ok_iconst (show decode b_xw_isOnZero 1 = .ok (.iconst 4, 1) by decide +kernel) (by decide), ?_⟩
  refine List.forall_mem_cons.mpr ⟨mx_ok_ishr (show decode b_xw_isOnZero 2 = .ok (.ishr, 1) by decide +kernel), ?_⟩
  refine List.forall_mem_cons.mpr ⟨mx_ok_iconst (show decode b_xw_isOnZero 3 = .ok (.iconst 1, 1) by decide +kernel) (by decide), ?_⟩
  refine List.forall_mem_cons.mpr ⟨mx_ok_iand (show decode b_xw_isOnZero 4 = .ok (.iand, 1) by decide +kernel), ?_⟩
  refine List.forall_mem_cons.mpr ⟨mx_ok_if_eq (show decode b_xw_isOnZero 5 = .ok (.ifCond .eq 7, 3) by decide +kernel) (by decide), ?_⟩
  refine List.forall_mem_cons.mpr ⟨mx_ok_iconst (show decode b_xw_isOnZero 8 = .ok (.iconst 1, 1) by decide +kernel) (by decide), ?_⟩
  refine List.forall_mem_cons.mpr ⟨mx_ok_goto (show decode b_xw_isOnZero 9 = .ok (.goto 4, 3) by decide +kernel) (by decide), ?_⟩
  refine List.forall_mem_cons.mpr ⟨mx_ok_iconst (show decode b_xw_isOnZero 12 = .ok (.iconst 0, 1) by decide +kernel) (by decide), ?_⟩
  refine List.forall_mem_cons.mpr ⟨mx_ok_zret (show decode b_xw_isOnZero 13 = .ok (.ireturn, 1) by decide +kernel) rfl, ?_⟩
  exact fun _ h => absurd h List.not_mem_nil
set_option maxRecDepth 100000 in
set_option maxHeartbeats 4000000 in
theorem ct_xw_isOnZero (l : Launch) (np nd : Nat) : mx_Ct l vw_T vw_cl (kx np nd) { frames := 0, cells := 0, slots := 0, locals := 0 } y_xw_isOnZero b_xw_isOnZero 1 (some .boolean) (pre_xw_isOnZero np nd) (fn_xw_isOnZero np nd) := by
  refine mx_ct_of (tb_xw_isOnZero np nd ) (by decide) (ok_xw_isOnZero l np nd ) (fun as u h => by obtain ⟨_, rfl, -⟩ := h; exact Nat.le_of_ble_eq_true rfl) ?_
  intro as u hpre At hc hw
  obtain ⟨a1, rfl, hp⟩ := hpre
  exact hc 200 [] _ _ _ _ (
    And.intro (fun h5 => 
     And.intro (Or.inl rfl) (
     congrArg (mx_rI u) (show 0 = (xw_isOnZero a1 ) from ((xw_isOnZero_eq a1 ).trans (if_pos h5)).symm))) (fun h5 => 
     And.intro (Or.inr rfl) (
     congrArg (mx_rI u) (show 1 = (xw_isOnZero a1 ) from ((xw_isOnZero_eq a1 ).trans (if_neg h5)).symm))))
/-! WideMachine$Word.isOperation(I)Z -/
noncomputable def xw_isOperation_b (a1 : Int32) : Int32 :=
  if (a1 >>> ((4 : Int32) &&& 31)) = 0 then
   if 9 < a1 then
    0
   else
    1
  else
  if (a1 >>> ((4 : Int32) &&& 31)) = 1 then
   if 27 < a1 then
    0
   else
    1
  else
  if (a1 >>> ((4 : Int32) &&& 31)) = 2 then
   if 35 < a1 then
    0
   else
    1
  else
  if 51 < a1 then
   0
  else
   1
theorem xw_isOperation_ex : ∃ f : Int32 → (Int32), f = xw_isOperation_b := ⟨_, rfl⟩
noncomputable def xw_isOperation : Int32 → (Int32) := Classical.choose xw_isOperation_ex
theorem xw_isOperation_eq (a1 : Int32) : (xw_isOperation a1 ) = (xw_isOperation_b a1 ) := by rw [show xw_isOperation = xw_isOperation_b from Classical.choose_spec xw_isOperation_ex]
def pre_xw_isOperation (np nd : Nat) : List mx_V → mx_S → Prop := fun as u => ∃ (a1 : Int32), as = [.inl a1] ∧ True
noncomputable def fn_xw_isOperation (np nd : Nat) : mx_F := fun as u => match as with
  | [.inl a1] => mx_rI u (xw_isOperation a1 )
  | _ => (none, u)
noncomputable def tb_xw_isOperation (np nd : Nat) : List (Nat × mx_T) := [
  (0, mx_iload_n 0 0),
  (1, mx_iconst 4 1),
  (2, mx_ishr 2),
  (3, mx_tsw 64 [(0, 28), (1, 40), (2, 52)] 3),
  (28, mx_iload_n 0 28),
  (29, mx_bipush 9 29),
  (31, mx_icmp_gt 38 31),
  (34, mx_iconst 1 34),
  (35, mx_goto 39 35),
  (38, mx_iconst 0 38),
  (39, mx_zret 39),
  (40, mx_iload_n 0 40),
  (41, mx_bipush 27 41),
  (43, mx_icmp_gt 50 43),
  (46, mx_iconst 1 46),
  (47, mx_goto 51 47),
  (50, mx_iconst 0 50),
  (51, mx_zret 51),
  (52, mx_iload_n 0 52),
  (53, mx_bipush 35 53),
  (55, mx_icmp_gt 62 55),
  (58, mx_iconst 1 58),
  (59, mx_goto 63 59),
  (62, mx_iconst 0 62),
  (63, mx_zret 63),
  (64, mx_iload_n 0 64),
  (65, mx_bipush 51 65),
  (67, mx_icmp_gt 74 67),
  (70, mx_iconst 1 70),
  (71, mx_goto 75 71),
  (74, mx_iconst 0 74),
  (75, mx_zret 75)]
set_option maxRecDepth 100000 in
set_option maxHeartbeats 4000000 in
theorem ok_xw_isOperation (l : Launch) (np nd : Nat) : ∀ q ∈ tb_xw_isOperation np nd , mx_Ok l ({ frames := 0, cells := 0, slots := 0, locals := 0 } : Room) b_xw_isOperation 1 "WideMachine$Word" (some .boolean) vw_T vw_cl (kx np nd) q.1 q.2 := by
  refine List.forall_mem_cons.mpr ⟨mx_ok_iload_n (show decode b_xw_isOperation 0 = .ok (.iload_n 0, 1) by decide +kernel) rfl, ?_⟩
  refine List.forall_mem_cons.mpr ⟨mx_ok_iconst (show decode b_xw_isOperation 1 = .ok (.iconst 4, 1) by decide +kernel) (by decide), ?_⟩
  refine List.forall_mem_cons.mpr ⟨mx_ok_ishr (show decode b_xw_isOperation 2 = .ok (.ishr, 1) by decide +kernel), ?_⟩
  refine List.forall_mem_cons.mpr ⟨mx_ok_tsw (show decode b_xw_isOperation 3 = .ok (.tableswitch 61 0 2 #[25, 37, 49], 25) by decide +kernel) (by decide) (by decide), ?_⟩
  refine List.forall_mem_cons.mpr ⟨mx_ok_iload_n (show decode b_xw_isOperation 28 = .ok (.iload_n 0, 1) by decide +kernel) rfl, ?_⟩
  refine List.forall_mem_cons.mpr ⟨mx_ok_bipush (show decode b_xw_isOperation 29 = .ok (.bipush 9, 2) by decide +kernel) (by decide), ?_⟩
  refine List.forall_mem_cons.mpr ⟨mx_ok_icmp_gt (show decode b_xw_isOperation 31 = .ok (.if_icmp .gt 7, 3) by decide +kernel) (by decide), ?_⟩
  refine List.forall_mem_cons.mpr ⟨mx_ok_iconst (show decode b_xw_isOperation 34 = .ok (.iconst 1, 1) by decide +kernel) (by decide), ?_⟩
  refine List.forall_mem_cons.mpr ⟨mx_ok_goto (show decode b_xw_isOperation 35 = .ok (.goto 4, 3) by decide +kernel) (by decide), ?_⟩
  refine List.forall_mem_cons.mpr ⟨mx_ok_iconst (show decode b_xw_isOperation 38 = .ok (.iconst 0, 1) by decide +kernel) (by decide), ?_⟩
  refine List.forall_mem_cons.mpr ⟨mx_ok_zret (show decode b_xw_isOperation 39 = .ok (.ireturn, 1) by decide +kernel) rfl, ?_⟩
  refine List.forall_mem_cons.mpr ⟨mx_ok_iload_n (show decode b_xw_isOperation 40 = .ok (.iload_n 0, 1) by decide +kernel) rfl, ?_⟩
  refine List.forall_mem_cons.mpr ⟨mx_ok_bipush (show decode b_xw_isOperation 41 = .ok (.bipush 27, 2) by decide +kernel) (by decide), ?_⟩
  refine List.forall_mem_cons.mpr ⟨mx_ok_icmp_gt (show decode b_xw_isOperation 43 = .ok (.if_icmp .gt 7, 3) by decide +kernel) (by decide), ?_⟩
  refine List.forall_mem_cons.mpr ⟨mx_ok_iconst (show decode b_xw_isOperation 46 = .ok (.iconst 1, 1) by decide +kernel) (by decide), ?_⟩
  refine List.forall_mem_cons.mpr ⟨mx_ok_goto (show decode b_xw_isOperation 47 = .ok (.goto 4, 3) by decide +kernel) (by decide), ?_⟩
  refine List.forall_mem_cons.mpr ⟨mx_ok_iconst (show decode b_xw_isOperation 50 = .ok (.iconst 0, 1) by decide +kernel) (by decide), ?_⟩
  refine List.forall_mem_cons.mpr ⟨mx_ok_zret (show decode b_xw_isOperation 51 = .ok (.ireturn, 1) by decide +kernel) rfl, ?_⟩
  refine List.forall_mem_cons.mpr ⟨mx_ok_iload_n (show decode b_xw_isOperation 52 = .ok (.iload_n 0, 1) by decide +kernel) rfl, ?_⟩
  refine List.forall_mem_cons.mpr ⟨mx_ok_bipush (show decode b_xw_isOperation 53 = .ok (.bipush 35, 2) by decide +kernel) (by decide), ?_⟩
  refine List.forall_mem_cons.mpr ⟨mx_ok_icmp_gt (show decode b_xw_isOperation 55 = .ok (.if_icmp .gt 7, 3) by decide +kernel) (by decide), ?_⟩
  refine List.forall_mem_cons.mpr ⟨mx_ok_iconst (show decode b_xw_isOperation 58 = .ok (.iconst 1, 1) by decide +kernel) (by decide), ?_⟩
  refine List.forall_mem_cons.mpr ⟨mx_ok_goto (show decode b_xw_isOperation 59 = .ok (.goto 4, 3) by decide +kernel) (by decide), ?_⟩
  refine List.forall_mem_cons.mpr ⟨mx_ok_iconst (show decode b_xw_isOperation 62 = .ok (.iconst 0, 1) by decide +kernel) (by decide), ?_⟩
  refine List.forall_mem_cons.mpr ⟨mx_ok_zret (show decode b_xw_isOperation 63 = .ok (.ireturn, 1) by decide +kernel) rfl, ?_⟩
  refine List.forall_mem_cons.mpr ⟨mx_ok_iload_n (show decode b_xw_isOperation 64 = .ok (.iload_n 0, 1) by decide +kernel) rfl, ?_⟩
  refine List.forall_mem_cons.mpr ⟨mx_ok_bipush (show decode b_xw_isOperation 65 = .ok (.bipush 51, 2) by decide +kernel) (by decide), ?_⟩
  refine List.forall_mem_cons.mpr ⟨mx_ok_icmp_gt (show decode b_xw_isOperation 67 = .ok (.if_icmp .gt 7, 3) by decide +kernel) (by decide), ?_⟩
  refine List.forall_mem_cons.mpr ⟨mx_ok_iconst (show decode b_xw_isOperation 70 = .ok (.iconst 1, 1) by decide +kernel) (by decide), ?_⟩
  refine List.forall_mem_cons.mpr ⟨mx_ok_goto (show decode b_xw_isOperation 71 = .ok (.goto 4, 3) by decide +kernel) (by decide), ?_⟩
  refine List.forall_mem_cons.mpr ⟨mx_ok_iconst (show decode b_xw_isOperation 74 = .ok (.iconst 0, 1) by decide +kernel) (by decide), ?_⟩
  refine List.forall_mem_cons.mpr ⟨mx_ok_zret (show decode b_xw_isOperation 75 = .ok (.ireturn, 1) by decide +kernel) rfl, ?_⟩
  exact fun _ h => absurd h List.not_mem_nil
set_option maxRecDepth 100000 in
set_option maxHeartbeats 4000000 in
theorem ct_xw_isOperation (l : Launch) (np nd : Nat) : mx_Ct l vw_T vw_cl (kx np nd) { frames := 0, cells := 0, slots := 0, locals := 0 } y_xw_isOperation b_xw_isOperation 1 (some .boolean) (pre_xw_isOperation np nd) (fn_xw_isOperation np nd) := by
  refine mx_ct_of (tb_xw_isOperation np nd ) (by decide) (ok_xw_isOperation l np nd ) (fun as u h => by obtain ⟨_, rfl, -⟩ := h; exact Nat.le_of_ble_eq_true rfl) ?_
  intro as u hpre At hc hw
  obtain ⟨a1, rfl, hp⟩ := hpre
  exact hc 200 [] _ _ _ _ (
    And.intro (fun h3_0 => 
     And.intro (fun h31 => 
      And.intro (Or.inl rfl) (
      congrArg (mx_rI u) (show 0 = (xw_isOperation a1 ) from ((xw_isOperation_eq a1 ).trans ((if_pos h3_0).trans (if_pos h31))).symm))) (fun h31 => 
      And.intro (Or.inr rfl) (
      congrArg (mx_rI u) (show 1 = (xw_isOperation a1 ) from ((xw_isOperation_eq a1 ).trans ((if_pos h3_0).trans (if_neg h31))).symm)))) (fun h3_0 => 
    And.intro (fun h3_1 => 
     And.intro (fun h43 => 
      And.intro (Or.inl rfl) (
      congrArg (mx_rI u) (show 0 = (xw_isOperation a1 ) from ((xw_isOperation_eq a1 ).trans ((if_neg h3_0).trans ((if_pos h3_1).trans (if_pos h43)))).symm))) (fun h43 => 
      And.intro (Or.inr rfl) (
      congrArg (mx_rI u) (show 1 = (xw_isOperation a1 ) from ((xw_isOperation_eq a1 ).trans ((if_neg h3_0).trans ((if_pos h3_1).trans (if_neg h43)))).symm)))) (fun h3_1 => 
    And.intro (fun h3_2 => 
     And.intro (fun h55 => 
      And.intro (Or.inl rfl) (
      congrArg (mx_rI u) (show 0 = (xw_isOperation a1 ) from ((xw_isOperation_eq a1 ).trans ((if_neg h3_0).trans ((if_neg h3_1).trans ((if_pos h3_2).trans (if_pos h55))))).symm))) (fun h55 => 
      And.intro (Or.inr rfl) (
      congrArg (mx_rI u) (show 1 = (xw_isOperation a1 ) from ((xw_isOperation_eq a1 ).trans ((if_neg h3_0).trans ((if_neg h3_1).trans ((if_pos h3_2).trans (if_neg h55))))).symm)))) (fun h3_2 => 
     And.intro (fun h67 => 
      And.intro (Or.inl rfl) (
      congrArg (mx_rI u) (show 0 = (xw_isOperation a1 ) from ((xw_isOperation_eq a1 ).trans ((if_neg h3_0).trans ((if_neg h3_1).trans ((if_neg h3_2).trans (if_pos h67))))).symm))) (fun h67 => 
      And.intro (Or.inr rfl) (
      congrArg (mx_rI u) (show 1 = (xw_isOperation a1 ) from ((xw_isOperation_eq a1 ).trans ((if_neg h3_0).trans ((if_neg h3_1).trans ((if_neg h3_2).trans (if_neg h67))))).symm)))))))
/-! WideMachine$Word.hasLongNumber(I)Z -/
noncomputable def xw_hasLongNumber_b (a1 : Int32) : Int32 :=
  if a1 = 21 then
   1
  else
   if a1 = 22 then
    1
   else
    if a1 = 23 then
     1
    else
     0
theorem xw_hasLongNumber_ex : ∃ f : Int32 → (Int32), f = xw_hasLongNumber_b := ⟨_, rfl⟩
noncomputable def xw_hasLongNumber : Int32 → (Int32) := Classical.choose xw_hasLongNumber_ex
theorem xw_hasLongNumber_eq (a1 : Int32) : (xw_hasLongNumber a1 ) = (xw_hasLongNumber_b a1 ) := by rw [show xw_hasLongNumber = xw_hasLongNumber_b from Classical.choose_spec xw_hasLongNumber_ex]
def pre_xw_hasLongNumber (np nd : Nat) : List mx_V → mx_S → Prop := fun as u => ∃ (a1 : Int32), as = [.inl a1] ∧ True
noncomputable def fn_xw_hasLongNumber (np nd : Nat) : mx_F := fun as u => match as with
  | [.inl a1] => mx_rI u (xw_hasLongNumber a1 )
  | _ => (none, u)
noncomputable def tb_xw_hasLongNumber (np nd : Nat) : List (Nat × mx_T) := [
  (0, mx_iload_n 0 0),
  (1, mx_bipush 21 1),
  (3, mx_icmp_eq 18 3),
  (6, mx_iload_n 0 6),
  (7, mx_bipush 22 7),
  (9, mx_icmp_eq 18 9),
  (12, mx_iload_n 0 12),
  (13, mx_bipush 23 13),
  (15, mx_icmp_ne 22 15),
  (18, mx_iconst 1 18),
  (19, mx_goto 23 19),
  (22, mx_iconst 0 22),
  (23, mx_zret 23)]
set_option maxRecDepth 100000 in
set_option maxHeartbeats 4000000 in
theorem ok_xw_hasLongNumber (l : Launch) (np nd : Nat) : ∀ q ∈ tb_xw_hasLongNumber np nd , mx_Ok l ({ frames := 0, cells := 0, slots := 0, locals := 0 } : Room) b_xw_hasLongNumber 1 "WideMachine$Word" (some .boolean) vw_T vw_cl (kx np nd) q.1 q.2 := by
  refine List.forall_mem_cons.mpr ⟨mx_ok_iload_n (show decode b_xw_hasLongNumber 0 = .ok (.iload_n 0, 1) by decide +kernel) rfl, ?_⟩
  refine List.forall_mem_cons.mpr ⟨mx_ok_bipush (show decode b_xw_hasLongNumber 1 = .ok (.bipush 21, 2) by decide +kernel) (by decide), ?_⟩
  refine List.forall_mem_cons.mpr ⟨mx_ok_icmp_eq (show decode b_xw_hasLongNumber 3 = .ok (.if_icmp .eq 15, 3) by decide +kernel) (by decide), ?_⟩
  refine List.forall_mem_cons.mpr ⟨mx_ok_iload_n (show decode b_xw_hasLongNumber 6 = .ok (.iload_n 0, 1) by decide +kernel) rfl, ?_⟩
  refine List.forall_mem_cons.mpr ⟨mx_ok_bipush (show decode b_xw_hasLongNumber 7 = .ok (.bipush 22, 2) by decide +kernel) (by decide), ?_⟩
  refine List.forall_mem_cons.mpr ⟨mx_ok_icmp_eq (show decode b_xw_hasLongNumber 9 = .ok (.if_icmp .eq 9, 3) by decide +kernel) (by decide), ?_⟩
  refine List.forall_mem_cons.mpr ⟨mx_ok_iload_n (show decode b_xw_hasLongNumber 12 = .ok (.iload_n 0, 1) by decide +kernel) rfl, ?_⟩
  refine List.forall_mem_cons.mpr ⟨mx_ok_bipush (show decode b_xw_hasLongNumber 13 = .ok (.bipush 23, 2) by decide +kernel) (by decide), ?_⟩
  refine List.forall_mem_cons.mpr ⟨mx_ok_icmp_ne (show decode b_xw_hasLongNumber 15 = .ok (.if_icmp .ne 7, 3) by decide +kernel) (by decide), ?_⟩
  refine List.forall_mem_cons.mpr ⟨mx_ok_iconst (show decode b_xw_hasLongNumber 18 = .ok (.iconst 1, 1) by decide +kernel) (by decide), ?_⟩
  refine List.forall_mem_cons.mpr ⟨mx_ok_goto (show decode b_xw_hasLongNumber 19 = .ok (.goto 4, 3) by decide +kernel) (by decide), ?_⟩
  refine List.forall_mem_cons.mpr ⟨mx_ok_iconst (show decode b_xw_hasLongNumber 22 = .ok (.iconst 0, 1) by decide +kernel) (by decide), ?_⟩
  refine List.forall_mem_cons.mpr ⟨mx_ok_zret (show decode b_xw_hasLongNumber 23 = .ok (.ireturn, 1) by decide +kernel) rfl, ?_⟩
  exact fun _ h => absurd h List.not_mem_nil
set_option maxRecDepth 100000 in
set_option maxHeartbeats 4000000 in
theorem ct_xw_hasLongNumber (l : Launch) (np nd : Nat) : mx_Ct l vw_T vw_cl (kx np nd) { frames := 0, cells := 0, slots := 0, locals := 0 } y_xw_hasLongNumber b_xw_hasLongNumber 1 (some .boolean) (pre_xw_hasLongNumber np nd) (fn_xw_hasLongNumber np nd) := by
  refine mx_ct_of (tb_xw_hasLongNumber np nd ) (by decide) (ok_xw_hasLongNumber l np nd ) (fun as u h => by obtain ⟨_, rfl, -⟩ := h; exact Nat.le_of_ble_eq_true rfl) ?_
  intro as u hpre At hc hw
  obtain ⟨a1, rfl, hp⟩ := hpre
  exact hc 200 [] _ _ _ _ (
    And.intro (fun h3 => 
     And.intro (Or.inr rfl) (
     congrArg (mx_rI u) (show 1 = (xw_hasLongNumber a1 ) from ((xw_hasLongNumber_eq a1 ).trans (if_pos h3)).symm))) (fun h3 => 
     And.intro (fun h9 => 
      And.intro (Or.inr rfl) (
      congrArg (mx_rI u) (show 1 = (xw_hasLongNumber a1 ) from ((xw_hasLongNumber_eq a1 ).trans ((if_neg h3).trans (if_pos h9))).symm))) (fun h9 => 
      And.intro (fun h15 => 
       And.intro (Or.inl rfl) (
       congrArg (mx_rI u) (show 0 = (xw_hasLongNumber a1 ) from ((xw_hasLongNumber_eq a1 ).trans ((if_neg h3).trans ((if_neg h9).trans (if_neg h15)))).symm))) (fun h15 => 
       And.intro (Or.inr rfl) (
       congrArg (mx_rI u) (show 1 = (xw_hasLongNumber a1 ) from ((xw_hasLongNumber_eq a1 ).trans ((if_neg h3).trans ((if_neg h9).trans (if_pos h15)))).symm))))))
/-! WideMachine$Word.hasD(I)Z -/
noncomputable def xw_hasD_b (a1 : Int32) : Int32 :=
  if a1 < 23 then
   1
  else
   if a1 ≤ 27 then
    0
   else
    1
theorem xw_hasD_ex : ∃ f : Int32 → (Int32), f = xw_hasD_b := ⟨_, rfl⟩
noncomputable def xw_hasD : Int32 → (Int32) := Classical.choose xw_hasD_ex
theorem xw_hasD_eq (a1 : Int32) : (xw_hasD a1 ) = (xw_hasD_b a1 ) := by rw [show xw_hasD = xw_hasD_b from Classical.choose_spec xw_hasD_ex]
def pre_xw_hasD (np nd : Nat) : List mx_V → mx_S → Prop := fun as u => ∃ (a1 : Int32), as = [.inl a1] ∧ True
noncomputable def fn_xw_hasD (np nd : Nat) : mx_F := fun as u => match as with
  | [.inl a1] => mx_rI u (xw_hasD a1 )
  | _ => (none, u)
noncomputable def tb_xw_hasD (np nd : Nat) : List (Nat × mx_T) := [
  (0, mx_iload_n 0 0),
  (1, mx_bipush 23 1),
  (3, mx_icmp_lt 12 3),
  (6, mx_iload_n 0 6),
  (7, mx_bipush 27 7),
  (9, mx_icmp_le 16 9),
  (12, mx_iconst 1 12),
  (13, mx_goto 17 13),
  (16, mx_iconst 0 16),
  (17, mx_zret 17)]
set_option maxRecDepth 100000 in
set_option maxHeartbeats 4000000 in
theorem ok_xw_hasD (l : Launch) (np nd : Nat) : ∀ q ∈ tb_xw_hasD np nd , mx_Ok l ({ frames := 0, cells := 0, slots := 0, locals := 0 } : Room) b_xw_hasD 1 "WideMachine$Word" (some .boolean) vw_T vw_cl (kx np nd) q.1 q.2 := by
  refine List.forall_mem_cons.mpr ⟨mx_ok_iload_n (show decode b_xw_hasD 0 = .ok (.iload_n 0, 1) by decide +kernel) rfl, ?_⟩
  refine List.forall_mem_cons.mpr ⟨mx_ok_bipush (show decode b_xw_hasD 1 = .ok (.bipush 23, 2) by decide +kernel) (by decide), ?_⟩
  refine List.forall_mem_cons.mpr ⟨mx_ok_icmp_lt (show decode b_xw_hasD 3 = .ok (.if_icmp .lt 9, 3) by decide +kernel) (by decide), ?_⟩
  refine List.forall_mem_cons.mpr ⟨mx_ok_iload_n (show decode b_xw_hasD 6 = .ok (.iload_n 0, 1) by decide +kernel) rfl, ?_⟩
  refine List.forall_mem_cons.mpr ⟨mx_ok_bipush (show decode b_xw_hasD 7 = .ok (.bipush 27, 2) by decide +kernel) (by decide), ?_⟩
  refine List.forall_mem_cons.mpr ⟨mx_ok_icmp_le (show decode b_xw_hasD 9 = .ok (.if_icmp .le 7, 3) by decide +kernel) (by decide), ?_⟩
  refine List.forall_mem_cons.mpr ⟨mx_ok_iconst (show decode b_xw_hasD 12 = .ok (.iconst 1, 1) by decide +kernel) (by decide), ?_⟩
  refine List.forall_mem_cons.mpr ⟨mx_ok_goto (show decode b_xw_hasD 13 = .ok (.goto 4, 3) by decide +kernel) (by decide), ?_⟩
  refine List.forall_mem_cons.mpr ⟨mx_ok_iconst (show decode b_xw_hasD 16 = .ok (.iconst 0, 1) by decide +kernel) (by decide), ?_⟩
  refine List.forall_mem_cons.mpr ⟨mx_ok_zret (show decode b_xw_hasD 17 = .ok (.ireturn, 1) by decide +kernel) rfl, ?_⟩
  exact fun _ h => absurd h List.not_mem_nil
set_option maxRecDepth 100000 in
set_option maxHeartbeats 4000000 in
theorem ct_xw_hasD (l : Launch) (np nd : Nat) : mx_Ct l vw_T vw_cl (kx np nd) { frames := 0, cells := 0, slots := 0, locals := 0 } y_xw_hasD b_xw_hasD 1 (some .boolean) (pre_xw_hasD np nd) (fn_xw_hasD np nd) := by
  refine mx_ct_of (tb_xw_hasD np nd ) (by decide) (ok_xw_hasD l np nd ) (fun as u h => by obtain ⟨_, rfl, -⟩ := h; exact Nat.le_of_ble_eq_true rfl) ?_
  intro as u hpre At hc hw
  obtain ⟨a1, rfl, hp⟩ := hpre
  exact hc 200 [] _ _ _ _ (
    And.intro (fun h3 => 
     And.intro (Or.inr rfl) (
     congrArg (mx_rI u) (show 1 = (xw_hasD a1 ) from ((xw_hasD_eq a1 ).trans (if_pos h3)).symm))) (fun h3 => 
     And.intro (fun h9 => 
      And.intro (Or.inl rfl) (
      congrArg (mx_rI u) (show 0 = (xw_hasD a1 ) from ((xw_hasD_eq a1 ).trans ((if_neg h3).trans (if_pos h9))).symm))) (fun h9 => 
      And.intro (Or.inr rfl) (
      congrArg (mx_rI u) (show 1 = (xw_hasD a1 ) from ((xw_hasD_eq a1 ).trans ((if_neg h3).trans (if_neg h9))).symm)))))
/-! WideMachine$Word.d(I)I -/
noncomputable def xw_d (a1 : Int32) : Int32 :=
  ((a1 >>> ((12 : Int32) &&& 31)) &&& (31 : Int32))
def pre_xw_d (np nd : Nat) : List mx_V → mx_S → Prop := fun as u => ∃ (a1 : Int32), as = [.inl a1] ∧ True
noncomputable def fn_xw_d (np nd : Nat) : mx_F := fun as u => match as with
  | [.inl a1] => mx_rI u (xw_d a1 )
  | _ => (none, u)
noncomputable def tb_xw_d (np nd : Nat) : List (Nat × mx_T) := [
  (0, mx_iload_n 0 0),
  (1, mx_bipush 12 1),
  (3, mx_ishr 3),
  (4, mx_bipush 31 4),
  (6, mx_iand 6),
  (7, mx_iret 7)]
set_option maxRecDepth 100000 in
set_option maxHeartbeats 4000000 in
theorem ok_xw_d (l : Launch) (np nd : Nat) : ∀ q ∈ tb_xw_d np nd , mx_Ok l ({ frames := 0, cells := 0, slots := 0, locals := 0 } : Room) b_xw_d 1 "WideMachine$Word" (some .int) vw_T vw_cl (kx np nd) q.1 q.2 := by
  refine List.forall_mem_cons.mpr ⟨mx_ok_iload_n (show decode b_xw_d 0 = .ok (.iload_n 0, 1) by decide +kernel) rfl, ?_⟩
  refine List.forall_mem_cons.mpr ⟨mx_ok_bipush (show decode b_xw_d 1 = .ok (.bipush 12, 2) by decide +kernel) (by decide), ?_⟩
  refine List.forall_mem_cons.mpr ⟨mx_ok_ishr (show decode b_xw_d 3 = .ok (.ishr, 1) by decide +kernel), ?_⟩
  refine List.forall_mem_cons.mpr ⟨mx_ok_bipush (show decode b_xw_d 4 = .ok (.bipush 31, 2) by decide +kernel) (by decide), ?_⟩
  refine List.forall_mem_cons.mpr ⟨mx_ok_iand (show decode b_xw_d 6 = .ok (.iand, 1) by decide +kernel), ?_⟩
  refine List.forall_mem_cons.mpr ⟨mx_ok_iret (show decode b_xw_d 7 = .ok (.ireturn, 1) by decide +kernel) rfl, ?_⟩
  exact fun _ h => absurd h List.not_mem_nil
set_option maxRecDepth 100000 in
set_option maxHeartbeats 4000000 in
theorem ct_xw_d (l : Launch) (np nd : Nat) : mx_Ct l vw_T vw_cl (kx np nd) { frames := 0, cells := 0, slots := 0, locals := 0 } y_xw_d b_xw_d 1 (some .int) (pre_xw_d np nd) (fn_xw_d np nd) := by
  refine mx_ct_of (tb_xw_d np nd ) (by decide) (ok_xw_d l np nd ) (fun as u h => by obtain ⟨_, rfl, -⟩ := h; exact Nat.le_of_ble_eq_true rfl) ?_
  intro as u hpre At hc hw
  obtain ⟨a1, rfl, hp⟩ := hpre
  exact hc 200 [] _ _ _ _ (
    congrArg (mx_rI u) (show ((a1 >>> ((12 : Int32) &&& 31)) &&& (31 : Int32)) = (xw_d a1 ) from (rfl).symm))
theorem xw_d_in (w : Int32) : vp_in (xw_d w) 32 := pk_andIn _ 5 (by decide) (by decide)
/-! WideMachine$Word.side(I)I -/
noncomputable def xw_side (a1 : Int32) : Int32 :=
  ((a1 >>> ((7 : Int32) &&& 31)) &&& (1 : Int32))
def pre_xw_side (np nd : Nat) : List mx_V → mx_S → Prop := fun as u => ∃ (a1 : Int32), as = [.inl a1] ∧ True
noncomputable def fn_xw_side (np nd : Nat) : mx_F := fun as u => match as with
  | [.inl a1] => mx_rI u (xw_side a1 )
  | _ => (none, u)
noncomputable def tb_xw_side (np nd : Nat) : List (Nat × mx_T) := [
  (0, mx_iload_n 0 0),
  (1, mx_bipush 7 1),
  (3, mx_ishr 3),
  (4, mx_iconst 1 4),
  (5, mx_iand 5),
  (6, mx_iret 6)]
set_option maxRecDepth 100000 in
set_option maxHeartbeats 4000000 in
theorem ok_xw_side (l : Launch) (np nd : Nat) : ∀ q ∈ tb_xw_side np nd , mx_Ok l ({ frames := 0, cells := 0, slots := 0, locals := 0 } : Room) b_xw_side 1 "WideMachine$Word" (some .int) vw_T vw_cl (kx np nd) q.1 q.2 := by
  refine List.forall_mem_cons.mpr ⟨mx_ok_iload_n (show decode b_xw_side 0 = .ok (.iload_n 0, 1) by decide +kernel) rfl, ?_⟩
  refine List.forall_mem_cons.mpr ⟨mx_ok_bipush (show decode b_xw_side 1 = .ok (.bipush 7, 2) by decide +kernel) (by decide), ?_⟩
  refine List.forall_mem_cons.mpr ⟨mx_ok_ishr (show decode b_xw_side 3 = .ok (.ishr, 1) by decide +kernel), ?_⟩
  refine List.forall_mem_cons.mpr ⟨mx_ok_iconst (show decode b_xw_side 4 = .ok (.iconst 1, 1) by decide +kernel) (by decide), ?_⟩
  refine List.forall_mem_cons.mpr ⟨mx_ok_iand (show decode b_xw_side 5 = .ok (.iand, 1) by decide +kernel), ?_⟩
  refine List.forall_mem_cons.mpr ⟨mx_ok_iret (show decode b_xw_side 6 = .ok (.ireturn, 1) by decide +kernel) rfl, ?_⟩
  exact fun _ h => absurd h List.not_mem_nil
set_option maxRecDepth 100000 in
set_option maxHeartbeats 4000000 in
theorem ct_xw_side (l : Launch) (np nd : Nat) : mx_Ct l vw_T vw_cl (kx np nd) { frames := 0, cells := 0, slots := 0, locals := 0 } y_xw_side b_xw_side 1 (some .int) (pre_xw_side np nd) (fn_xw_side np nd) := by
  refine mx_ct_of (tb_xw_side np nd ) (by decide) (ok_xw_side l np nd ) (fun as u h => by obtain ⟨_, rfl, -⟩ := h; exact Nat.le_of_ble_eq_true rfl) ?_
  intro as u hpre At hc hw
  obtain ⟨a1, rfl, hp⟩ := hpre
  exact hc 200 [] _ _ _ _ (
    congrArg (mx_rI u) (show ((a1 >>> ((7 : Int32) &&& 31)) &&& (1 : Int32)) = (xw_side a1 ) from (rfl).symm))
/-! WideMachine$Word.hasA(I)Z -/
noncomputable def xw_hasA_b (a1 : Int32) : Int32 :=
  if a1 = 9 then
   0
  else
   if a1 < 21 then
    1
   else
    if a1 ≤ 27 then
     0
    else
     1
theorem xw_hasA_ex : ∃ f : Int32 → (Int32), f = xw_hasA_b := ⟨_, rfl⟩
noncomputable def xw_hasA : Int32 → (Int32) := Classical.choose xw_hasA_ex
theorem xw_hasA_eq (a1 : Int32) : (xw_hasA a1 ) = (xw_hasA_b a1 ) := by rw [show xw_hasA = xw_hasA_b from Classical.choose_spec xw_hasA_ex]
def pre_xw_hasA (np nd : Nat) : List mx_V → mx_S → Prop := fun as u => ∃ (a1 : Int32), as = [.inl a1] ∧ True
noncomputable def fn_xw_hasA (np nd : Nat) : mx_F := fun as u => match as with
  | [.inl a1] => mx_rI u (xw_hasA a1 )
  | _ => (none, u)
noncomputable def tb_xw_hasA (np nd : Nat) : List (Nat × mx_T) := [
  (0, mx_iload_n 0 0),
  (1, mx_bipush 9 1),
  (3, mx_icmp_eq 22 3),
  (6, mx_iload_n 0 6),
  (7, mx_bipush 21 7),
  (9, mx_icmp_lt 18 9),
  (12, mx_iload_n 0 12),
  (13, mx_bipush 27 13),
  (15, mx_icmp_le 22 15),
  (18, mx_iconst 1 18),
  (19, mx_goto 23 19),
  (22, mx_iconst 0 22),
  (23, mx_zret 23)]
set_option maxRecDepth 100000 in
set_option maxHeartbeats 4000000 in
theorem ok_xw_hasA (l : Launch) (np nd : Nat) : ∀ q ∈ tb_xw_hasA np nd , mx_Ok l ({ frames := 0, cells := 0, slots := 0, locals := 0 } : Room) b_xw_hasA 1 "WideMachine$Word" (some .boolean) vw_T vw_cl (kx np nd) q.1 q.2 := by
  refine List.forall_mem_cons.mpr ⟨mx_ok_iload_n (show decode b_xw_hasA 0 = .ok (.iload_n 0, 1) by decide +kernel) rfl, ?_⟩
  refine List.forall_mem_cons.mpr ⟨mx_ok_bipush (show decode b_xw_hasA 1 = .ok (.bipush 9, 2) by decide +kernel) (by decide), ?_⟩
  refine List.forall_mem_cons.mpr ⟨mx_ok_icmp_eq (show decode b_xw_hasA 3 = .ok (.if_icmp .eq 19, 3) by decide +kernel) (by decide), ?_⟩
  refine List.forall_mem_cons.mpr ⟨mx_ok_iload_n (show decode b_xw_hasA 6 = .ok (.iload_n 0, 1) by decide +kernel) rfl, ?_⟩
  refine List.forall_mem_cons.mpr ⟨mx_ok_bipush (show decode b_xw_hasA 7 = .ok (.bipush 21, 2) by decide +kernel) (by decide), ?_⟩
  refine List.forall_mem_cons.mpr ⟨mx_ok_icmp_lt (show decode b_xw_hasA 9 = .ok (.if_icmp .lt 9, 3) by decide +kernel) (by decide), ?_⟩
  refine List.forall_mem_cons.mpr ⟨mx_ok_iload_n (show decode b_xw_hasA 12 = .ok (.iload_n 0, 1) by decide +kernel) rfl, ?_⟩
  refine List.forall_mem_cons.mpr ⟨mx_ok_bipush (show decode b_xw_hasA 13 = .ok (.bipush 27, 2) by decide +kernel) (by decide), ?_⟩
  refine List.forall_mem_cons.mpr ⟨mx_ok_icmp_le (show decode b_xw_hasA 15 = .ok (.if_icmp .le 7, 3) by decide +kernel) (by decide), ?_⟩
  refine List.forall_mem_cons.mpr ⟨mx_ok_iconst (show decode b_xw_hasA 18 = .ok (.iconst 1, 1) by decide +kernel) (by decide), ?_⟩
  refine List.forall_mem_cons.mpr ⟨mx_ok_goto (show decode b_xw_hasA 19 = .ok (.goto 4, 3) by decide +kernel) (by decide), ?_⟩
  refine List.forall_mem_cons.mpr ⟨mx_ok_iconst (show decode b_xw_hasA 22 = .ok (.iconst 0, 1) by decide +kernel) (by decide), ?_⟩
  refine List.forall_mem_cons.mpr ⟨mx_ok_zret (show decode b_xw_hasA 23 = .ok (.ireturn, 1) by decide +kernel) rfl, ?_⟩
  exact fun _ h => absurd h List.not_mem_nil
set_option maxRecDepth 100000 in
set_option maxHeartbeats 4000000 in
theorem ct_xw_hasA (l : Launch) (np nd : Nat) : mx_Ct l vw_T vw_cl (kx np nd) { frames := 0, cells := 0, slots := 0, locals := 0 } y_xw_hasA b_xw_hasA 1 (some .boolean) (pre_xw_hasA np nd) (fn_xw_hasA np nd) := by
  refine mx_ct_of (tb_xw_hasA np nd ) (by decide) (ok_xw_hasA l np nd ) (fun as u h => by obtain ⟨_, rfl, -⟩ := h; exact Nat.le_of_ble_eq_true rfl) ?_
  intro as u hpre At hc hw
  obtain ⟨a1, rfl, hp⟩ := hpre
  exact hc 200 [] _ _ _ _ (
    And.intro (fun h3 => 
     And.intro (Or.inl rfl) (
     congrArg (mx_rI u) (show 0 = (xw_hasA a1 ) from ((xw_hasA_eq a1 ).trans (if_pos h3)).symm))) (fun h3 => 
     And.intro (fun h9 => 
      And.intro (Or.inr rfl) (
      congrArg (mx_rI u) (show 1 = (xw_hasA a1 ) from ((xw_hasA_eq a1 ).trans ((if_neg h3).trans (if_pos h9))).symm))) (fun h9 => 
      And.intro (fun h15 => 
       And.intro (Or.inl rfl) (
       congrArg (mx_rI u) (show 0 = (xw_hasA a1 ) from ((xw_hasA_eq a1 ).trans ((if_neg h3).trans ((if_neg h9).trans (if_pos h15)))).symm))) (fun h15 => 
       And.intro (Or.inr rfl) (
       congrArg (mx_rI u) (show 1 = (xw_hasA a1 ) from ((xw_hasA_eq a1 ).trans ((if_neg h3).trans ((if_neg h9).trans (if_neg h15)))).symm))))))
/-! WideMachine$Word.a(I)I -/
noncomputable def xw_a (a1 : Int32) : Int32 :=
  ((a1 >>> ((17 : Int32) &&& 31)) &&& (31 : Int32))
def pre_xw_a (np nd : Nat) : List mx_V → mx_S → Prop := fun as u => ∃ (a1 : Int32), as = [.inl a1] ∧ True
noncomputable def fn_xw_a (np nd : Nat) : mx_F := fun as u => match as with
  | [.inl a1] => mx_rI u (xw_a a1 )
  | _ => (none, u)
noncomputable def tb_xw_a (np nd : Nat) : List (Nat × mx_T) := [
  (0, mx_iload_n 0 0),
  (1, mx_bipush 17 1),
  (3, mx_ishr 3),
  (4, mx_bipush 31 4),
  (6, mx_iand 6),
  (7, mx_iret 7)]
set_option maxRecDepth 100000 in
set_option maxHeartbeats 4000000 in
theorem ok_xw_a (l : Launch) (np nd : Nat) : ∀ q ∈ tb_xw_a np nd , mx_Ok l ({ frames := 0, cells := 0, slots := 0, locals := 0 } : Room) b_xw_a 1 "WideMachine$Word" (some .int) vw_T vw_cl (kx np nd) q.1 q.2 := by
  refine List.forall_mem_cons.mpr ⟨mx_ok_iload_n (show decode b_xw_a 0 = .ok (.iload_n 0, 1) by decide +kernel) rfl, ?_⟩
  refine List.forall_mem_cons.mpr ⟨mx_ok_bipush (show decode b_xw_a 1 = .ok (.bipush 17, 2) by decide +kernel) (by decide), ?_⟩
  refine List.forall_mem_cons.mpr ⟨mx_ok_ishr (show decode b_xw_a 3 = .ok (.ishr, 1) by decide +kernel), ?_⟩
  refine List.forall_mem_cons.mpr ⟨mx_ok_bipush (show decode b_xw_a 4 = .ok (.bipush 31, 2) by decide +kernel) (by decide), ?_⟩
  refine List.forall_mem_cons.mpr ⟨mx_ok_iand (show decode b_xw_a 6 = .ok (.iand, 1) by decide +kernel), ?_⟩
  refine List.forall_mem_cons.mpr ⟨mx_ok_iret (show decode b_xw_a 7 = .ok (.ireturn, 1) by decide +kernel) rfl, ?_⟩
  exact fun _ h => absurd h List.not_mem_nil
set_option maxRecDepth 100000 in
set_option maxHeartbeats 4000000 in
theorem ct_xw_a (l : Launch) (np nd : Nat) : mx_Ct l vw_T vw_cl (kx np nd) { frames := 0, cells := 0, slots := 0, locals := 0 } y_xw_a b_xw_a 1 (some .int) (pre_xw_a np nd) (fn_xw_a np nd) := by
  refine mx_ct_of (tb_xw_a np nd ) (by decide) (ok_xw_a l np nd ) (fun as u h => by obtain ⟨_, rfl, -⟩ := h; exact Nat.le_of_ble_eq_true rfl) ?_
  intro as u hpre At hc hw
  obtain ⟨a1, rfl, hp⟩ := hpre
  exact hc 200 [] _ _ _ _ (
    congrArg (mx_rI u) (show ((a1 >>> ((17 : Int32) &&& 31)) &&& (31 : Int32)) = (xw_a a1 ) from (rfl).symm))
theorem xw_a_in (w : Int32) : vp_in (xw_a w) 32 := pk_andIn _ 5 (by decide) (by decide)
/-! WideMachine$Word.isIllFormed(I)Z -/
noncomputable def xw_isIllFormed_b (a1 : Int32) : Int32 :=
  if 5 < ((a1 >>> ((1 : Int32) &&& 31)) &&& (7 : Int32)) then
   1
  else
   if ((a1 >>> ((1 : Int32) &&& 31)) &&& (7 : Int32)) = 0 then
    if (xw_isOnZero a1 ) = 0 then
     if (xw_isOperation (xw_code a1 ) ) = 0 then
      1
     else
      if (a1.toUInt32 >>> ((28 : Int32).toUInt32 &&& Int32.toUInt32 31)).toInt32 = 0 then
       if (xw_hasD (xw_code a1 ) ) = 0 then
        if (xw_hasA (xw_code a1 ) ) = 0 then
         0
        else
         if ((xw_a a1 ) >>> ((4 : Int32) &&& 31)) = (xw_side a1 ) then
          0
         else
          1
       else
        if ((xw_d a1 ) >>> ((4 : Int32) &&& 31)) = (xw_side a1 ) then
         if (xw_hasA (xw_code a1 ) ) = 0 then
          0
         else
          if ((xw_a a1 ) >>> ((4 : Int32) &&& 31)) = (xw_side a1 ) then
           0
          else
           1
        else
         1
      else
       if (xw_hasLongNumber (xw_code a1 ) ) = 0 then
        1
       else
        if (xw_hasD (xw_code a1 ) ) = 0 then
         if (xw_hasA (xw_code a1 ) ) = 0 then
          0
         else
          if ((xw_a a1 ) >>> ((4 : Int32) &&& 31)) = (xw_side a1 ) then
           0
          else
           1
        else
         if ((xw_d a1 ) >>> ((4 : Int32) &&& 31)) = (xw_side a1 ) then
          if (xw_hasA (xw_code a1 ) ) = 0 then
           0
          else
           if ((xw_a a1 ) >>> ((4 : Int32) &&& 31)) = (xw_side a1 ) then
            0
           else
            1
         else
          1
    else
     1
   else
    if (xw_isOperation (xw_code a1 ) ) = 0 then
     1
    else
     if (a1.toUInt32 >>> ((28 : Int32).toUInt32 &&& Int32.toUInt32 31)).toInt32 = 0 then
      if (xw_hasD (xw_code a1 ) ) = 0 then
       if (xw_hasA (xw_code a1 ) ) = 0 then
        0
       else
        if ((xw_a a1 ) >>> ((4 : Int32) &&& 31)) = (xw_side a1 ) then
         0
        else
         1
      else
       if ((xw_d a1 ) >>> ((4 : Int32) &&& 31)) = (xw_side a1 ) then
        if (xw_hasA (xw_code a1 ) ) = 0 then
         0
        else
         if ((xw_a a1 ) >>> ((4 : Int32) &&& 31)) = (xw_side a1 ) then
          0
         else
          1
       else
        1
     else
      if (xw_hasLongNumber (xw_code a1 ) ) = 0 then
       1
      else
       if (xw_hasD (xw_code a1 ) ) = 0 then
        if (xw_hasA (xw_code a1 ) ) = 0 then
         0
        else
         if ((xw_a a1 ) >>> ((4 : Int32) &&& 31)) = (xw_side a1 ) then
          0
         else
          1
       else
        if ((xw_d a1 ) >>> ((4 : Int32) &&& 31)) = (xw_side a1 ) then
         if (xw_hasA (xw_code a1 ) ) = 0 then
          0
         else
          if ((xw_a a1 ) >>> ((4 : Int32) &&& 31)) = (xw_side a1 ) then
           0
          else
           1
        else
         1
theorem xw_isIllFormed_ex : ∃ f : Int32 → (Int32), f = xw_isIllFormed_b := ⟨_, rfl⟩
noncomputable def xw_isIllFormed : Int32 → (Int32) := Classical.choose xw_isIllFormed_ex
theorem xw_isIllFormed_eq (a1 : Int32) : (xw_isIllFormed a1 ) = (xw_isIllFormed_b a1 ) := by rw [show xw_isIllFormed = xw_isIllFormed_b from Classical.choose_spec xw_isIllFormed_ex]
def pre_xw_isIllFormed (np nd : Nat) : List mx_V → mx_S → Prop := fun as u => ∃ (a1 : Int32), as = [.inl a1] ∧ True
noncomputable def fn_xw_isIllFormed (np nd : Nat) : mx_F := fun as u => match as with
  | [.inl a1] => mx_rI u (xw_isIllFormed a1 )
  | _ => (none, u)
noncomputable def tb_xw_isIllFormed (np nd : Nat) : List (Nat × mx_T) := [
  (0, mx_iload_n 0 0),
  (1, mx_invS 1 (pre_xw_code np nd) (fn_xw_code np nd) 1),
  (4, mx_istore_n 1 4),
  (5, mx_iload_n 0 5),
  (6, mx_iconst 1 6),
  (7, mx_ishr 7),
  (8, mx_bipush 7 8),
  (10, mx_iand 10),
  (11, mx_istore_n 2 11),
  (12, mx_iload_n 2 12),
  (13, mx_iconst 5 13),
  (14, mx_icmp_gt 28 14),
  (17, mx_iload_n 2 17),
  (18, mx_if_ne 30 18),
  (21, mx_iload_n 0 21),
  (22, mx_invS 1 (pre_xw_isOnZero np nd) (fn_xw_isOnZero np nd) 22),
  (25, mx_if_eq 30 25),
  (28, mx_iconst 1 28),
  (29, mx_zret 29),
  (30, mx_iload_n 1 30),
  (31, mx_invS 1 (pre_xw_isOperation np nd) (fn_xw_isOperation np nd) 31),
  (34, mx_if_eq 51 34),
  (37, mx_iload_n 0 37),
  (38, mx_bipush 28 38),
  (40, mx_iushr 40),
  (41, mx_if_eq 53 41),
  (44, mx_iload_n 1 44),
  (45, mx_invS 1 (pre_xw_hasLongNumber np nd) (fn_xw_hasLongNumber np nd) 45),
  (48, mx_if_ne 53 48),
  (51, mx_iconst 1 51),
  (52, mx_zret 52),
  (53, mx_iload_n 1 53),
  (54, mx_invS 1 (pre_xw_hasD np nd) (fn_xw_hasD np nd) 54),
  (57, mx_if_eq 73 57),
  (60, mx_iload_n 0 60),
  (61, mx_invS 1 (pre_xw_d np nd) (fn_xw_d np nd) 61),
  (64, mx_iconst 4 64),
  (65, mx_ishr 65),
  (66, mx_iload_n 0 66),
  (67, mx_invS 1 (pre_xw_side np nd) (fn_xw_side np nd) 67),
  (70, mx_icmp_ne 93 70),
  (73, mx_iload_n 1 73),
  (74, mx_invS 1 (pre_xw_hasA np nd) (fn_xw_hasA np nd) 74),
  (77, mx_if_eq 97 77),
  (80, mx_iload_n 0 80),
  (81, mx_invS 1 (pre_xw_a np nd) (fn_xw_a np nd) 81),
  (84, mx_iconst 4 84),
  (85, mx_ishr 85),
  (86, mx_iload_n 0 86),
  (87, mx_invS 1 (pre_xw_side np nd) (fn_xw_side np nd) 87),
  (90, mx_icmp_eq 97 90),
  (93, mx_iconst 1 93),
  (94, mx_goto 98 94),
  (97, mx_iconst 0 97),
  (98, mx_zret 98)]
set_option maxRecDepth 100000 in
set_option maxHeartbeats 4000000 in
theorem ok_xw_isIllFormed (l : Launch) (np nd : Nat) : ∀ q ∈ tb_xw_isIllFormed np nd , mx_Ok l ({ frames := 1, cells := 0, slots := 0, locals := 20 } : Room) b_xw_isIllFormed 3 "WideMachine$Word" (some .boolean) vw_T vw_cl (kx np nd) q.1 q.2 := by
  refine List.forall_mem_cons.mpr ⟨mx_ok_iload_n (show decode b_xw_isIllFormed 0 = .ok (.iload_n 0, 1) by decide +kernel) rfl, ?_⟩
  refine List.forall_mem_cons.mpr ⟨mx_ok_invS vw_G (ct_xw_code l np nd) ⟨vm_99, vm_100, vm_97, ⟨by decide +kernel, by decide +kernel, by decide +kernel⟩, ⟨by decide, by decide⟩, rfl, rfl⟩ vm_101 (show decode b_xw_isIllFormed 1 = .ok (.invokestatic 9, 3) by decide +kernel), ?_⟩
  refine List.forall_mem_cons.mpr ⟨mx_ok_istore_n (show decode b_xw_isIllFormed 4 = .ok (.istore_n 1, 1) by decide +kernel) rfl (by decide), ?_⟩
  refine List.forall_mem_cons.mpr ⟨mx_ok_iload_n (show decode b_xw_isIllFormed 5 = .ok (.iload_n 0, 1) by decide +kernel) rfl, ?_⟩
  refine List.forall_mem_cons.mpr ⟨mx_ok_iconst (show decode b_xw_isIllFormed 6 = .ok (.iconst 1, 1) by decide +kernel) (by decide), ?_⟩
  refine List.forall_mem_cons.mpr ⟨mx_ok_ishr (show decode b_xw_isIllFormed 7 = .ok (.ishr, 1) by decide +kernel), ?_⟩
  refine List.forall_mem_cons.mpr ⟨mx_ok_bipush (show decode b_xw_isIllFormed 8 = .ok (.bipush 7, 2) by decide +kernel) (by decide), ?_⟩
  refine List.forall_mem_cons.mpr ⟨mx_ok_iand (show decode b_xw_isIllFormed 10 = .ok (.iand, 1) by decide +kernel), ?_⟩
  refine List.forall_mem_cons.mpr ⟨mx_ok_istore_n (show decode b_xw_isIllFormed 11 = .ok (.istore_n 2, 1) by decide +kernel) rfl (by decide), ?_⟩
  refine List.forall_mem_cons.mpr ⟨mx_ok_iload_n (show decode b_xw_isIllFormed 12 = .ok (.iload_n 2, 1) by decide +kernel) rfl, ?_⟩
  refine List.forall_mem_cons.mpr ⟨mx_ok_iconst (show decode b_xw_isIllFormed 13 = .ok (.iconst 5, 1) by decide +kernel) (by decide), ?_⟩
  refine List.forall_mem_cons.mpr ⟨mx_ok_icmp_gt (show decode b_xw_isIllFormed 14 = .ok (.if_icmp .gt 14, 3) by decide +kernel) (by decide), ?_⟩
  refine List.forall_mem_cons.mpr ⟨mx_ok_iload_n (show decode b_xw_isIllFormed 17 = .ok (.iload_n 2, 1) by decide +kernel) rfl, ?_⟩
  refine List.forall_mem_cons.mpr ⟨mx_ok_if_ne (show decode b_xw_isIllFormed 18 = .ok (.ifCond .ne 12, 3) by decide +kernel) (by decide), ?_⟩
  refine List.forall_mem_cons.mpr ⟨mx_ok_iload_n (show decode b_xw_isIllFormed 21 = .ok (.iload_n 0, 1) by decide +kernel) rfl, ?_⟩
  refine List.forall_mem_cons.mpr ⟨mx_ok_invS vw_G (ct_xw_isOnZero l np nd) ⟨vm_102, vm_103, vm_97, ⟨by decide +kernel, by decide +kernel, by decide +kernel⟩, ⟨by decide, by decide⟩, rfl, rfl⟩ vm_104 (show decode b_xw_isIllFormed 22 = .ok (.invokestatic 18, 3) by decide +kernel), ?_⟩
  refine List.forall_mem_cons.mpr ⟨mx_ok_if_eq (show decode b_xw_isIllFormed 25 = .ok (.ifCond .eq 5, 3) by decide +kernel) (by decide), ?_⟩
  refine List.forall_mem_cons.mpr ⟨mx_ok_iconst (show decode b_xw_isIllFormed 28 = .ok (.iconst 1, 1) by decide +kernel) (by decide), ?_⟩
  refine List.forall_mem_cons.mpr ⟨mx_ok_zret (show decode b_xw_isIllFormed 29 = .ok (.ireturn, 1) by decide +kernel) rfl, ?_⟩
  refine List.forall_mem_cons.mpr ⟨mx_ok_iload_n (show decode b_xw_isIllFormed 30 = .ok (.iload_n 1, 1) by decide +kernel) rfl, ?_⟩
  refine List.forall_mem_cons.mpr ⟨mx_ok_invS vw_G (ct_xw_isOperation l np nd) ⟨vm_105, vm_106, vm_97, ⟨by decide +kernel, by decide +kernel, by decide +kernel⟩, ⟨by decide, by decide⟩, rfl, rfl⟩ vm_107 (show decode b_xw_isIllFormed 31 = .ok (.invokestatic 22, 3) by decide +kernel), ?_⟩
  refine List.forall_mem_cons.mpr ⟨mx_ok_if_eq (show decode b_xw_isIllFormed 34 = .ok (.ifCond .eq 17, 3) by decide +kernel) (by decide), ?_⟩
  refine List.forall_mem_cons.mpr ⟨mx_ok_iload_n (show decode b_xw_isIllFormed 37 = .ok (.iload_n 0, 1) by decide +kernel) rfl, ?_⟩
  refine List.forall_mem_cons.mpr ⟨mx_ok_bipush (show decode b_xw_isIllFormed 38 = .ok (.bipush 28, 2) by decide +kernel) (by decide), ?_⟩
  refine List.forall_mem_cons.mpr ⟨mx_ok_iushr (show decode b_xw_isIllFormed 40 = .ok (.iushr, 1) by decide +kernel), ?_⟩
  refine List.forall_mem_cons.mpr ⟨mx_ok_if_eq (show decode b_xw_isIllFormed 41 = .ok (.ifCond .eq 12, 3) by decide +kernel) (by decide), ?_⟩
  refine List.forall_mem_cons.mpr ⟨mx_ok_iload_n (show decode b_xw_isIllFormed 44 = .ok (.iload_n 1, 1) by decide +kernel) rfl, ?_⟩
  refine List.forall_mem_cons.mpr ⟨mx_ok_invS vw_G (ct_xw_hasLongNumber l np nd) ⟨vm_108, vm_109, vm_97, ⟨by decide +kernel, by decide +kernel, by decide +kernel⟩, ⟨by decide, by decide⟩, rfl, rfl⟩ vm_110 (show decode b_xw_isIllFormed 45 = .ok (.invokestatic 25, 3) by decide +kernel), ?_⟩
  refine List.forall_mem_cons.mpr ⟨mx_ok_if_ne (show decode b_xw_isIllFormed 48 = .ok (.ifCond .ne 5, 3) by decide +kernel) (by decide), ?_⟩
  refine List.forall_mem_cons.mpr ⟨mx_ok_iconst (show decode b_xw_isIllFormed 51 = .ok (.iconst 1, 1) by decide +kernel) (by decide), ?_⟩
  refine List.forall_mem_cons.mpr ⟨mx_ok_zret (show decode b_xw_isIllFormed 52 = .ok (.ireturn, 1) by decide +kernel) rfl, ?_⟩
  refine List.forall_mem_cons.mpr ⟨mx_ok_iload_n (show decode b_xw_isIllFormed 53 = .ok (.iload_n 1, 1) by decide +kernel) rfl, ?_⟩
  refine List.forall_mem_cons.mpr ⟨mx_ok_invS vw_G (ct_xw_hasD l np nd) ⟨vm_111, vm_112, vm_97, ⟨by decide +kernel, by decide +kernel, by decide +kernel⟩, ⟨by decide, by decide⟩, rfl, rfl⟩ vm_113 (show decode b_xw_isIllFormed 54 = .ok (.invokestatic 28, 3) by decide +kernel), ?_⟩
  refine List.forall_mem_cons.mpr ⟨mx_ok_if_eq (show decode b_xw_isIllFormed 57 = .ok (.ifCond .eq 16, 3) by decide +kernel) (by decide), ?_⟩
  refine List.forall_mem_cons.mpr ⟨mx_ok_iload_n (show decode b_xw_isIllFormed 60 = .ok (.iload_n 0, 1) by decide +kernel) rfl, ?_⟩
  refine List.forall_mem_cons.mpr ⟨mx_ok_invS vw_G (ct_xw_d l np nd) ⟨vm_114, vm_115, vm_97, ⟨by decide +kernel, by decide +kernel, by decide +kernel⟩, ⟨by decide, by decide⟩, rfl, rfl⟩ vm_116 (show decode b_xw_isIllFormed 61 = .ok (.invokestatic 31, 3) by decide +kernel), ?_⟩
  refine List.forall_mem_cons.mpr ⟨mx_ok_iconst (show decode b_xw_isIllFormed 64 = .ok (.iconst 4, 1) by decide +kernel) (by decide), ?_⟩
  refine List.forall_mem_cons.mpr ⟨mx_ok_ishr (show decode b_xw_isIllFormed 65 = .ok (.ishr, 1) by decide +kernel), ?_⟩
  refine List.forall_mem_cons.mpr ⟨mx_ok_iload_n (show decode b_xw_isIllFormed 66 = .ok (.iload_n 0, 1) by decide +kernel) rfl, ?_⟩
  refine List.forall_mem_cons.mpr ⟨mx_ok_invS vw_G (ct_xw_side l np nd) ⟨vm_117, vm_118, vm_97, ⟨by decide +kernel, by decide +kernel, by decide +kernel⟩, ⟨by decide, by decide⟩, rfl, rfl⟩ vm_119 (show decode b_xw_isIllFormed 67 = .ok (.invokestatic 34, 3) by decide +kernel), ?_⟩
  refine List.forall_mem_cons.mpr ⟨mx_ok_icmp_ne (show decode b_xw_isIllFormed 70 = .ok (.if_icmp .ne 23, 3) by decide +kernel) (by decide), ?_⟩
  refine List.forall_mem_cons.mpr ⟨mx_ok_iload_n (show decode b_xw_isIllFormed 73 = .ok (.iload_n 1, 1) by decide +kernel) rfl, ?_⟩
  refine List.forall_mem_cons.mpr ⟨mx_ok_invS vw_G (ct_xw_hasA l np nd) ⟨vm_120, vm_121, vm_97, ⟨by decide +kernel, by decide +kernel, by decide +kernel⟩, ⟨by decide, by decide⟩, rfl, rfl⟩ vm_122 (show decode b_xw_isIllFormed 74 = .ok (.invokestatic 37, 3) by decide +kernel), ?_⟩
  refine List.forall_mem_cons.mpr ⟨mx_ok_if_eq (show decode b_xw_isIllFormed 77 = .ok (.ifCond .eq 20, 3) by decide +kernel) (by decide), ?_⟩
  refine List.forall_mem_cons.mpr ⟨mx_ok_iload_n (show decode b_xw_isIllFormed 80 = .ok (.iload_n 0, 1) by decide +kernel) rfl, ?_⟩
  refine List.forall_mem_cons.mpr ⟨mx_ok_invS vw_G (ct_xw_a l np nd) ⟨vm_123, vm_124, vm_97, ⟨by decide +kernel, by decide +kernel, by decide +kernel⟩, ⟨by decide, by decide⟩, rfl, rfl⟩ vm_125 (show decode b_xw_isIllFormed 81 = .ok (.invokestatic 40, 3) by decide +kernel), ?_⟩
  refine List.forall_mem_cons.mpr ⟨mx_ok_iconst (show decode b_xw_isIllFormed 84 = .ok (.iconst 4, 1) by decide +kernel) (by decide), ?_⟩
  refine List.forall_mem_cons.mpr ⟨mx_ok_ishr (show decode b_xw_isIllFormed 85 = .ok (.ishr, 1) by decide +kernel), ?_⟩
  refine List.forall_mem_cons.mpr ⟨mx_ok_iload_n (show decode b_xw_isIllFormed 86 = .ok (.iload_n 0, 1) by decide +kernel) rfl, ?_⟩
  refine List.forall_mem_cons.mpr ⟨mx_ok_invS vw_G (ct_xw_side l np nd) ⟨vm_117, vm_118, vm_97, ⟨by decide +kernel, by decide +kernel, by decide +kernel⟩, ⟨by decide, by decide⟩, rfl, rfl⟩ vm_119 (show decode b_xw_isIllFormed 87 = .ok (.invokestatic 34, 3) by decide +kernel), ?_⟩
  refine List.forall_mem_cons.mpr ⟨mx_ok_icmp_eq (show decode b_xw_isIllFormed 90 = .ok (.if_icmp .eq 7, 3) by decide +kernel) (by decide), ?_⟩
  refine List.forall_mem_cons.mpr ⟨mx_ok_iconst (show decode b_xw_isIllFormed 93 = .ok (.iconst 1, 1) by decide +kernel) (by decide), ?_⟩
  refine List.forall_mem_cons.mpr ⟨mx_ok_goto (show decode b_xw_isIllFormed 94 = .ok (.goto 4, 3) by decide +kernel) (by decide), ?_⟩
  refine List.forall_mem_cons.mpr ⟨mx_ok_iconst (show decode b_xw_isIllFormed 97 = .ok (.iconst 0, 1) by decide +kernel) (by decide), ?_⟩
  refine List.forall_mem_cons.mpr ⟨mx_ok_zret (show decode b_xw_isIllFormed 98 = .ok (.ireturn, 1) by decide +kernel) rfl, ?_⟩
  exact fun _ h => absurd h List.not_mem_nil
set_option maxRecDepth 100000 in
set_option maxHeartbeats 4000000 in
theorem ct_xw_isIllFormed (l : Launch) (np nd : Nat) : mx_Ct l vw_T vw_cl (kx np nd) { frames := 1, cells := 0, slots := 0, locals := 20 } y_xw_isIllFormed b_xw_isIllFormed 3 (some .boolean) (pre_xw_isIllFormed np nd) (fn_xw_isIllFormed np nd) := by
  refine mx_ct_of (tb_xw_isIllFormed np nd ) (by decide) (ok_xw_isIllFormed l np nd ) (fun as u h => by obtain ⟨_, rfl, -⟩ := h; exact Nat.le_of_ble_eq_true rfl) ?_
  intro as u hpre At hc hw
  obtain ⟨a1, rfl, hp⟩ := hpre
  exact hc 200 [] _ _ _ _ (
    And.intro rfl (
    And.intro ⟨_, rfl, trivial⟩ (
    And.intro (fun h14 => 
     And.intro (Or.inr rfl) (
     congrArg (mx_rI u) (show 1 = (xw_isIllFormed a1 ) from ((xw_isIllFormed_eq a1 ).trans (if_pos h14)).symm))) (fun h14 => 
     And.intro (fun h18 => 
      And.intro rfl (
      And.intro ⟨_, rfl, trivial⟩ (
      And.intro (fun h34 => 
       And.intro (Or.inr rfl) (
       congrArg (mx_rI u) (show 1 = (xw_isIllFormed a1 ) from ((xw_isIllFormed_eq a1 ).trans ((if_neg h14).trans ((if_neg h18).trans (if_pos h34)))).symm))) (fun h34 => 
       And.intro (fun h41 => 
        And.intro rfl (
        And.intro ⟨_, rfl, trivial⟩ (
        And.intro (fun h57 => 
         And.intro rfl (
         And.intro ⟨_, rfl, trivial⟩ (
         And.intro (fun h77 => 
          And.intro (Or.inl rfl) (
          congrArg (mx_rI u) (show 0 = (xw_isIllFormed a1 ) from ((xw_isIllFormed_eq a1 ).trans ((if_neg h14).trans ((if_neg h18).trans ((if_neg h34).trans ((if_pos h41).trans ((if_pos h57).trans (if_pos h77))))))).symm))) (fun h77 => 
          And.intro rfl (
          And.intro ⟨_, rfl, trivial⟩ (
          And.intro rfl (
          And.intro ⟨_, rfl, trivial⟩ (
          And.intro (fun h90 => 
           And.intro (Or.inl rfl) (
           congrArg (mx_rI u) (show 0 = (xw_isIllFormed a1 ) from ((xw_isIllFormed_eq a1 ).trans ((if_neg h14).trans ((if_neg h18).trans ((if_neg h34).trans ((if_pos h41).trans ((if_pos h57).trans ((if_neg h77).trans (if_pos h90)))))))).symm))) (fun h90 => 
           And.intro (Or.inr rfl) (
           congrArg (mx_rI u) (show 1 = (xw_isIllFormed a1 ) from ((xw_isIllFormed_eq a1 ).trans ((if_neg h14).trans ((if_neg h18).trans ((if_neg h34).trans ((if_pos h41).trans ((if_pos h57).trans ((if_neg h77).trans (if_neg h90)))))))).symm))))))))))) (fun h57 => 
         And.intro rfl (
         And.intro ⟨_, rfl, trivial⟩ (
         And.intro rfl (
         And.intro ⟨_, rfl, trivial⟩ (
         And.intro (fun h70 => 
          And.intro (Or.inr rfl) (
          congrArg (mx_rI u) (show 1 = (xw_isIllFormed a1 ) from ((xw_isIllFormed_eq a1 ).trans ((if_neg h14).trans ((if_neg h18).trans ((if_neg h34).trans ((if_pos h41).trans ((if_neg h57).trans (if_neg h70))))))).symm))) (fun h70 => 
          And.intro rfl (
          And.intro ⟨_, rfl, trivial⟩ (
          And.intro (fun h77 => 
           And.intro (Or.inl rfl) (
           congrArg (mx_rI u) (show 0 = (xw_isIllFormed a1 ) from ((xw_isIllFormed_eq a1 ).trans ((if_neg h14).trans ((if_neg h18).trans ((if_neg h34).trans ((if_pos h41).trans ((if_neg h57).trans ((if_pos h70).trans (if_pos h77)))))))).symm))) (fun h77 => 
           And.intro rfl (
           And.intro ⟨_, rfl, trivial⟩ (
           And.intro rfl (
           And.intro ⟨_, rfl, trivial⟩ (
           And.intro (fun h90 => 
            And.intro (Or.inl rfl) (
            congrArg (mx_rI u) (show 0 = (xw_isIllFormed a1 ) from ((xw_isIllFormed_eq a1 ).trans ((if_neg h14).trans ((if_neg h18).trans ((if_neg h34).trans ((if_pos h41).trans ((if_neg h57).trans ((if_pos h70).trans ((if_neg h77).trans (if_pos h90))))))))).symm))) (fun h90 => 
            And.intro (Or.inr rfl) (
            congrArg (mx_rI u) (show 1 = (xw_isIllFormed a1 ) from ((xw_isIllFormed_eq a1 ).trans ((if_neg h14).trans ((if_neg h18).trans ((if_neg h34).trans ((if_pos h41).trans ((if_neg h57).trans ((if_pos h70).trans ((if_neg h77).trans (if_neg h90))))))))).symm))))))))))))))))))) (fun h41 => 
        And.intro rfl (
        And.intro ⟨_, rfl, trivial⟩ (
        And.intro (fun h48 => 
         And.intro rfl (
         And.intro ⟨_, rfl, trivial⟩ (
         And.intro (fun h57 => 
          And.intro rfl (
          And.intro ⟨_, rfl, trivial⟩ (
          And.intro (fun h77 => 
           And.intro (Or.inl rfl) (
           congrArg (mx_rI u) (show 0 = (xw_isIllFormed a1 ) from ((xw_isIllFormed_eq a1 ).trans ((if_neg h14).trans ((if_neg h18).trans ((if_neg h34).trans ((if_neg h41).trans ((if_neg h48).trans ((if_pos h57).trans (if_pos h77)))))))).symm))) (fun h77 => 
           And.intro rfl (
           And.intro ⟨_, rfl, trivial⟩ (
           And.intro rfl (
           And.intro ⟨_, rfl, trivial⟩ (
           And.intro (fun h90 => 
            And.intro (Or.inl rfl) (
            congrArg (mx_rI u) (show 0 = (xw_isIllFormed a1 ) from ((xw_isIllFormed_eq a1 ).trans ((if_neg h14).trans ((if_neg h18).trans ((if_neg h34).trans ((if_neg h41).trans ((if_neg h48).trans ((if_pos h57).trans ((if_neg h77).trans (if_pos h90))))))))).symm))) (fun h90 => 
            And.intro (Or.inr rfl) (
            congrArg (mx_rI u) (show 1 = (xw_isIllFormed a1 ) from ((xw_isIllFormed_eq a1 ).trans ((if_neg h14).trans ((if_neg h18).trans ((if_neg h34).trans ((if_neg h41).trans ((if_neg h48).trans ((if_pos h57).trans ((if_neg h77).trans (if_neg h90))))))))).symm))))))))))) (fun h57 => 
          And.intro rfl (
          And.intro ⟨_, rfl, trivial⟩ (
          And.intro rfl (
          And.intro ⟨_, rfl, trivial⟩ (
          And.intro (fun h70 => 
           And.intro (Or.inr rfl) (
           congrArg (mx_rI u) (show 1 = (xw_isIllFormed a1 ) from ((xw_isIllFormed_eq a1 ).trans ((if_neg h14).trans ((if_neg h18).trans ((if_neg h34).trans ((if_neg h41).trans ((if_neg h48).trans ((if_neg h57).trans (if_neg h70)))))))).symm))) (fun h70 => 
           And.intro rfl (
           And.intro ⟨_, rfl, trivial⟩ (
           And.intro (fun h77 => 
            And.intro (Or.inl rfl) (
            congrArg (mx_rI u) (show 0 = (xw_isIllFormed a1 ) from ((xw_isIllFormed_eq a1 ).trans ((if_neg h14).trans ((if_neg h18).trans ((if_neg h34).trans ((if_neg h41).trans ((if_neg h48).trans ((if_neg h57).trans ((if_pos h70).trans (if_pos h77))))))))).symm))) (fun h77 => 
            And.intro rfl (
            And.intro ⟨_, rfl, trivial⟩ (
            And.intro rfl (
            And.intro ⟨_, rfl, trivial⟩ (
            And.intro (fun h90 => 
             And.intro (Or.inl rfl) (
             congrArg (mx_rI u) (show 0 = (xw_isIllFormed a1 ) from ((xw_isIllFormed_eq a1 ).trans ((if_neg h14).trans ((if_neg h18).trans ((if_neg h34).trans ((if_neg h41).trans ((if_neg h48).trans ((if_neg h57).trans ((if_pos h70).trans ((if_neg h77).trans (if_pos h90)))))))))).symm))) (fun h90 => 
             And.intro (Or.inr rfl) (
             congrArg (mx_rI u) (show 1 = (xw_isIllFormed a1 ) from ((xw_isIllFormed_eq a1 ).trans ((if_neg h14).trans ((if_neg h18).trans ((if_neg h34).trans ((if_neg h41).trans ((if_neg h48).trans ((if_neg h57).trans ((if_pos h70).trans ((if_neg h77).trans (if_neg h90)))))))))).symm))))))))))))))))))) (fun h48 => 
         And.intro (Or.inr rfl) (
         congrArg (mx_rI u) (show 1 = (xw_isIllFormed a1 ) from ((xw_isIllFormed_eq a1 ).trans ((if_neg h14).trans ((if_neg h18).trans ((if_neg h34).trans ((if_neg h41).trans (if_pos h48)))))).symm)))))))))) (fun h18 => 
      And.intro rfl (
      And.intro ⟨_, rfl, trivial⟩ (
      And.intro (fun h25 => 
       And.intro rfl (
       And.intro ⟨_, rfl, trivial⟩ (
       And.intro (fun h34 => 
        And.intro (Or.inr rfl) (
        congrArg (mx_rI u) (show 1 = (xw_isIllFormed a1 ) from ((xw_isIllFormed_eq a1 ).trans ((if_neg h14).trans ((if_pos h18).trans ((if_pos h25).trans (if_pos h34))))).symm))) (fun h34 => 
        And.intro (fun h41 => 
         And.intro rfl (
         And.intro ⟨_, rfl, trivial⟩ (
         And.intro (fun h57 => 
          And.intro rfl (
          And.intro ⟨_, rfl, trivial⟩ (
          And.intro (fun h77 => 
           And.intro (Or.inl rfl) (
           congrArg (mx_rI u) (show 0 = (xw_isIllFormed a1 ) from ((xw_isIllFormed_eq a1 ).trans ((if_neg h14).trans ((if_pos h18).trans ((if_pos h25).trans ((if_neg h34).trans ((if_pos h41).trans ((if_pos h57).trans (if_pos h77)))))))).symm))) (fun h77 => 
           And.intro rfl (
           And.intro ⟨_, rfl, trivial⟩ (
           And.intro rfl (
           And.intro ⟨_, rfl, trivial⟩ (
           And.intro (fun h90 => 
            And.intro (Or.inl rfl) (
            congrArg (mx_rI u) (show 0 = (xw_isIllFormed a1 ) from ((xw_isIllFormed_eq a1 ).trans ((if_neg h14).trans ((if_pos h18).trans ((if_pos h25).trans ((if_neg h34).trans ((if_pos h41).trans ((if_pos h57).trans ((if_neg h77).trans (if_pos h90))))))))).symm))) (fun h90 => 
            And.intro (Or.inr rfl) (
            congrArg (mx_rI u) (show 1 = (xw_isIllFormed a1 ) from ((xw_isIllFormed_eq a1 ).trans ((if_neg h14).trans ((if_pos h18).trans ((if_pos h25).trans ((if_neg h34).trans ((if_pos h41).trans ((if_pos h57).trans ((if_neg h77).trans (if_neg h90))))))))).symm))))))))))) (fun h57 => 
          And.intro rfl (
          And.intro ⟨_, rfl, trivial⟩ (
          And.intro rfl (
          And.intro ⟨_, rfl, trivial⟩ (
          And.intro (fun h70 => 
           And.intro (Or.inr rfl) (
           congrArg (mx_rI u) (show 1 = (xw_isIllFormed a1 ) from ((xw_isIllFormed_eq a1 ).trans ((if_neg h14).trans ((if_pos h18).trans ((if_pos h25).trans ((if_neg h34).trans ((if_pos h41).trans ((if_neg h57).trans (if_neg h70)))))))).symm))) (fun h70 => 
           And.intro rfl (
           And.intro ⟨_, rfl, trivial⟩ (
           And.intro (fun h77 => 
            And.intro (Or.inl rfl) (
            congrArg (mx_rI u) (show 0 = (xw_isIllFormed a1 ) from ((xw_isIllFormed_eq a1 ).trans ((if_neg h14).trans ((if_pos h18).trans ((if_pos h25).trans ((if_neg h34).trans ((if_pos h41).trans ((if_neg h57).trans ((if_pos h70).trans (if_pos h77))))))))).symm))) (fun h77 => 
            And.intro rfl (
            And.intro ⟨_, rfl, trivial⟩ (
            And.intro rfl (
            And.intro ⟨_, rfl, trivial⟩ (
            And.intro (fun h90 => 
             And.intro (Or.inl rfl) (
             congrArg (mx_rI u) (show 0 = (xw_isIllFormed a1 ) from ((xw_isIllFormed_eq a1 ).trans ((if_neg h14).trans ((if_pos h18).trans ((if_pos h25).trans ((if_neg h34).trans ((if_pos h41).trans ((if_neg h57).trans ((if_pos h70).trans ((if_neg h77).trans (if_pos h90)))))))))).symm))) (fun h90 => 
             And.intro (Or.inr rfl) (
             congrArg (mx_rI u) (show 1 = (xw_isIllFormed a1 ) from ((xw_isIllFormed_eq a1 ).trans ((if_neg h14).trans ((if_pos h18).trans ((if_pos h25).trans ((if_neg h34).trans ((if_pos h41).trans ((if_neg h57).trans ((if_pos h70).trans ((if_neg h77).trans (if_neg h90)))))))))).symm))))))))))))))))))) (fun h41 => 
         And.intro rfl (
         And.intro ⟨_, rfl, trivial⟩ (
         And.intro (fun h48 => 
          And.intro rfl (
          And.intro ⟨_, rfl, trivial⟩ (
          And.intro (fun h57 => 
           And.intro rfl (
           And.intro ⟨_, rfl, trivial⟩ (
           And.intro (fun h77 => 
            And.intro (Or.inl rfl) (
            congrArg (mx_rI u) (show 0 = (xw_isIllFormed a1 ) from ((xw_isIllFormed_eq a1 ).trans ((if_neg h14).trans ((if_pos h18).trans ((if_pos h25).trans ((if_neg h34).trans ((if_neg h41).trans ((if_neg h48).trans ((if_pos h57).trans (if_pos h77))))))))).symm))) (fun h77 => 
            And.intro rfl (
            And.intro ⟨_, rfl, trivial⟩ (
            And.intro rfl (
            And.intro ⟨_, rfl, trivial⟩ (
            And.intro (fun h90 => 
             And.intro (Or.inl rfl) (
             congrArg (mx_rI u) (show 0 = (xw_isIllFormed a1 ) from ((xw_isIllFormed_eq a1 ).trans ((if_neg h14).trans ((if_pos h18).trans ((if_pos h25).trans ((if_neg h34).trans ((if_neg h41).trans ((if_neg h48).trans ((if_pos h57).trans ((if_neg h77).trans (if_pos h90)))))))))).symm))) (fun h90 => 
             And.intro (Or.inr rfl) (
             congrArg (mx_rI u) (show 1 = (xw_isIllFormed a1 ) from ((xw_isIllFormed_eq a1 ).trans ((if_neg h14).trans ((if_pos h18).trans ((if_pos h25).trans ((if_neg h34).trans ((if_neg h41).trans ((if_neg h48).trans ((if_pos h57).trans ((if_neg h77).trans (if_neg h90)))))))))).symm))))))))))) (fun h57 => 
           And.intro rfl (
           And.intro ⟨_, rfl, trivial⟩ (
           And.intro rfl (
           And.intro ⟨_, rfl, trivial⟩ (
           And.intro (fun h70 => 
            And.intro (Or.inr rfl) (
            congrArg (mx_rI u) (show 1 = (xw_isIllFormed a1 ) from ((xw_isIllFormed_eq a1 ).trans ((if_neg h14).trans ((if_pos h18).trans ((if_pos h25).trans ((if_neg h34).trans ((if_neg h41).trans ((if_neg h48).trans ((if_neg h57).trans (if_neg h70))))))))).symm))) (fun h70 => 
            And.intro rfl (
            And.intro ⟨_, rfl, trivial⟩ (
            And.intro (fun h77 => 
             And.intro (Or.inl rfl) (
             congrArg (mx_rI u) (show 0 = (xw_isIllFormed a1 ) from ((xw_isIllFormed_eq a1 ).trans ((if_neg h14).trans ((if_pos h18).trans ((if_pos h25).trans ((if_neg h34).trans ((if_neg h41).trans ((if_neg h48).trans ((if_neg h57).trans ((if_pos h70).trans (if_pos h77)))))))))).symm))) (fun h77 => 
             And.intro rfl (
             And.intro ⟨_, rfl, trivial⟩ (
             And.intro rfl (
             And.intro ⟨_, rfl, trivial⟩ (
             And.intro (fun h90 => 
              And.intro (Or.inl rfl) (
              congrArg (mx_rI u) (show 0 = (xw_isIllFormed a1 ) from ((xw_isIllFormed_eq a1 ).trans ((if_neg h14).trans ((if_pos h18).trans ((if_pos h25).trans ((if_neg h34).trans ((if_neg h41).trans ((if_neg h48).trans ((if_neg h57).trans ((if_pos h70).trans ((if_neg h77).trans (if_pos h90))))))))))).symm))) (fun h90 => 
              And.intro (Or.inr rfl) (
              congrArg (mx_rI u) (show 1 = (xw_isIllFormed a1 ) from ((xw_isIllFormed_eq a1 ).trans ((if_neg h14).trans ((if_pos h18).trans ((if_pos h25).trans ((if_neg h34).trans ((if_neg h41).trans ((if_neg h48).trans ((if_neg h57).trans ((if_pos h70).trans ((if_neg h77).trans (if_neg h90))))))))))).symm))))))))))))))))))) (fun h48 => 
          And.intro (Or.inr rfl) (
          congrArg (mx_rI u) (show 1 = (xw_isIllFormed a1 ) from ((xw_isIllFormed_eq a1 ).trans ((if_neg h14).trans ((if_pos h18).trans ((if_pos h25).trans ((if_neg h34).trans ((if_neg h41).trans (if_pos h48))))))).symm)))))))))) (fun h25 => 
       And.intro (Or.inr rfl) (
       congrArg (mx_rI u) (show 1 = (xw_isIllFormed a1 ) from ((xw_isIllFormed_eq a1 ).trans ((if_neg h14).trans ((if_pos h18).trans (if_neg h25)))).symm))))))))))
/-! WideMachine$Word.unit(I)I -/
noncomputable def xw_unit (a1 : Int32) : Int32 :=
  ((a1 >>> ((5 : Int32) &&& 31)) &&& (7 : Int32))
def pre_xw_unit (np nd : Nat) : List mx_V → mx_S → Prop := fun as u => ∃ (a1 : Int32), as = [.inl a1] ∧ True
noncomputable def fn_xw_unit (np nd : Nat) : mx_F := fun as u => match as with
  | [.inl a1] => mx_rI u (xw_unit a1 )
  | _ => (none, u)
noncomputable def tb_xw_unit (np nd : Nat) : List (Nat × mx_T) := [
  (0, mx_iload_n 0 0),
  (1, mx_iconst 5 1),
  (2, mx_ishr 2),
  (3, mx_bipush 7 3),
  (5, mx_iand 5),
  (6, mx_iret 6)]
set_option maxRecDepth 100000 in
set_option maxHeartbeats 4000000 in
theorem ok_xw_unit (l : Launch) (np nd : Nat) : ∀ q ∈ tb_xw_unit np nd , mx_Ok l ({ frames := 0, cells := 0, slots := 0, locals := 0 } : Room) b_xw_unit 1 "WideMachine$Word" (some .int) vw_T vw_cl (kx np nd) q.1 q.2 := by
  refine List.forall_mem_cons.mpr ⟨mx_ok_iload_n (show decode b_xw_unit 0 = .ok (.iload_n 0, 1) by decide +kernel) rfl, ?_⟩
  refine List.forall_mem_cons.mpr ⟨mx_ok_iconst (show decode b_xw_unit 1 = .ok (.iconst 5, 1) by decide +kernel) (by decide), ?_⟩
  refine List.forall_mem_cons.mpr ⟨mx_ok_ishr (show decode b_xw_unit 2 = .ok (.ishr, 1) by decide +kernel), ?_⟩
  refine List.forall_mem_cons.mpr ⟨mx_ok_bipush (show decode b_xw_unit 3 = .ok (.bipush 7, 2) by decide +kernel) (by decide), ?_⟩
  refine List.forall_mem_cons.mpr ⟨mx_ok_iand (show decode b_xw_unit 5 = .ok (.iand, 1) by decide +kernel), ?_⟩
  refine List.forall_mem_cons.mpr ⟨mx_ok_iret (show decode b_xw_unit 6 = .ok (.ireturn, 1) by decide +kernel) rfl, ?_⟩
  exact fun _ h => absurd h List.not_mem_nil
set_option maxRecDepth 100000 in
set_option maxHeartbeats 4000000 in
theorem ct_xw_unit (l : Launch) (np nd : Nat) : mx_Ct l vw_T vw_cl (kx np nd) { frames := 0, cells := 0, slots := 0, locals := 0 } y_xw_unit b_xw_unit 1 (some .int) (pre_xw_unit np nd) (fn_xw_unit np nd) := by
  refine mx_ct_of (tb_xw_unit np nd ) (by decide) (ok_xw_unit l np nd ) (fun as u h => by obtain ⟨_, rfl, -⟩ := h; exact Nat.le_of_ble_eq_true rfl) ?_
  intro as u hpre At hc hw
  obtain ⟨a1, rfl, hp⟩ := hpre
  exact hc 200 [] _ _ _ _ (
    congrArg (mx_rI u) (show ((a1 >>> ((5 : Int32) &&& 31)) &&& (7 : Int32)) = (xw_unit a1 ) from (rfl).symm))
/-! WideMachine$Word.hasB(I)Z -/
noncomputable def xw_hasB_b (a1 : Int32) : Int32 :=
  if (xw_hasLongNumber a1 ) = 0 then
   if a1 = 25 then
    0
   else
    if a1 = 27 then
     0
    else
     1
  else
   0
theorem xw_hasB_ex : ∃ f : Int32 → (Int32), f = xw_hasB_b := ⟨_, rfl⟩
noncomputable def xw_hasB : Int32 → (Int32) := Classical.choose xw_hasB_ex
theorem xw_hasB_eq (a1 : Int32) : (xw_hasB a1 ) = (xw_hasB_b a1 ) := by rw [show xw_hasB = xw_hasB_b from Classical.choose_spec xw_hasB_ex]
def pre_xw_hasB (np nd : Nat) : List mx_V → mx_S → Prop := fun as u => ∃ (a1 : Int32), as = [.inl a1] ∧ True
noncomputable def fn_xw_hasB (np nd : Nat) : mx_F := fun as u => match as with
  | [.inl a1] => mx_rI u (xw_hasB a1 )
  | _ => (none, u)
noncomputable def tb_xw_hasB (np nd : Nat) : List (Nat × mx_T) := [
  (0, mx_iload_n 0 0),
  (1, mx_invS 1 (pre_xw_hasLongNumber np nd) (fn_xw_hasLongNumber np nd) 1),
  (4, mx_if_ne 23 4),
  (7, mx_iload_n 0 7),
  (8, mx_bipush 25 8),
  (10, mx_icmp_eq 23 10),
  (13, mx_iload_n 0 13),
  (14, mx_bipush 27 14),
  (16, mx_icmp_eq 23 16),
  (19, mx_iconst 1 19),
  (20, mx_goto 24 20),
  (23, mx_iconst 0 23),
  (24, mx_zret 24)]
set_option maxRecDepth 100000 in
set_option maxHeartbeats 4000000 in
theorem ok_xw_hasB (l : Launch) (np nd : Nat) : ∀ q ∈ tb_xw_hasB np nd , mx_Ok l ({ frames := 1, cells := 0, slots := 0, locals := 20 } : Room) b_xw_hasB 1 "WideMachine$Word" (some .boolean) vw_T vw_cl (kx np nd) q.1 q.2 := by
  refine List.forall_mem_cons.mpr ⟨mx_ok_iload_n (show decode b_xw_hasB 0 = .ok (.iload_n 0, 1) by decide +kernel) rfl, ?_⟩
  refine List.forall_mem_cons.mpr ⟨mx_ok_invS vw_G (ct_xw_hasLongNumber l np nd) ⟨vm_108, vm_109, vm_97, ⟨by decide +kernel, by decide +kernel, by decide +kernel⟩, ⟨by decide, by decide⟩, rfl, rfl⟩ vm_110 (show decode b_xw_hasB 1 = .ok (.invokestatic 25, 3) by decide +kernel), ?_⟩
  refine List.forall_mem_cons.mpr ⟨mx_ok_if_ne (show decode b_xw_hasB 4 = .ok (.ifCond .ne 19, 3) by decide +kernel) (by decide), ?_⟩
  refine List.forall_mem_cons.mpr ⟨mx_ok_iload_n (show decode b_xw_hasB 7 = .ok (.iload_n 0, 1) by decide +kernel) rfl, ?_⟩
  refine List.forall_mem_cons.mpr ⟨mx_ok_bipush (show decode b_xw_hasB 8 = .ok (.bipush 25, 2) by decide +kernel) (by decide), ?_⟩
  refine List.forall_mem_cons.mpr ⟨mx_ok_icmp_eq (show decode b_xw_hasB 10 = .ok (.if_icmp .eq 13, 3) by decide +kernel) (by decide), ?_⟩
  refine List.forall_mem_cons.mpr ⟨mx_ok_iload_n (show decode b_xw_hasB 13 = .ok (.iload_n 0, 1) by decide +kernel) rfl, ?_⟩
  refine List.forall_mem_cons.mpr ⟨mx_ok_bipush (show decode b_xw_hasB 14 = .ok (.bipush 27, 2) by decide +kernel) (by decide), ?_⟩
  refine List.forall_mem_cons.mpr ⟨mx_ok_icmp_eq (show decode b_xw_hasB 16 = .ok (.if_icmp .eq 7, 3) by decide +kernel) (by decide), ?_⟩
  refine List.forall_mem_cons.mpr ⟨mx_ok_iconst (show decode b_xw_hasB 19 = .ok (.iconst 1, 1) by decide +kernel) (by decide), ?_⟩
  refine List.forall_mem_cons.mpr ⟨mx_ok_goto (show decode b_xw_hasB 20 = .ok (.goto 4, 3) by decide +kernel) (by decide), ?_⟩
  refine List.forall_mem_cons.mpr ⟨mx_ok_iconst (show decode b_xw_hasB 23 = .ok (.iconst 0, 1) by decide +kernel) (by decide), ?_⟩
  refine List.forall_mem_cons.mpr ⟨mx_ok_zret (show decode b_xw_hasB 24 = .ok (.ireturn, 1) by decide +kernel) rfl, ?_⟩
  exact fun _ h => absurd h List.not_mem_nil
set_option maxRecDepth 100000 in
set_option maxHeartbeats 4000000 in
theorem ct_xw_hasB (l : Launch) (np nd : Nat) : mx_Ct l vw_T vw_cl (kx np nd) { frames := 1, cells := 0, slots := 0, locals := 20 } y_xw_hasB b_xw_hasB 1 (some .boolean) (pre_xw_hasB np nd) (fn_xw_hasB np nd) := by
  refine mx_ct_of (tb_xw_hasB np nd ) (by decide) (ok_xw_hasB l np nd ) (fun as u h => by obtain ⟨_, rfl, -⟩ := h; exact Nat.le_of_ble_eq_true rfl) ?_
  intro as u hpre At hc hw
  obtain ⟨a1, rfl, hp⟩ := hpre
  exact hc 200 [] _ _ _ _ (
    And.intro rfl (
    And.intro ⟨_, rfl, trivial⟩ (
    And.intro (fun h4 => 
     And.intro (Or.inl rfl) (
     congrArg (mx_rI u) (show 0 = (xw_hasB a1 ) from ((xw_hasB_eq a1 ).trans (if_neg h4)).symm))) (fun h4 => 
     And.intro (fun h10 => 
      And.intro (Or.inl rfl) (
      congrArg (mx_rI u) (show 0 = (xw_hasB a1 ) from ((xw_hasB_eq a1 ).trans ((if_pos h4).trans (if_pos h10))).symm))) (fun h10 => 
      And.intro (fun h16 => 
       And.intro (Or.inl rfl) (
       congrArg (mx_rI u) (show 0 = (xw_hasB a1 ) from ((xw_hasB_eq a1 ).trans ((if_pos h4).trans ((if_neg h10).trans (if_pos h16)))).symm))) (fun h16 => 
       And.intro (Or.inr rfl) (
       congrArg (mx_rI u) (show 1 = (xw_hasB a1 ) from ((xw_hasB_eq a1 ).trans ((if_pos h4).trans ((if_neg h10).trans (if_neg h16)))).symm))))))))
/-! WideMachine$Word.isNumberB(I)Z -/
noncomputable def xw_isNumberB_b (a1 : Int32) : Int32 :=
  if ((a1 >>> ((27 : Int32) &&& 31)) &&& (1 : Int32)) = 0 then
   0
  else
   1
theorem xw_isNumberB_ex : ∃ f : Int32 → (Int32), f = xw_isNumberB_b := ⟨_, rfl⟩
noncomputable def xw_isNumberB : Int32 → (Int32) := Classical.choose xw_isNumberB_ex
theorem xw_isNumberB_eq (a1 : Int32) : (xw_isNumberB a1 ) = (xw_isNumberB_b a1 ) := by rw [show xw_isNumberB = xw_isNumberB_b from Classical.choose_spec xw_isNumberB_ex]
def pre_xw_isNumberB (np nd : Nat) : List mx_V → mx_S → Prop := fun as u => ∃ (a1 : Int32), as = [.inl a1] ∧ True
noncomputable def fn_xw_isNumberB (np nd : Nat) : mx_F := fun as u => match as with
  | [.inl a1] => mx_rI u (xw_isNumberB a1 )
  | _ => (none, u)
noncomputable def tb_xw_isNumberB (np nd : Nat) : List (Nat × mx_T) := [
  (0, mx_iload_n 0 0),
  (1, mx_bipush 27 1),
  (3, mx_ishr 3),
  (4, mx_iconst 1 4),
  (5, mx_iand 5),
  (6, mx_if_eq 13 6),
  (9, mx_iconst 1 9),
  (10, mx_goto 14 10),
  (13, mx_iconst 0 13),
  (14, mx_zret 14)]
set_option maxRecDepth 100000 in
set_option maxHeartbeats 4000000 in
theorem ok_xw_isNumberB (l : Launch) (np nd : Nat) : ∀ q ∈ tb_xw_isNumberB np nd , mx_Ok l ({ frames := 0, cells := 0, slots := 0, locals := 0 } : Room) b_xw_isNumberB 1 "WideMachine$Word" (some .boolean) vw_T vw_cl (kx np nd) q.1 q.2 := by
  refine List.forall_mem_cons.mpr ⟨mx_ok_iload_n (show decode b_xw_isNumberB 0 = .ok (.iload_n 0, 1) by decide +kernel) rfl, ?_⟩
  refine List.forall_mem_cons.mpr ⟨mx_ok_bipush (show decode b_xw_isNumberB 1 = .ok (.bipush 27, 2) by decide +kernel) (by decide), ?_⟩
  refine List.forall_mem_cons.mpr ⟨mx_ok_ishr (show decode b_xw_isNumberB 3 = .ok (.ishr, 1) by decide +kernel), ?_⟩
  refine List.forall_mem_cons.mpr ⟨mx_ok_iconst (show decode b_xw_isNumberB 4 = .ok (.iconst 1, 1) by decide +kernel) (by decide), ?_⟩
  refine List.forall_mem_cons.mpr ⟨mx_ok_iand (show decode b_xw_isNumberB 5 = .ok (.iand, 1) by decide +kernel), ?_⟩
  refine List.forall_mem_cons.mpr ⟨mx_ok_if_eq (show decode b_xw_isNumberB 6 = .ok (.ifCond .eq 7, 3) by decide +kernel) (by decide), ?_⟩
  refine List.forall_mem_cons.mpr ⟨mx_ok_iconst (show decode b_xw_isNumberB 9 = .ok (.iconst 1, 1) by decide +kernel) (by decide), ?_⟩
  refine List.forall_mem_cons.mpr ⟨mx_ok_goto (show decode b_xw_isNumberB 10 = .ok (.goto 4, 3) by decide +kernel) (by decide), ?_⟩
  refine List.forall_mem_cons.mpr ⟨mx_ok_iconst (show decode b_xw_isNumberB 13 = .ok (.iconst 0, 1) by decide +kernel) (by decide), ?_⟩
  refine List.forall_mem_cons.mpr ⟨mx_ok_zret (show decode b_xw_isNumberB 14 = .ok (.ireturn, 1) by decide +kernel) rfl, ?_⟩
  exact fun _ h => absurd h List.not_mem_nil
set_option maxRecDepth 100000 in
set_option maxHeartbeats 4000000 in
theorem ct_xw_isNumberB (l : Launch) (np nd : Nat) : mx_Ct l vw_T vw_cl (kx np nd) { frames := 0, cells := 0, slots := 0, locals := 0 } y_xw_isNumberB b_xw_isNumberB 1 (some .boolean) (pre_xw_isNumberB np nd) (fn_xw_isNumberB np nd) := by
  refine mx_ct_of (tb_xw_isNumberB np nd ) (by decide) (ok_xw_isNumberB l np nd ) (fun as u h => by obtain ⟨_, rfl, -⟩ := h; exact Nat.le_of_ble_eq_true rfl) ?_
  intro as u hpre At hc hw
  obtain ⟨a1, rfl, hp⟩ := hpre
  exact hc 200 [] _ _ _ _ (
    And.intro (fun h6 => 
     And.intro (Or.inl rfl) (
     congrArg (mx_rI u) (show 0 = (xw_isNumberB a1 ) from ((xw_isNumberB_eq a1 ).trans (if_pos h6)).symm))) (fun h6 => 
     And.intro (Or.inr rfl) (
     congrArg (mx_rI u) (show 1 = (xw_isNumberB a1 ) from ((xw_isNumberB_eq a1 ).trans (if_neg h6)).symm))))
/-! WideMachine$Word.b(I)I -/
noncomputable def xw_b (a1 : Int32) : Int32 :=
  ((a1 >>> ((22 : Int32) &&& 31)) &&& (31 : Int32))
def pre_xw_b (np nd : Nat) : List mx_V → mx_S → Prop := fun as u => ∃ (a1 : Int32), as = [.inl a1] ∧ True
noncomputable def fn_xw_b (np nd : Nat) : mx_F := fun as u => match as with
  | [.inl a1] => mx_rI u (xw_b a1 )
  | _ => (none, u)
noncomputable def tb_xw_b (np nd : Nat) : List (Nat × mx_T) := [
  (0, mx_iload_n 0 0),
  (1, mx_bipush 22 1),
  (3, mx_ishr 3),
  (4, mx_bipush 31 4),
  (6, mx_iand 6),
  (7, mx_iret 7)]
set_option maxRecDepth 100000 in
set_option maxHeartbeats 4000000 in
theorem ok_xw_b (l : Launch) (np nd : Nat) : ∀ q ∈ tb_xw_b np nd , mx_Ok l ({ frames := 0, cells := 0, slots := 0, locals := 0 } : Room) b_xw_b 1 "WideMachine$Word" (some .int) vw_T vw_cl (kx np nd) q.1 q.2 := by
  refine List.forall_mem_cons.mpr ⟨mx_ok_iload_n (show decode b_xw_b 0 = .ok (.iload_n 0, 1) by decide +kernel) rfl, ?_⟩
  refine List.forall_mem_cons.mpr ⟨mx_ok_bipush (show decode b_xw_b 1 = .ok (.bipush 22, 2) by decide +kernel) (by decide), ?_⟩
  refine List.forall_mem_cons.mpr ⟨mx_ok_ishr (show decode b_xw_b 3 = .ok (.ishr, 1) by decide +kernel), ?_⟩
  refine List.forall_mem_cons.mpr ⟨mx_ok_bipush (show decode b_xw_b 4 = .ok (.bipush 31, 2) by decide +kernel) (by decide), ?_⟩
  refine List.forall_mem_cons.mpr ⟨mx_ok_iand (show decode b_xw_b 6 = .ok (.iand, 1) by decide +kernel), ?_⟩
  refine List.forall_mem_cons.mpr ⟨mx_ok_iret (show decode b_xw_b 7 = .ok (.ireturn, 1) by decide +kernel) rfl, ?_⟩
  exact fun _ h => absurd h List.not_mem_nil
set_option maxRecDepth 100000 in
set_option maxHeartbeats 4000000 in
theorem ct_xw_b (l : Launch) (np nd : Nat) : mx_Ct l vw_T vw_cl (kx np nd) { frames := 0, cells := 0, slots := 0, locals := 0 } y_xw_b b_xw_b 1 (some .int) (pre_xw_b np nd) (fn_xw_b np nd) := by
  refine mx_ct_of (tb_xw_b np nd ) (by decide) (ok_xw_b l np nd ) (fun as u h => by obtain ⟨_, rfl, -⟩ := h; exact Nat.le_of_ble_eq_true rfl) ?_
  intro as u hpre At hc hw
  obtain ⟨a1, rfl, hp⟩ := hpre
  exact hc 200 [] _ _ _ _ (
    congrArg (mx_rI u) (show ((a1 >>> ((22 : Int32) &&& 31)) &&& (31 : Int32)) = (xw_b a1 ) from (rfl).symm))
theorem xw_b_in (w : Int32) : vp_in (xw_b w) 32 := pk_andIn _ 5 (by decide) (by decide)
/-! WideMachine$Word.crosses(I)Z -/
noncomputable def xw_crosses_b (a1 : Int32) : Int32 :=
  if (xw_hasB (xw_code a1 ) ) = 0 then
   0
  else
   if (xw_isNumberB a1 ) = 0 then
    if ((xw_b a1 ) >>> ((4 : Int32) &&& 31)) = (xw_side a1 ) then
     0
    else
     1
   else
    0
theorem xw_crosses_ex : ∃ f : Int32 → (Int32), f = xw_crosses_b := ⟨_, rfl⟩
noncomputable def xw_crosses : Int32 → (Int32) := Classical.choose xw_crosses_ex
theorem xw_crosses_eq (a1 : Int32) : (xw_crosses a1 ) = (xw_crosses_b a1 ) := by rw [show xw_crosses = xw_crosses_b from Classical.choose_spec xw_crosses_ex]
def pre_xw_crosses (np nd : Nat) : List mx_V → mx_S → Prop := fun as u => ∃ (a1 : Int32), as = [.inl a1] ∧ True
noncomputable def fn_xw_crosses (np nd : Nat) : mx_F := fun as u => match as with
  | [.inl a1] => mx_rI u (xw_crosses a1 )
  | _ => (none, u)
noncomputable def tb_xw_crosses (np nd : Nat) : List (Nat × mx_T) := [
  (0, mx_iload_n 0 0),
  (1, mx_invS 1 (pre_xw_code np nd) (fn_xw_code np nd) 1),
  (4, mx_invS 1 (pre_xw_hasB np nd) (fn_xw_hasB np nd) 4),
  (7, mx_if_eq 34 7),
  (10, mx_iload_n 0 10),
  (11, mx_invS 1 (pre_xw_isNumberB np nd) (fn_xw_isNumberB np nd) 11),
  (14, mx_if_ne 34 14),
  (17, mx_iload_n 0 17),
  (18, mx_invS 1 (pre_xw_b np nd) (fn_xw_b np nd) 18),
  (21, mx_iconst 4 21),
  (22, mx_ishr 22),
  (23, mx_iload_n 0 23),
  (24, mx_invS 1 (pre_xw_side np nd) (fn_xw_side np nd) 24),
  (27, mx_icmp_eq 34 27),
  (30, mx_iconst 1 30),
  (31, mx_goto 35 31),
  (34, mx_iconst 0 34),
  (35, mx_zret 35)]
set_option maxRecDepth 100000 in
set_option maxHeartbeats 4000000 in
theorem ok_xw_crosses (l : Launch) (np nd : Nat) : ∀ q ∈ tb_xw_crosses np nd , mx_Ok l ({ frames := 2, cells := 0, slots := 0, locals := 40 } : Room) b_xw_crosses 1 "WideMachine$Word" (some .boolean) vw_T vw_cl (kx np nd) q.1 q.2 := by
  refine List.forall_mem_cons.mpr ⟨mx_ok_iload_n (show decode b_xw_crosses 0 = .ok (.iload_n 0, 1) by decide +kernel) rfl, ?_⟩
  refine List.forall_mem_cons.mpr ⟨mx_ok_invS vw_G (ct_xw_code l np nd) ⟨vm_99, vm_100, vm_97, ⟨by decide +kernel, by decide +kernel, by decide +kernel⟩, ⟨by decide, by decide⟩, rfl, rfl⟩ vm_101 (show decode b_xw_crosses 1 = .ok (.invokestatic 9, 3) by decide +kernel), ?_⟩
  refine List.forall_mem_cons.mpr ⟨mx_ok_invS vw_G (ct_xw_hasB l np nd) ⟨vm_132, vm_133, vm_97, ⟨by decide +kernel, by decide +kernel, by decide +kernel⟩, ⟨by decide, by decide⟩, rfl, rfl⟩ vm_134 (show decode b_xw_crosses 4 = .ok (.invokestatic 43, 3) by decide +kernel), ?_⟩
  refine List.forall_mem_cons.mpr ⟨mx_ok_if_eq (show decode b_xw_crosses 7 = .ok (.ifCond .eq 27, 3) by decide +kernel) (by decide), ?_⟩
  refine List.forall_mem_cons.mpr ⟨mx_ok_iload_n (show decode b_xw_crosses 10 = .ok (.iload_n 0, 1) by decide +kernel) rfl, ?_⟩
  refine List.forall_mem_cons.mpr ⟨mx_ok_invS vw_G (ct_xw_isNumberB l np nd) ⟨vm_135, vm_136, vm_97, ⟨by decide +kernel, by decide +kernel, by decide +kernel⟩, ⟨by decide, by decide⟩, rfl, rfl⟩ vm_137 (show decode b_xw_crosses 11 = .ok (.invokestatic 46, 3) by decide +kernel), ?_⟩
  refine List.forall_mem_cons.mpr ⟨mx_ok_if_ne (show decode b_xw_crosses 14 = .ok (.ifCond .ne 20, 3) by decide +kernel) (by decide), ?_⟩
  refine List.forall_mem_cons.mpr ⟨mx_ok_iload_n (show decode b_xw_crosses 17 = .ok (.iload_n 0, 1) by decide +kernel) rfl, ?_⟩
  refine List.forall_mem_cons.mpr ⟨mx_ok_invS vw_G (ct_xw_b l np nd) ⟨vm_138, vm_139, vm_97, ⟨by decide +kernel, by decide +kernel, by decide +kernel⟩, ⟨by decide, by decide⟩, rfl, rfl⟩ vm_140 (show decode b_xw_crosses 18 = .ok (.invokestatic 49, 3) by decide +kernel), ?_⟩
  refine List.forall_mem_cons.mpr ⟨mx_ok_iconst (show decode b_xw_crosses 21 = .ok (.iconst 4, 1) by decide +kernel) (by decide), ?_⟩
  refine List.forall_mem_cons.mpr ⟨mx_ok_ishr (show decode b_xw_crosses 22 = .ok (.ishr, 1) by decide +kernel), ?_⟩
  refine List.forall_mem_cons.mpr ⟨mx_ok_iload_n (show decode b_xw_crosses 23 = .ok (.iload_n 0, 1) by decide +kernel) rfl, ?_⟩
  refine List.forall_mem_cons.mpr ⟨mx_ok_invS vw_G (ct_xw_side l np nd) ⟨vm_117, vm_118, vm_97, ⟨by decide +kernel, by decide +kernel, by decide +kernel⟩, ⟨by decide, by decide⟩, rfl, rfl⟩ vm_119 (show decode b_xw_crosses 24 = .ok (.invokestatic 34, 3) by decide +kernel), ?_⟩
  refine List.forall_mem_cons.mpr ⟨mx_ok_icmp_eq (show decode b_xw_crosses 27 = .ok (.if_icmp .eq 7, 3) by decide +kernel) (by decide), ?_⟩
  refine List.forall_mem_cons.mpr ⟨mx_ok_iconst (show decode b_xw_crosses 30 = .ok (.iconst 1, 1) by decide +kernel) (by decide), ?_⟩
  refine List.forall_mem_cons.mpr ⟨mx_ok_goto (show decode b_xw_crosses 31 = .ok (.goto 4, 3) by decide +kernel) (by decide), ?_⟩
  refine List.forall_mem_cons.mpr ⟨mx_ok_iconst (show decode b_xw_crosses 34 = .ok (.iconst 0, 1) by decide +kernel) (by decide), ?_⟩
  refine List.forall_mem_cons.mpr ⟨mx_ok_zret (show decode b_xw_crosses 35 = .ok (.ireturn, 1) by decide +kernel) rfl, ?_⟩
  exact fun _ h => absurd h List.not_mem_nil
set_option maxRecDepth 100000 in
set_option maxHeartbeats 4000000 in
theorem ct_xw_crosses (l : Launch) (np nd : Nat) : mx_Ct l vw_T vw_cl (kx np nd) { frames := 2, cells := 0, slots := 0, locals := 40 } y_xw_crosses b_xw_crosses 1 (some .boolean) (pre_xw_crosses np nd) (fn_xw_crosses np nd) := by
  refine mx_ct_of (tb_xw_crosses np nd ) (by decide) (ok_xw_crosses l np nd ) (fun as u h => by obtain ⟨_, rfl, -⟩ := h; exact Nat.le_of_ble_eq_true rfl) ?_
  intro as u hpre At hc hw
  obtain ⟨a1, rfl, hp⟩ := hpre
  exact hc 200 [] _ _ _ _ (
    And.intro rfl (
    And.intro ⟨_, rfl, trivial⟩ (
    And.intro rfl (
    And.intro ⟨_, rfl, trivial⟩ (
    And.intro (fun h7 => 
     And.intro (Or.inl rfl) (
     congrArg (mx_rI u) (show 0 = (xw_crosses a1 ) from ((xw_crosses_eq a1 ).trans (if_pos h7)).symm))) (fun h7 => 
     And.intro rfl (
     And.intro ⟨_, rfl, trivial⟩ (
     And.intro (fun h14 => 
      And.intro (Or.inl rfl) (
      congrArg (mx_rI u) (show 0 = (xw_crosses a1 ) from ((xw_crosses_eq a1 ).trans ((if_neg h7).trans (if_neg h14))).symm))) (fun h14 => 
      And.intro rfl (
      And.intro ⟨_, rfl, trivial⟩ (
      And.intro rfl (
      And.intro ⟨_, rfl, trivial⟩ (
      And.intro (fun h27 => 
       And.intro (Or.inl rfl) (
       congrArg (mx_rI u) (show 0 = (xw_crosses a1 ) from ((xw_crosses_eq a1 ).trans ((if_neg h7).trans ((if_pos h14).trans (if_pos h27)))).symm))) (fun h27 => 
       And.intro (Or.inr rfl) (
       congrArg (mx_rI u) (show 1 = (xw_crosses a1 ) from ((xw_crosses_eq a1 ).trans ((if_neg h7).trans ((if_pos h14).trans (if_neg h27)))).symm))))))))))))))))
/-! WideMachine$Word.conditionRegister(I)I -/
noncomputable def xw_conditionRegister_b (a1 : Int32) : Int32 :=
  if ((a1 >>> ((1 : Int32) &&& 31)) &&& (7 : Int32)) = 1 then
   16
  else
  if ((a1 >>> ((1 : Int32) &&& 31)) &&& (7 : Int32)) = 2 then
   17
  else
  if ((a1 >>> ((1 : Int32) &&& 31)) &&& (7 : Int32)) = 3 then
   18
  else
  if ((a1 >>> ((1 : Int32) &&& 31)) &&& (7 : Int32)) = 4 then
   1
  else
  if ((a1 >>> ((1 : Int32) &&& 31)) &&& (7 : Int32)) = 5 then
   2
  else
  (-1)
theorem xw_conditionRegister_ex : ∃ f : Int32 → (Int32), f = xw_conditionRegister_b := ⟨_, rfl⟩
noncomputable def xw_conditionRegister : Int32 → (Int32) := Classical.choose xw_conditionRegister_ex
theorem xw_conditionRegister_eq (a1 : Int32) : (xw_conditionRegister a1 ) = (xw_conditionRegister_b a1 ) := by rw [show xw_conditionRegister = xw_conditionRegister_b from Classical.choose_spec xw_conditionRegister_ex]
def pre_xw_conditionRegister (np nd : Nat) : List mx_V → mx_S → Prop := fun as u => ∃ (a1 : Int32), as = [.inl a1] ∧ True
noncomputable def fn_xw_conditionRegister (np nd : Nat) : mx_F := fun as u => match as with
  | [.inl a1] => mx_rI u (xw_conditionRegister a1 )
  | _ => (none, u)
noncomputable def tb_xw_conditionRegister (np nd : Nat) : List (Nat × mx_T) := [
  (0, mx_iload_n 0 0),
  (1, mx_iconst 1 1),
  (2, mx_ishr 2),
  (3, mx_bipush 7 3),
  (5, mx_iand 5),
  (6, mx_tsw 53 [(1, 40), (2, 43), (3, 46), (4, 49), (5, 51)] 6),
  (40, mx_bipush 16 40),
  (42, mx_iret 42),
  (43, mx_bipush 17 43),
  (45, mx_iret 45),
  (46, mx_bipush 18 46),
  (48, mx_iret 48),
  (49, mx_iconst 1 49),
  (50, mx_iret 50),
  (51, mx_iconst 2 51),
  (52, mx_iret 52),
  (53, mx_iconst (-1) 53),
  (54, mx_iret 54)]
set_option maxRecDepth 100000 in
set_option maxHeartbeats 4000000 in
theorem ok_xw_conditionRegister (l : Launch) (np nd : Nat) : ∀ q ∈ tb_xw_conditionRegister np nd , mx_Ok l ({ frames := 0, cells := 0, slots := 0, locals := 0 } : Room) b_xw_conditionRegister 1 "WideMachine$Word" (some .int) vw_T vw_cl (kx np nd) q.1 q.2 := by
  refine List.forall_mem_cons.mpr ⟨mx_ok_iload_n (show decode b_xw_conditionRegister 0 = .ok (.iload_n 0, 1) by decide +kernel) rfl, ?_⟩
  refine List.forall_mem_cons.mpr ⟨mx_ok_iconst (show decode b_xw_conditionRegister 1 = .ok (.iconst 1, 1) by decide +kernel) (by decide), ?_⟩
  refine List.forall_mem_cons.mpr ⟨mx_ok_ishr (show decode b_xw_conditionRegister 2 = .ok (.ishr, 1) by decide +kernel), ?_⟩
  refine List.forall_mem_cons.mpr ⟨mx_ok_bipush (show decode b_xw_conditionRegister 3 = .ok (.bipush 7, 2) by decide +kernel) (by decide), ?_⟩
  refine List.forall_mem_cons.mpr ⟨mx_ok_iand (show decode b_xw_conditionRegister 5 = .ok (.iand, 1) by decide +kernel), ?_⟩
  refine List.forall_mem_cons.mpr ⟨mx_ok_tsw (show decode b_xw_conditionRegister 6 = .ok (.tableswitch 47 1 5 #[34, 37, 40, 43, 45], 34) by decide +kernel) (by decide) (by decide), ?_⟩
  refine List.forall_mem_cons.mpr ⟨mx_ok_bipush (show decode b_xw_conditionRegister 40 = .ok (.bipush 16, 2) by decide +kernel) (by decide), ?_⟩
  refine List.forall_mem_cons.mpr ⟨mx_ok_iret (show decode b_xw_conditionRegister 42 = .ok (.ireturn, 1) by decide +kernel) rfl, ?_⟩
  refine List.forall_mem_cons.mpr ⟨mx_ok_bipush (show decode b_xw_conditionRegister 43 = .ok (.bipush 17, 2) by decide +kernel) (by decide), ?_⟩
  refine List.forall_mem_cons.mpr ⟨mx_ok_iret (show decode b_xw_conditionRegister 45 = .ok (.ireturn, 1) by decide +kernel) rfl, ?_⟩
  refine List.forall_mem_cons.mpr ⟨mx_ok_bipush (show decode b_xw_conditionRegister 46 = .ok (.bipush 18, 2) by decide +kernel) (by decide), ?_⟩
  refine List.forall_mem_cons.mpr ⟨mx_ok_iret (show decode b_xw_conditionRegister 48 = .ok (.ireturn, 1) by decide +kernel) rfl, ?_⟩
  refine List.forall_mem_cons.mpr ⟨mx_ok_iconst (show decode b_xw_conditionRegister 49 = .ok (.iconst 1, 1) by decide +kernel) (by decide), ?_⟩
  refine List.forall_mem_cons.mpr ⟨mx_ok_iret (show decode b_xw_conditionRegister 50 = .ok (.ireturn, 1) by decide +kernel) rfl, ?_⟩
  refine List.forall_mem_cons.mpr ⟨mx_ok_iconst (show decode b_xw_conditionRegister 51 = .ok (.iconst 2, 1) by decide +kernel) (by decide), ?_⟩
  refine List.forall_mem_cons.mpr ⟨mx_ok_iret (show decode b_xw_conditionRegister 52 = .ok (.ireturn, 1) by decide +kernel) rfl, ?_⟩
  refine List.forall_mem_cons.mpr ⟨mx_ok_iconst (show decode b_xw_conditionRegister 53 = .ok (.iconst (-1), 1) by decide +kernel) (by decide), ?_⟩
  refine List.forall_mem_cons.mpr ⟨mx_ok_iret (show decode b_xw_conditionRegister 54 = .ok (.ireturn, 1) by decide +kernel) rfl, ?_⟩
  exact fun _ h => absurd h List.not_mem_nil
set_option maxRecDepth 100000 in
set_option maxHeartbeats 4000000 in
theorem ct_xw_conditionRegister (l : Launch) (np nd : Nat) : mx_Ct l vw_T vw_cl (kx np nd) { frames := 0, cells := 0, slots := 0, locals := 0 } y_xw_conditionRegister b_xw_conditionRegister 1 (some .int) (pre_xw_conditionRegister np nd) (fn_xw_conditionRegister np nd) := by
  refine mx_ct_of (tb_xw_conditionRegister np nd ) (by decide) (ok_xw_conditionRegister l np nd ) (fun as u h => by obtain ⟨_, rfl, -⟩ := h; exact Nat.le_of_ble_eq_true rfl) ?_
  intro as u hpre At hc hw
  obtain ⟨a1, rfl, hp⟩ := hpre
  exact hc 200 [] _ _ _ _ (
    And.intro (fun h6_0 => 
     congrArg (mx_rI u) (show 16 = (xw_conditionRegister a1 ) from ((xw_conditionRegister_eq a1 ).trans (if_pos h6_0)).symm)) (fun h6_0 => 
    And.intro (fun h6_1 => 
     congrArg (mx_rI u) (show 17 = (xw_conditionRegister a1 ) from ((xw_conditionRegister_eq a1 ).trans ((if_neg h6_0).trans (if_pos h6_1))).symm)) (fun h6_1 => 
    And.intro (fun h6_2 => 
     congrArg (mx_rI u) (show 18 = (xw_conditionRegister a1 ) from ((xw_conditionRegister_eq a1 ).trans ((if_neg h6_0).trans ((if_neg h6_1).trans (if_pos h6_2)))).symm)) (fun h6_2 => 
    And.intro (fun h6_3 => 
     congrArg (mx_rI u) (show 1 = (xw_conditionRegister a1 ) from ((xw_conditionRegister_eq a1 ).trans ((if_neg h6_0).trans ((if_neg h6_1).trans ((if_neg h6_2).trans (if_pos h6_3))))).symm)) (fun h6_3 => 
    And.intro (fun h6_4 => 
     congrArg (mx_rI u) (show 2 = (xw_conditionRegister a1 ) from ((xw_conditionRegister_eq a1 ).trans ((if_neg h6_0).trans ((if_neg h6_1).trans ((if_neg h6_2).trans ((if_neg h6_3).trans (if_pos h6_4)))))).symm)) (fun h6_4 => 
     congrArg (mx_rI u) (show (-1) = (xw_conditionRegister a1 ) from ((xw_conditionRegister_eq a1 ).trans ((if_neg h6_0).trans ((if_neg h6_1).trans ((if_neg h6_2).trans ((if_neg h6_3).trans (if_neg h6_4)))))).symm)))))))
/-! WideMachine$Word.numberB(I)I -/
noncomputable def xw_numberB (a1 : Int32) : Int32 :=
  ((a1 <<< ((5 : Int32) &&& 31)) >>> ((27 : Int32) &&& 31))
def pre_xw_numberB (np nd : Nat) : List mx_V → mx_S → Prop := fun as u => ∃ (a1 : Int32), as = [.inl a1] ∧ True
noncomputable def fn_xw_numberB (np nd : Nat) : mx_F := fun as u => match as with
  | [.inl a1] => mx_rI u (xw_numberB a1 )
  | _ => (none, u)
noncomputable def tb_xw_numberB (np nd : Nat) : List (Nat × mx_T) := [
  (0, mx_iload_n 0 0),
  (1, mx_iconst 5 1),
  (2, mx_ishl 2),
  (3, mx_bipush 27 3),
  (5, mx_ishr 5),
  (6, mx_iret 6)]
set_option maxRecDepth 100000 in
set_option maxHeartbeats 4000000 in
theorem ok_xw_numberB (l : Launch) (np nd : Nat) : ∀ q ∈ tb_xw_numberB np nd , mx_Ok l ({ frames := 0, cells := 0, slots := 0, locals := 0 } : Room) b_xw_numberB 1 "WideMachine$Word" (some .int) vw_T vw_cl (kx np nd) q.1 q.2 := by
  refine List.forall_mem_cons.mpr ⟨mx_ok_iload_n (show decode b_xw_numberB 0 = .ok (.iload_n 0, 1) by decide +kernel) rfl, ?_⟩
  refine List.forall_mem_cons.mpr ⟨mx_ok_iconst (show decode b_xw_numberB 1 = .ok (.iconst 5, 1) by decide +kernel) (by decide), ?_⟩
  refine List.forall_mem_cons.mpr ⟨mx_ok_ishl (show decode b_xw_numberB 2 = .ok (.ishl, 1) by decide +kernel), ?_⟩
  refine List.forall_mem_cons.mpr ⟨mx_ok_bipush (show decode b_xw_numberB 3 = .ok (.bipush 27, 2) by decide +kernel) (by decide), ?_⟩
  refine List.forall_mem_cons.mpr ⟨mx_ok_ishr (show decode b_xw_numberB 5 = .ok (.ishr, 1) by decide +kernel), ?_⟩
  refine List.forall_mem_cons.mpr ⟨mx_ok_iret (show decode b_xw_numberB 6 = .ok (.ireturn, 1) by decide +kernel) rfl, ?_⟩
  exact fun _ h => absurd h List.not_mem_nil
set_option maxRecDepth 100000 in
set_option maxHeartbeats 4000000 in
theorem ct_xw_numberB (l : Launch) (np nd : Nat) : mx_Ct l vw_T vw_cl (kx np nd) { frames := 0, cells := 0, slots := 0, locals := 0 } y_xw_numberB b_xw_numberB 1 (some .int) (pre_xw_numberB np nd) (fn_xw_numberB np nd) := by
  refine mx_ct_of (tb_xw_numberB np nd ) (by decide) (ok_xw_numberB l np nd ) (fun as u h => by obtain ⟨_, rfl, -⟩ := h; exact Nat.le_of_ble_eq_true rfl) ?_
  intro as u hpre At hc hw
  obtain ⟨a1, rfl, hp⟩ := hpre
  exact hc 200 [] _ _ _ _ (
    congrArg (mx_rI u) (show ((a1 <<< ((5 : Int32) &&& 31)) >>> ((27 : Int32) &&& 31)) = (xw_numberB a1 ) from (rfl).symm))
/-! WideMachine$Word.target(I)I -/
noncomputable def xw_target (a1 : Int32) : Int32 :=
  (a1.toUInt32 >>> ((12 : Int32).toUInt32 &&& Int32.toUInt32 31)).toInt32
def pre_xw_target (np nd : Nat) : List mx_V → mx_S → Prop := fun as u => ∃ (a1 : Int32), as = [.inl a1] ∧ True
noncomputable def fn_xw_target (np nd : Nat) : mx_F := fun as u => match as with
  | [.inl a1] => mx_rI u (xw_target a1 )
  | _ => (none, u)
noncomputable def tb_xw_target (np nd : Nat) : List (Nat × mx_T) := [
  (0, mx_iload_n 0 0),
  (1, mx_bipush 12 1),
  (3, mx_iushr 3),
  (4, mx_iret 4)]
set_option maxRecDepth 100000 in
set_option maxHeartbeats 4000000 in
theorem ok_xw_target (l : Launch) (np nd : Nat) : ∀ q ∈ tb_xw_target np nd , mx_Ok l ({ frames := 0, cells := 0, slots := 0, locals := 0 } : Room) b_xw_target 1 "WideMachine$Word" (some .int) vw_T vw_cl (kx np nd) q.1 q.2 := by
  refine List.forall_mem_cons.mpr ⟨mx_ok_iload_n (show decode b_xw_target 0 = .ok (.iload_n 0, 1) by decide +kernel) rfl, ?_⟩
  refine List.forall_mem_cons.mpr ⟨mx_ok_bipush (show decode b_xw_target 1 = .ok (.bipush 12, 2) by decide +kernel) (by decide), ?_⟩
  refine List.forall_mem_cons.mpr ⟨mx_ok_iushr (show decode b_xw_target 3 = .ok (.iushr, 1) by decide +kernel), ?_⟩
  refine List.forall_mem_cons.mpr ⟨mx_ok_iret (show decode b_xw_target 4 = .ok (.ireturn, 1) by decide +kernel) rfl, ?_⟩
  exact fun _ h => absurd h List.not_mem_nil
set_option maxRecDepth 100000 in
set_option maxHeartbeats 4000000 in
theorem ct_xw_target (l : Launch) (np nd : Nat) : mx_Ct l vw_T vw_cl (kx np nd) { frames := 0, cells := 0, slots := 0, locals := 0 } y_xw_target b_xw_target 1 (some .int) (pre_xw_target np nd) (fn_xw_target np nd) := by
  refine mx_ct_of (tb_xw_target np nd ) (by decide) (ok_xw_target l np nd ) (fun as u h => by obtain ⟨_, rfl, -⟩ := h; exact Nat.le_of_ble_eq_true rfl) ?_
  intro as u hpre At hc hw
  obtain ⟨a1, rfl, hp⟩ := hpre
  exact hc 200 [] _ _ _ _ (
    congrArg (mx_rI u) (show (a1.toUInt32 >>> ((12 : Int32).toUInt32 &&& Int32.toUInt32 31)).toInt32 = (xw_target a1 ) from (rfl).symm))
/-! WideMachine$Word.number(I)I -/
noncomputable def xw_number (a1 : Int32) : Int32 :=
  (a1 >>> ((17 : Int32) &&& 31))
def pre_xw_number (np nd : Nat) : List mx_V → mx_S → Prop := fun as u => ∃ (a1 : Int32), as = [.inl a1] ∧ True
noncomputable def fn_xw_number (np nd : Nat) : mx_F := fun as u => match as with
  | [.inl a1] => mx_rI u (xw_number a1 )
  | _ => (none, u)
noncomputable def tb_xw_number (np nd : Nat) : List (Nat × mx_T) := [
  (0, mx_iload_n 0 0),
  (1, mx_bipush 17 1),
  (3, mx_ishr 3),
  (4, mx_iret 4)]
set_option maxRecDepth 100000 in
set_option maxHeartbeats 4000000 in
theorem ok_xw_number (l : Launch) (np nd : Nat) : ∀ q ∈ tb_xw_number np nd , mx_Ok l ({ frames := 0, cells := 0, slots := 0, locals := 0 } : Room) b_xw_number 1 "WideMachine$Word" (some .int) vw_T vw_cl (kx np nd) q.1 q.2 := by
  refine List.forall_mem_cons.mpr ⟨mx_ok_iload_n (show decode b_xw_number 0 = .ok (.iload_n 0, 1) by decide +kernel) rfl, ?_⟩
  refine List.forall_mem_cons.mpr ⟨mx_ok_bipush (show decode b_xw_number 1 = .ok (.bipush 17, 2) by decide +kernel) (by decide), ?_⟩
  refine List.forall_mem_cons.mpr ⟨mx_ok_ishr (show decode b_xw_number 3 = .ok (.ishr, 1) by decide +kernel), ?_⟩
  refine List.forall_mem_cons.mpr ⟨mx_ok_iret (show decode b_xw_number 4 = .ok (.ireturn, 1) by decide +kernel) rfl, ?_⟩
  exact fun _ h => absurd h List.not_mem_nil
set_option maxRecDepth 100000 in
set_option maxHeartbeats 4000000 in
theorem ct_xw_number (l : Launch) (np nd : Nat) : mx_Ct l vw_T vw_cl (kx np nd) { frames := 0, cells := 0, slots := 0, locals := 0 } y_xw_number b_xw_number 1 (some .int) (pre_xw_number np nd) (fn_xw_number np nd) := by
  refine mx_ct_of (tb_xw_number np nd ) (by decide) (ok_xw_number l np nd ) (fun as u h => by obtain ⟨_, rfl, -⟩ := h; exact Nat.le_of_ble_eq_true rfl) ?_
  intro as u hpre At hc hw
  obtain ⟨a1, rfl, hp⟩ := hpre
  exact hc 200 [] _ _ _ _ (
    congrArg (mx_rI u) (show (a1 >>> ((17 : Int32) &&& 31)) = (xw_number a1 ) from (rfl).symm))
/-! WideMachine$Word.kind(I)I -/
noncomputable def xw_kind (a1 : Int32) : Int32 :=
  ((a1 >>> ((5 : Int32) &&& 31)) &&& (3 : Int32))
def pre_xw_kind (np nd : Nat) : List mx_V → mx_S → Prop := fun as u => ∃ (a1 : Int32), as = [.inl a1] ∧ True
noncomputable def fn_xw_kind (np nd : Nat) : mx_F := fun as u => match as with
  | [.inl a1] => mx_rI u (xw_kind a1 )
  | _ => (none, u)
noncomputable def tb_xw_kind (np nd : Nat) : List (Nat × mx_T) := [
  (0, mx_iload_n 0 0),
  (1, mx_iconst 5 1),
  (2, mx_ishr 2),
  (3, mx_iconst 3 3),
  (4, mx_iand 4),
  (5, mx_iret 5)]
set_option maxRecDepth 100000 in
set_option maxHeartbeats 4000000 in
theorem ok_xw_kind (l : Launch) (np nd : Nat) : ∀ q ∈ tb_xw_kind np nd , mx_Ok l ({ frames := 0, cells := 0, slots := 0, locals := 0 } : Room) b_xw_kind 1 "WideMachine$Word" (some .int) vw_T vw_cl (kx np nd) q.1 q.2 := by
  refine List.forall_mem_cons.mpr ⟨mx_ok_iload_n (show decode b_xw_kind 0 = .ok (.iload_n 0, 1) by decide +kernel) rfl, ?_⟩
  refine List.forall_mem_cons.mpr ⟨mx_ok_iconst (show decode b_xw_kind 1 = .ok (.iconst 5, 1) by decide +kernel) (by decide), ?_⟩
  refine List.forall_mem_cons.mpr ⟨mx_ok_ishr (show decode b_xw_kind 2 = .ok (.ishr, 1) by decide +kernel), ?_⟩
  refine List.forall_mem_cons.mpr ⟨mx_ok_iconst (show decode b_xw_kind 3 = .ok (.iconst 3, 1) by decide +kernel) (by decide), ?_⟩
  refine List.forall_mem_cons.mpr ⟨mx_ok_iand (show decode b_xw_kind 4 = .ok (.iand, 1) by decide +kernel), ?_⟩
  refine List.forall_mem_cons.mpr ⟨mx_ok_iret (show decode b_xw_kind 5 = .ok (.ireturn, 1) by decide +kernel) rfl, ?_⟩
  exact fun _ h => absurd h List.not_mem_nil
set_option maxRecDepth 100000 in
set_option maxHeartbeats 4000000 in
theorem ct_xw_kind (l : Launch) (np nd : Nat) : mx_Ct l vw_T vw_cl (kx np nd) { frames := 0, cells := 0, slots := 0, locals := 0 } y_xw_kind b_xw_kind 1 (some .int) (pre_xw_kind np nd) (fn_xw_kind np nd) := by
  refine mx_ct_of (tb_xw_kind np nd ) (by decide) (ok_xw_kind l np nd ) (fun as u h => by obtain ⟨_, rfl, -⟩ := h; exact Nat.le_of_ble_eq_true rfl) ?_
  intro as u hpre At hc hw
  obtain ⟨a1, rfl, hp⟩ := hpre
  exact hc 200 [] _ _ _ _ (
    congrArg (mx_rI u) (show ((a1 >>> ((5 : Int32) &&& 31)) &&& (3 : Int32)) = (xw_kind a1 ) from (rfl).symm))
/-! WideMachine$Values.nearestInt(J)I -/
noncomputable def xv_nearestInt_b (a1 : Int64) : Int32 :=
  if (lg_cmp a1 2147483647) ≤ 0 then
   if 0 ≤ (lg_cmp a1 (-2147483648)) then
    a1.toInt32
   else
    (-2147483648)
  else
   2147483647
theorem xv_nearestInt_ex : ∃ f : Int64 → (Int32), f = xv_nearestInt_b := ⟨_, rfl⟩
noncomputable def xv_nearestInt : Int64 → (Int32) := Classical.choose xv_nearestInt_ex
theorem xv_nearestInt_eq (a1 : Int64) : (xv_nearestInt a1 ) = (xv_nearestInt_b a1 ) := by rw [show xv_nearestInt = xv_nearestInt_b from Classical.choose_spec xv_nearestInt_ex]
def pre_xv_nearestInt (np nd : Nat) : List mx_V → mx_S → Prop := fun as u => ∃ (a1 : Int64), as = [.inr (.inl a1)] ∧ True
noncomputable def fn_xv_nearestInt (np nd : Nat) : mx_F := fun as u => match as with
  | [.inr (.inl a1)] => mx_rI u (xv_nearestInt a1 )
  | _ => (none, u)
noncomputable def tb_xv_nearestInt (np nd : Nat) : List (Nat × mx_T) := [
  (0, mx_lload_n 0 0),
  (1, mx_ldc2 2147483647 1),
  (4, mx_lcmp 4),
  (5, mx_if_le 11 5),
  (8, mx_ldc 2147483647 8),
  (10, mx_iret 10),
  (11, mx_lload_n 0 11),
  (12, mx_ldc2 (-2147483648) 12),
  (15, mx_lcmp 15),
  (16, mx_if_ge 24 16),
  (19, mx_ldc (-2147483648) 19),
  (21, mx_goto 26 21),
  (24, mx_lload_n 0 24),
  (25, mx_l2i 25),
  (26, mx_iret 26)]
set_option maxRecDepth 100000 in
set_option maxHeartbeats 4000000 in
theorem ok_xv_nearestInt (l : Launch) (np nd : Nat) : ∀ q ∈ tb_xv_nearestInt np nd , mx_Ok l ({ frames := 0, cells := 0, slots := 0, locals := 0 } : Room) b_xv_nearestInt 2 "WideMachine$Values" (some .int) vw_T vw_cl (kx np nd) q.1 q.2 := by
  refine List.forall_mem_cons.mpr ⟨mx_ok_lload_n (show decode b_xv_nearestInt 0 = .ok (.lload_n 0, 1) by decide +kernel) rfl, ?_⟩
  refine List.forall_mem_cons.mpr ⟨mx_ok_ldc2 (show decode b_xv_nearestInt 1 = .ok (.ldc2_w 20, 3) by decide +kernel) vm_184, ?_⟩
  refine List.forall_mem_cons.mpr ⟨mx_ok_lcmp (show decode b_xv_nearestInt 4 = .ok (.lcmp, 1) by decide +kernel), ?_⟩
  refine List.forall_mem_cons.mpr ⟨mx_ok_if_le (show decode b_xv_nearestInt 5 = .ok (.ifCond .le 6, 3) by decide +kernel) (by decide), ?_⟩
  refine List.forall_mem_cons.mpr ⟨mx_ok_ldc (show decode b_xv_nearestInt 8 = .ok (.ldc 22, 2) by decide +kernel) vm_185, ?_⟩
  refine List.forall_mem_cons.mpr ⟨mx_ok_iret (show decode b_xv_nearestInt 10 = .ok (.ireturn, 1) by decide +kernel) rfl, ?_⟩
  refine List.forall_mem_cons.mpr ⟨mx_ok_lload_n (show decode b_xv_nearestInt 11 = .ok (.lload_n 0, 1) by decide +kernel) rfl, ?_⟩
  refine List.forall_mem_cons.mpr ⟨mx_ok_ldc2 (show decode b_xv_nearestInt 12 = .ok (.ldc2_w 23, 3) by decide +kernel) vm_186, ?_⟩
  refine List.forall_mem_cons.mpr ⟨mx_ok_lcmp (show decode b_xv_nearestInt 15 = .ok (.lcmp, 1) by decide +kernel), ?_⟩
  refine List.forall_mem_cons.mpr ⟨mx_ok_if_ge (show decode b_xv_nearestInt 16 = .ok (.ifCond .ge 8, 3) by decide +kernel) (by decide), ?_⟩
  refine List.forall_mem_cons.mpr ⟨mx_ok_ldc (show decode b_xv_nearestInt 19 = .ok (.ldc 25, 2) by decide +kernel) vm_187, ?_⟩
  refine List.forall_mem_cons.mpr ⟨mx_ok_goto (show decode b_xv_nearestInt 21 = .ok (.goto 5, 3) by decide +kernel) (by decide), ?_⟩
  refine List.forall_mem_cons.mpr ⟨mx_ok_lload_n (show decode b_xv_nearestInt 24 = .ok (.lload_n 0, 1) by decide +kernel) rfl, ?_⟩
  refine List.forall_mem_cons.mpr ⟨mx_ok_l2i (show decode b_xv_nearestInt 25 = .ok (.l2i, 1) by decide +kernel), ?_⟩
  refine List.forall_mem_cons.mpr ⟨mx_ok_iret (show decode b_xv_nearestInt 26 = .ok (.ireturn, 1) by decide +kernel) rfl, ?_⟩
  exact fun _ h => absurd h List.not_mem_nil
set_option maxRecDepth 100000 in
set_option maxHeartbeats 4000000 in
theorem ct_xv_nearestInt (l : Launch) (np nd : Nat) : mx_Ct l vw_T vw_cl (kx np nd) { frames := 0, cells := 0, slots := 0, locals := 0 } y_xv_nearestInt b_xv_nearestInt 2 (some .int) (pre_xv_nearestInt np nd) (fn_xv_nearestInt np nd) := by
  refine mx_ct_of (tb_xv_nearestInt np nd ) (by decide) (ok_xv_nearestInt l np nd ) (fun as u h => by obtain ⟨_, rfl, -⟩ := h; exact Nat.le_of_ble_eq_true rfl) ?_
  intro as u hpre At hc hw
  obtain ⟨a1, rfl, hp⟩ := hpre
  exact hc 200 [] _ _ _ _ (
    And.intro (fun h5 => 
     And.intro (fun h16 => 
      congrArg (mx_rI u) (show a1.toInt32 = (xv_nearestInt a1 ) from ((xv_nearestInt_eq a1 ).trans ((if_pos h5).trans (if_pos h16))).symm)) (fun h16 => 
      congrArg (mx_rI u) (show (-2147483648) = (xv_nearestInt a1 ) from ((xv_nearestInt_eq a1 ).trans ((if_pos h5).trans (if_neg h16))).symm))) (fun h5 => 
     congrArg (mx_rI u) (show 2147483647 = (xv_nearestInt a1 ) from ((xv_nearestInt_eq a1 ).trans (if_neg h5)).symm)))
/-! WideMachine$Values.bitsLikeHighest(I)I -/
noncomputable def xv_bitsLikeHighest_l10 (a1 : Int32) : Nat → Int32 → Int32 → Int32 → (Int32)
  | 0, _, _, _ => 0
  | n + 1, v1, v2, v3 =>
    if v3 < 0 then
     v2
    else
     if ((a1.toUInt32 >>> (v3.toUInt32 &&& Int32.toUInt32 31)).toInt32 &&& (1 : Int32)) = v1 then
      xv_bitsLikeHighest_l10 a1 n v1 (v2 + 1) (v3 + (-1))
     else
      v2
def q_xv_bitsLikeHighest_l10 (np nd : Nat) (a1 : Int32) (u : mx_S) : Nat → Int32 → Int32 → Int32 → Prop
  | 0, _, _, _ => False
  | n + 1, v1, v2, v3 =>
    ((v3 < 0) → 
     True) ∧ ((¬ (v3 < 0)) → 
     ((¬ (((a1.toUInt32 >>> (v3.toUInt32 &&& Int32.toUInt32 31)).toInt32 &&& (1 : Int32)) = v1)) → 
      True) ∧ ((((a1.toUInt32 >>> (v3.toUInt32 &&& Int32.toUInt32 31)).toInt32 &&& (1 : Int32)) = v1) → 
      q_xv_bitsLikeHighest_l10 np nd a1 u n v1 (v2 + 1) (v3 + (-1))))
noncomputable def xv_bitsLikeHighest_b (a1 : Int32) : Int32 :=
  xv_bitsLikeHighest_l10 a1 33 (a1.toUInt32 >>> ((31 : Int32).toUInt32 &&& Int32.toUInt32 31)).toInt32 0 30
theorem xv_bitsLikeHighest_ex : ∃ f : Int32 → (Int32), f = xv_bitsLikeHighest_b := ⟨_, rfl⟩
noncomputable def xv_bitsLikeHighest : Int32 → (Int32) := Classical.choose xv_bitsLikeHighest_ex
theorem xv_bitsLikeHighest_eq (a1 : Int32) : (xv_bitsLikeHighest a1 ) = (xv_bitsLikeHighest_b a1 ) := by rw [show xv_bitsLikeHighest = xv_bitsLikeHighest_b from Classical.choose_spec xv_bitsLikeHighest_ex]
def q_xv_bitsLikeHighest (np nd : Nat) (a1 : Int32) (u : mx_S) : Prop :=
  q_xv_bitsLikeHighest_l10 np nd a1 u 33 (a1.toUInt32 >>> ((31 : Int32).toUInt32 &&& Int32.toUInt32 31)).toInt32 0 30
def pre_xv_bitsLikeHighest (np nd : Nat) : List mx_V → mx_S → Prop := fun as u => ∃ (a1 : Int32), as = [.inl a1] ∧ q_xv_bitsLikeHighest np nd a1 u
noncomputable def fn_xv_bitsLikeHighest (np nd : Nat) : mx_F := fun as u => match as with
  | [.inl a1] => mx_rI u (xv_bitsLikeHighest a1 )
  | _ => (none, u)
noncomputable def tb_xv_bitsLikeHighest (np nd : Nat) : List (Nat × mx_T) := [
  (0, mx_iload_n 0 0),
  (1, mx_bipush 31 1),
  (3, mx_iushr 3),
  (4, mx_istore_n 1 4),
  (5, mx_iconst 0 5),
  (6, mx_istore_n 2 6),
  (7, mx_bipush 30 7),
  (9, mx_istore_n 3 9),
  (10, mx_iload_n 3 10),
  (11, mx_if_lt 32 11),
  (14, mx_iload_n 0 14),
  (15, mx_iload_n 3 15),
  (16, mx_iushr 16),
  (17, mx_iconst 1 17),
  (18, mx_iand 18),
  (19, mx_iload_n 1 19),
  (20, mx_icmp_ne 32 20),
  (23, mx_iinc 2 1 23),
  (26, mx_iinc 3 (-1) 26),
  (29, mx_goto 10 29),
  (32, mx_iload_n 2 32),
  (33, mx_iret 33)]
set_option maxRecDepth 100000 in
set_option maxHeartbeats 4000000 in
theorem ok_xv_bitsLikeHighest (l : Launch) (np nd : Nat) : ∀ q ∈ tb_xv_bitsLikeHighest np nd , mx_Ok l ({ frames := 0, cells := 0, slots := 0, locals := 0 } : Room) b_xv_bitsLikeHighest 4 "WideMachine$Values" (some .int) vw_T vw_cl (kx np nd) q.1 q.2 := by
  refine List.forall_mem_cons.mpr ⟨mx_ok_iload_n (show decode b_xv_bitsLikeHighest 0 = .ok (.iload_n 0, 1) by decide +kernel) rfl, ?_⟩
  refine List.forall_mem_cons.mpr ⟨mx_ok_bipush (show decode b_xv_bitsLikeHighest 1 = .ok (.bipush 31, 2) by decide +kernel) (by decide), ?_⟩
  refine List.forall_mem_cons.mpr ⟨mx_ok_iushr (show decode b_xv_bitsLikeHighest 3 = .ok (.iushr, 1) by decide +kernel), ?_⟩
  refine List.forall_mem_cons.mpr ⟨mx_ok_istore_n (show decode b_xv_bitsLikeHighest 4 = .ok (.istore_n 1, 1) by decide +kernel) rfl (by decide), ?_⟩
  refine List.forall_mem_cons.mpr ⟨mx_ok_iconst (show decode b_xv_bitsLikeHighest 5 = .ok (.iconst 0, 1) by decide +kernel) (by decide), ?_⟩
  refine List.forall_mem_cons.mpr ⟨mx_ok_istore_n (show decode b_xv_bitsLikeHighest 6 = .ok (.istore_n 2, 1) by decide +kernel) rfl (by decide), ?_⟩
  refine List.forall_mem_cons.mpr ⟨mx_ok_bipush (show decode b_xv_bitsLikeHighest 7 = .ok (.bipush 30, 2) by decide +kernel) (by decide), ?_⟩
  refine List.forall_mem_cons.mpr ⟨mx_ok_istore_n (show decode b_xv_bitsLikeHighest 9 = .ok (.istore_n 3, 1) by decide +kernel) rfl (by decide), ?_⟩
  refine List.forall_mem_cons.mpr ⟨mx_ok_iload_n (show decode b_xv_bitsLikeHighest 10 = .ok (.iload_n 3, 1) by decide +kernel) rfl, ?_⟩
  refine List.forall_mem_cons.mpr ⟨mx_ok_if_lt (show decode b_xv_bitsLikeHighest 11 = .ok (.ifCond .lt 21, 3) by decide +kernel) (by decide), ?_⟩
  refine List.forall_mem_cons.mpr ⟨mx_ok_iload_n (show decode b_xv_bitsLikeHighest 14 = .ok (.iload_n 0, 1) by decide +kernel) rfl, ?_⟩
  refine List.forall_mem_cons.mpr ⟨mx_ok_iload_n (show decode b_xv_bitsLikeHighest 15 = .ok (.iload_n 3, 1) by decide +kernel) rfl, ?_⟩
  refine List.forall_mem_cons.mpr ⟨mx_ok_iushr (show decode b_xv_bitsLikeHighest 16 = .ok (.iushr, 1) by decide +kernel), ?_⟩
  refine List.forall_mem_cons.mpr ⟨mx_ok_iconst (show decode b_xv_bitsLikeHighest 17 = .ok (.iconst 1, 1) by decide +kernel) (by decide), ?_⟩
  refine List.forall_mem_cons.mpr ⟨mx_ok_iand (show decode b_xv_bitsLikeHighest 18 = .ok (.iand, 1) by decide +kernel), ?_⟩
  refine List.forall_mem_cons.mpr ⟨mx_ok_iload_n (show decode b_xv_bitsLikeHighest 19 = .ok (.iload_n 1, 1) by decide +kernel) rfl, ?_⟩
  refine List.forall_mem_cons.mpr ⟨mx_ok_icmp_ne (show decode b_xv_bitsLikeHighest 20 = .ok (.if_icmp .ne 12, 3) by decide +kernel) (by decide), ?_⟩
  refine List.forall_mem_cons.mpr ⟨mx_ok_iinc (show decode b_xv_bitsLikeHighest 23 = .ok (.iinc 2 1, 3) by decide +kernel) (by decide) (by decide), ?_⟩
  refine List.forall_mem_cons.mpr ⟨mx_ok_iinc (show decode b_xv_bitsLikeHighest 26 = .ok (.iinc 3 (-1), 3) by decide +kernel) (by decide) (by decide), ?_⟩
  refine List.forall_mem_cons.mpr ⟨mx_ok_goto (show decode b_xv_bitsLikeHighest 29 = .ok (.goto (-19), 3) by decide +kernel) (by decide), ?_⟩
  refine List.forall_mem_cons.mpr ⟨mx_ok_iload_n (show decode b_xv_bitsLikeHighest 32 = .ok (.iload_n 2, 1) by decide +kernel) rfl, ?_⟩
  refine List.forall_mem_cons.mpr ⟨mx_ok_iret (show decode b_xv_bitsLikeHighest 33 = .ok (.ireturn, 1) by decide +kernel) rfl, ?_⟩
  exact fun _ h => absurd h List.not_mem_nil
set_option maxRecDepth 100000 in
set_option maxHeartbeats 4000000 in
theorem ct_xv_bitsLikeHighest (l : Launch) (np nd : Nat) : mx_Ct l vw_T vw_cl (kx np nd) { frames := 0, cells := 0, slots := 0, locals := 0 } y_xv_bitsLikeHighest b_xv_bitsLikeHighest 4 (some .int) (pre_xv_bitsLikeHighest np nd) (fn_xv_bitsLikeHighest np nd) := by
  refine mx_ct_of (tb_xv_bitsLikeHighest np nd ) (by decide) (ok_xv_bitsLikeHighest l np nd ) (fun as u h => by obtain ⟨_, rfl, -⟩ := h; exact Nat.le_of_ble_eq_true rfl) ?_
  intro as u hpre At hc hw
  obtain ⟨a1, rfl, hp⟩ := hpre
  obtain ⟨RES, hRES⟩ : ∃ z, z = (xv_bitsLikeHighest a1 ) := ⟨_, rfl⟩
  have hfn : fn_xv_bitsLikeHighest np nd [.inl a1] u = mx_rI u RES := by rw [hRES]; rfl
  rw [hfn] at hc
  have lp10 : ∀ (n10 : Nat) (v1 : Int32) (v2 : Int32) (v3 : Int32), q_xv_bitsLikeHighest_l10 np nd a1 u n10 v1 v2 v3 → xv_bitsLikeHighest_l10 a1 n10 v1 v2 v3 = RES → At 10 [(1, .inl v1), (2, .inl v2), (3, .inl v3), (0, .inl a1)] [] u := by
    intro n10
    induction n10 with
    | zero =>
      intro v1 v2 v3 hi he
      exact hi.elim
    | succ n10 ih10 =>
      intro v1 v2 v3 hi10 he10
      exact hc 200 [10] _ _ _ _ (
        And.intro (fun h11 => 
         congrArg (mx_rI u) (show v2 = RES from (if_pos h11).symm.trans he10)) (fun h11 => 
         And.intro (fun h20 => 
          congrArg (mx_rI u) (show v2 = RES from ((if_neg h11).trans (if_neg h20)).symm.trans he10)) (fun h20 => 
          hw [2, 1, 0, 3] 10 _ [] _ (ih10 v1 (v2 + 1) (v3 + (-1)) ((hi10.2 h11).2 h20) (((if_neg h11).trans (if_pos h20)).symm.trans he10)))))
  exact hc 200 [10] _ _ _ _ (
    hw [2, 1, 0, 3] 10 _ [] _ (lp10 33 (a1.toUInt32 >>> ((31 : Int32).toUInt32 &&& Int32.toUInt32 31)).toInt32 0 30 hp ((xv_bitsLikeHighest_eq a1 ).symm.trans hRES.symm)))
/-! WideMachine$Values.ofL(III)I -/
noncomputable def xv_ofL_b (a1 : Int32) (a2 : Int32) (a3 : Int32) : Int32 :=
  if a1 = 0 then
   (a2 + a3)
  else
  if a1 = 1 then
   (a2 - a3)
  else
  if a1 = 2 then
   (a2 &&& a3)
  else
  if a1 = 3 then
   (a2 ||| a3)
  else
  if a1 = 4 then
   (a2 ^^^ a3)
  else
  if a1 = 5 then
   if a2 = a3 then
    1
   else
    0
  else
  if a1 = 6 then
   if a2 ≤ a3 then
    0
   else
    1
  else
  if a1 = 7 then
   if a3 ≤ a2 then
    0
   else
    1
  else
  if a1 = 8 then
   (xv_nearestInt (a2.toInt64 + a3.toInt64) )
  else
  if a1 = 9 then
   (xv_bitsLikeHighest a3 )
  else
  0
theorem xv_ofL_ex : ∃ f : Int32 → Int32 → Int32 → (Int32), f = xv_ofL_b := ⟨_, rfl⟩
noncomputable def xv_ofL : Int32 → Int32 → Int32 → (Int32) := Classical.choose xv_ofL_ex
theorem xv_ofL_eq (a1 : Int32) (a2 : Int32) (a3 : Int32) : (xv_ofL a1 a2 a3 ) = (xv_ofL_b a1 a2 a3 ) := by rw [show xv_ofL = xv_ofL_b from Classical.choose_spec xv_ofL_ex]
def q_xv_ofL (np nd : Nat) (a1 : Int32) (a2 : Int32) (a3 : Int32) (u : mx_S) : Prop :=
  ((a1 = 0) → 
   True) ∧ (¬ (a1 = 0) → 
  ((a1 = 1) → 
   True) ∧ (¬ (a1 = 1) → 
  ((a1 = 2) → 
   True) ∧ (¬ (a1 = 2) → 
  ((a1 = 3) → 
   True) ∧ (¬ (a1 = 3) → 
  ((a1 = 4) → 
   True) ∧ (¬ (a1 = 4) → 
  ((a1 = 5) → 
   True) ∧ (¬ (a1 = 5) → 
  ((a1 = 6) → 
   True) ∧ (¬ (a1 = 6) → 
  ((a1 = 7) → 
   True) ∧ (¬ (a1 = 7) → 
  ((a1 = 8) → 
   True) ∧ (¬ (a1 = 8) → 
  ((a1 = 9) → 
   ((q_xv_bitsLikeHighest np nd a3 u))) ∧ (¬ (a1 = 9) → 
   True))))))))))
def pre_xv_ofL (np nd : Nat) : List mx_V → mx_S → Prop := fun as u => ∃ (a1 : Int32) (a2 : Int32) (a3 : Int32), as = [.inl a1, .inl a2, .inl a3] ∧ q_xv_ofL np nd a1 a2 a3 u
noncomputable def fn_xv_ofL (np nd : Nat) : mx_F := fun as u => match as with
  | [.inl a1, .inl a2, .inl a3] => mx_rI u (xv_ofL a1 a2 a3 )
  | _ => (none, u)
noncomputable def tb_xv_ofL (np nd : Nat) : List (Nat × mx_T) := [
  (0, mx_iload_n 0 0),
  (1, mx_tsw 123 [(0, 56), (1, 60), (2, 64), (3, 68), (4, 72), (5, 76), (6, 87), (7, 98), (8, 109), (9, 118)] 1),
  (56, mx_iload_n 1 56),
  (57, mx_iload_n 2 57),
  (58, mx_iadd 58),
  (59, mx_iret 59),
  (60, mx_iload_n 1 60),
  (61, mx_iload_n 2 61),
  (62, mx_isub 62),
  (63, mx_iret 63),
  (64, mx_iload_n 1 64),
  (65, mx_iload_n 2 65),
  (66, mx_iand 66),
  (67, mx_iret 67),
  (68, mx_iload_n 1 68),
  (69, mx_iload_n 2 69),
  (70, mx_ior 70),
  (71, mx_iret 71),
  (72, mx_iload_n 1 72),
  (73, mx_iload_n 2 73),
  (74, mx_ixor 74),
  (75, mx_iret 75),
  (76, mx_iload_n 1 76),
  (77, mx_iload_n 2 77),
  (78, mx_icmp_ne 85 78),
  (81, mx_iconst 1 81),
  (82, mx_goto 86 82),
  (85, mx_iconst 0 85),
  (86, mx_iret 86),
  (87, mx_iload_n 1 87),
  (88, mx_iload_n 2 88),
  (89, mx_icmp_le 96 89),
  (92, mx_iconst 1 92),
  (93, mx_goto 97 93),
  (96, mx_iconst 0 96),
  (97, mx_iret 97),
  (98, mx_iload_n 1 98),
  (99, mx_iload_n 2 99),
  (100, mx_icmp_ge 107 100),
  (103, mx_iconst 1 103),
  (104, mx_goto 108 104),
  (107, mx_iconst 0 107),
  (108, mx_iret 108),
  (109, mx_iload_n 1 109),
  (110, mx_i2l 110),
  (111, mx_iload_n 2 111),
  (112, mx_i2l 112),
  (113, mx_ladd 113),
  (114, mx_invS 1 (pre_xv_nearestInt np nd) (fn_xv_nearestInt np nd) 114),
  (117, mx_iret 117),
  (118, mx_iload_n 2 118),
  (119, mx_invS 1 (pre_xv_bitsLikeHighest np nd) (fn_xv_bitsLikeHighest np nd) 119),
  (122, mx_iret 122),
  (123, mx_iconst 0 123),
  (124, mx_iret 124)]
set_option maxRecDepth 100000 in
set_option maxHeartbeats 4000000 in
theorem ok_xv_ofL (l : Launch) (np nd : Nat) : ∀ q ∈ tb_xv_ofL np nd , mx_Ok l ({ frames := 1, cells := 0, slots := 0, locals := 23 } : Room) b_xv_ofL 3 "WideMachine$Values" (some .int) vw_T vw_cl (kx np nd) q.1 q.2 := by
  refine List.forall_mem_cons.mpr ⟨mx_ok_iload_n (show decode b_xv_ofL 0 = .ok (.iload_n 0, 1) by decide +kernel) rfl, ?_⟩
  refine List.forall_mem_cons.mpr ⟨mx_ok_tsw (show decode b_xv_ofL 1 = .ok (.tableswitch 122 0 9 #[55, 59, 63, 67, 71, 75, 86, 97, 108, 117], 55) by decide +kernel) (by decide) (by decide), ?_⟩
  refine List.forall_mem_cons.mpr ⟨mx_ok_iload_n (show decode b_xv_ofL 56 = .ok (.iload_n 1, 1) by decide +kernel) rfl, ?_⟩
  refine List.forall_mem_cons.mpr ⟨mx_ok_iload_n (show decode b_xv_ofL 57 = .ok (.iload_n 2, 1) by decide +kernel) rfl, ?_⟩
  refine List.forall_mem_cons.mpr ⟨mx_ok_iadd (show decode b_xv_ofL 58 = .ok (.iadd, 1) by decide +kernel), ?_⟩
  refine List.forall_mem_cons.mpr ⟨mx_ok_iret (show decode b_xv_ofL 59 = .ok (.ireturn, 1) by decide +kernel) rfl, ?_⟩
  refine List.forall_mem_cons.mpr ⟨mx_ok_iload_n (show decode b_xv_ofL 60 = .ok (.iload_n 1, 1) by decide +kernel) rfl, ?_⟩
  refine List.forall_mem_cons.mpr ⟨mx_ok_iload_n (show decode b_xv_ofL 61 = .ok (.iload_n 2, 1) by decide +kernel) rfl, ?_⟩
  refine List.forall_mem_cons.mpr ⟨mx_ok_isub (show decode b_xv_ofL 62 = .ok (.isub, 1) by decide +kernel), ?_⟩
  refine List.forall_mem_cons.mpr ⟨mx_ok_iret (show decode b_xv_ofL 63 = .ok (.ireturn, 1) by decide +kernel) rfl, ?_⟩
  refine List.forall_mem_cons.mpr ⟨mx_ok_iload_n (show decode b_xv_ofL 64 = .ok (.iload_n 1, 1) by decide +kernel) rfl, ?_⟩
  refine List.forall_mem_cons.mpr ⟨mx_ok_iload_n (show decode b_xv_ofL 65 = .ok (.iload_n 2, 1) by decide +kernel) rfl, ?_⟩
  refine List.forall_mem_cons.mpr ⟨mx_ok_iand (show decode b_xv_ofL 66 = .ok (.iand, 1) by decide +kernel), ?_⟩
  refine List.forall_mem_cons.mpr ⟨mx_ok_iret (show decode b_xv_ofL 67 = .ok (.ireturn, 1) by decide +kernel) rfl, ?_⟩
  refine List.forall_mem_cons.mpr ⟨mx_ok_iload_n (show decode b_xv_ofL 68 = .ok (.iload_n 1, 1) by decide +kernel) rfl, ?_⟩
  refine List.forall_mem_cons.mpr ⟨mx_ok_iload_n (show decode b_xv_ofL 69 = .ok (.iload_n 2, 1) by decide +kernel) rfl, ?_⟩
  refine List.forall_mem_cons.mpr ⟨mx_ok_ior (show decode b_xv_ofL 70 = .ok (.ior, 1) by decide +kernel), ?_⟩
  refine List.forall_mem_cons.mpr ⟨mx_ok_iret (show decode b_xv_ofL 71 = .ok (.ireturn, 1) by decide +kernel) rfl, ?_⟩
  refine List.forall_mem_cons.mpr ⟨mx_ok_iload_n (show decode b_xv_ofL 72 = .ok (.iload_n 1, 1) by decide +kernel) rfl, ?_⟩
  refine List.forall_mem_cons.mpr ⟨mx_ok_iload_n (show decode b_xv_ofL 73 = .ok (.iload_n 2, 1) by decide +kernel) rfl, ?_⟩
  refine List.forall_mem_cons.mpr ⟨mx_ok_ixor (show decode b_xv_ofL 74 = .ok (.ixor, 1) by decide +kernel), ?_⟩
  refine List.forall_mem_cons.mpr ⟨mx_ok_iret (show decode b_xv_ofL 75 = .ok (.ireturn, 1) by decide +kernel) rfl, ?_⟩
  refine List.forall_mem_cons.mpr ⟨mx_ok_iload_n (show decode b_xv_ofL 76 = .ok (.iload_n 1, 1) by decide +kernel) rfl, ?_⟩
  refine List.forall_mem_cons.mpr ⟨mx_ok_iload_n (show decode b_xv_ofL 77 = .ok (.iload_n 2, 1) by decide +kernel) rfl, ?_⟩
  refine List.forall_mem_cons.mpr ⟨mx_ok_icmp_ne (show decode b_xv_ofL 78 = .ok (.if_icmp .ne 7, 3) by decide +kernel) (by decide), ?_⟩
  refine List.forall_mem_cons.mpr ⟨mx_ok_iconst (show decode b_xv_ofL 81 = .ok (.iconst 1, 1) by decide +kernel) (by decide), ?_⟩
  refine List.forall_mem_cons.mpr ⟨mx_ok_goto (show decode b_xv_ofL 82 = .ok (.goto 4, 3) by decide +kernel) (by decide), ?_⟩
  refine List.forall_mem_cons.mpr ⟨mx_ok_iconst (show decode b_xv_ofL 85 = .ok (.iconst 0, 1) by decide +kernel) (by decide), ?_⟩
  refine List.forall_mem_cons.mpr ⟨mx_ok_iret (show decode b_xv_ofL 86 = .ok (.ireturn, 1) by decide +kernel) rfl, ?_⟩
  refine List.forall_mem_cons.mpr ⟨mx_ok_iload_n (show decode b_xv_ofL 87 = .ok (.iload_n 1, 1) by decide +kernel) rfl, ?_⟩
  refine List.forall_mem_cons.mpr ⟨mx_ok_iload_n (show decode b_xv_ofL 88 = .ok (.iload_n 2, 1) by decide +kernel) rfl, ?_⟩
  refine List.forall_mem_cons.mpr ⟨mx_ok_icmp_le (show decode b_xv_ofL 89 = .ok (.if_icmp .le 7, 3) by decide +kernel) (by decide), ?_⟩
  refine List.forall_mem_cons.mpr ⟨mx_ok_iconst (show decode b_xv_ofL 92 = .ok (.iconst 1, 1) by decide +kernel) (by decide), ?_⟩
  refine List.forall_mem_cons.mpr ⟨mx_ok_goto (show decode b_xv_ofL 93 = .ok (.goto 4, 3) by decide +kernel) (by decide), ?_⟩
  refine List.forall_mem_cons.mpr ⟨mx_ok_iconst (show decode b_xv_ofL 96 = .ok (.iconst 0, 1) by decide +kernel) (by decide), ?_⟩
  refine List.forall_mem_cons.mpr ⟨mx_ok_iret (show decode b_xv_ofL 97 = .ok (.ireturn, 1) by decide +kernel) rfl, ?_⟩
  refine List.forall_mem_cons.mpr ⟨mx_ok_iload_n (show decode b_xv_ofL 98 = .ok (.iload_n 1, 1) by decide +kernel) rfl, ?_⟩
  refine List.forall_mem_cons.mpr ⟨mx_ok_iload_n (show decode b_xv_ofL 99 = .ok (.iload_n 2, 1) by decide +kernel) rfl, ?_⟩
  refine List.forall_mem_cons.mpr ⟨mx_ok_icmp_ge (show decode b_xv_ofL 100 = .ok (.if_icmp .ge 7, 3) by decide +kernel) (by decide), ?_⟩
  refine List.forall_mem_cons.mpr ⟨mx_ok_iconst (show decode b_xv_ofL 103 = .ok (.iconst 1, 1) by decide +kernel) (by decide), ?_⟩
  refine List.forall_mem_cons.mpr ⟨mx_ok_goto (show decode b_xv_ofL 104 = .ok (.goto 4, 3) by decide +kernel) (by decide), ?_⟩
  refine List.forall_mem_cons.mpr ⟨mx_ok_iconst (show decode b_xv_ofL 107 = .ok (.iconst 0, 1) by decide +kernel) (by decide), ?_⟩
  refine List.forall_mem_cons.mpr ⟨mx_ok_iret (show decode b_xv_ofL 108 = .ok (.ireturn, 1) by decide +kernel) rfl, ?_⟩
  refine List.forall_mem_cons.mpr ⟨mx_ok_iload_n (show decode b_xv_ofL 109 = .ok (.iload_n 1, 1) by decide +kernel) rfl, ?_⟩
  refine List.forall_mem_cons.mpr ⟨mx_ok_i2l (show decode b_xv_ofL 110 = .ok (.i2l, 1) by decide +kernel), ?_⟩
  refine List.forall_mem_cons.mpr ⟨mx_ok_iload_n (show decode b_xv_ofL 111 = .ok (.iload_n 2, 1) by decide +kernel) rfl, ?_⟩
  refine List.forall_mem_cons.mpr ⟨mx_ok_i2l (show decode b_xv_ofL 112 = .ok (.i2l, 1) by decide +kernel), ?_⟩
  refine List.forall_mem_cons.mpr ⟨mx_ok_ladd (show decode b_xv_ofL 113 = .ok (.ladd, 1) by decide +kernel), ?_⟩
  refine List.forall_mem_cons.mpr ⟨mx_ok_invS vw_G (ct_xv_nearestInt l np nd) ⟨vm_188, vm_189, vm_190, ⟨by decide +kernel, by decide +kernel, by decide +kernel⟩, ⟨by decide, by decide⟩, rfl, rfl⟩ vm_191 (show decode b_xv_ofL 114 = .ok (.invokestatic 7, 3) by decide +kernel), ?_⟩
  refine List.forall_mem_cons.mpr ⟨mx_ok_iret (show decode b_xv_ofL 117 = .ok (.ireturn, 1) by decide +kernel) rfl, ?_⟩
  refine List.forall_mem_cons.mpr ⟨mx_ok_iload_n (show decode b_xv_ofL 118 = .ok (.iload_n 2, 1) by decide +kernel) rfl, ?_⟩
  refine List.forall_mem_cons.mpr ⟨mx_ok_invS vw_G (ct_xv_bitsLikeHighest l np nd) ⟨vm_192, vm_193, vm_190, ⟨by decide +kernel, by decide +kernel, by decide +kernel⟩, ⟨by decide, by decide⟩, rfl, rfl⟩ vm_194 (show decode b_xv_ofL 119 = .ok (.invokestatic 13, 3) by decide +kernel), ?_⟩
  refine List.forall_mem_cons.mpr ⟨mx_ok_iret (show decode b_xv_ofL 122 = .ok (.ireturn, 1) by decide +kernel) rfl, ?_⟩
  refine List.forall_mem_cons.mpr ⟨mx_ok_iconst (show decode b_xv_ofL 123 = .ok (.iconst 0, 1) by decide +kernel) (by decide), ?_⟩
  refine List.forall_mem_cons.mpr ⟨mx_ok_iret (show decode b_xv_ofL 124 = .ok (.ireturn, 1) by decide +kernel) rfl, ?_⟩
  exact fun _ h => absurd h List.not_mem_nil
set_option maxRecDepth 100000 in
set_option maxHeartbeats 4000000 in
theorem ct_xv_ofL (l : Launch) (np nd : Nat) : mx_Ct l vw_T vw_cl (kx np nd) { frames := 1, cells := 0, slots := 0, locals := 23 } y_xv_ofL b_xv_ofL 3 (some .int) (pre_xv_ofL np nd) (fn_xv_ofL np nd) := by
  refine mx_ct_of (tb_xv_ofL np nd ) (by decide) (ok_xv_ofL l np nd ) (fun as u h => by obtain ⟨_, _, _, rfl, -⟩ := h; exact Nat.le_of_ble_eq_true rfl) ?_
  intro as u hpre At hc hw
  obtain ⟨a1, a2, a3, rfl, hp⟩ := hpre
  exact hc 200 [] _ _ _ _ (
    And.intro (fun h1_0 => 
     congrArg (mx_rI u) (show (a2 + a3) = (xv_ofL a1 a2 a3 ) from ((xv_ofL_eq a1 a2 a3 ).trans (if_pos h1_0)).symm)) (fun h1_0 => 
    And.intro (fun h1_1 => 
     congrArg (mx_rI u) (show (a2 - a3) = (xv_ofL a1 a2 a3 ) from ((xv_ofL_eq a1 a2 a3 ).trans ((if_neg h1_0).trans (if_pos h1_1))).symm)) (fun h1_1 => 
    And.intro (fun h1_2 => 
     congrArg (mx_rI u) (show (a2 &&& a3) = (xv_ofL a1 a2 a3 ) from ((xv_ofL_eq a1 a2 a3 ).trans ((if_neg h1_0).trans ((if_neg h1_1).trans (if_pos h1_2)))).symm)) (fun h1_2 => 
    And.intro (fun h1_3 => 
     congrArg (mx_rI u) (show (a2 ||| a3) = (xv_ofL a1 a2 a3 ) from ((xv_ofL_eq a1 a2 a3 ).trans ((if_neg h1_0).trans ((if_neg h1_1).trans ((if_neg h1_2).trans (if_pos h1_3))))).symm)) (fun h1_3 => 
    And.intro (fun h1_4 => 
     congrArg (mx_rI u) (show (a2 ^^^ a3) = (xv_ofL a1 a2 a3 ) from ((xv_ofL_eq a1 a2 a3 ).trans ((if_neg h1_0).trans ((if_neg h1_1).trans ((if_neg h1_2).trans ((if_neg h1_3).trans (if_pos h1_4)))))).symm)) (fun h1_4 => 
    And.intro (fun h1_5 => 
     And.intro (fun h78 => 
      congrArg (mx_rI u) (show 0 = (xv_ofL a1 a2 a3 ) from ((xv_ofL_eq a1 a2 a3 ).trans ((if_neg h1_0).trans ((if_neg h1_1).trans ((if_neg h1_2).trans ((if_neg h1_3).trans ((if_neg h1_4).trans ((if_pos h1_5).trans (if_neg h78)))))))).symm)) (fun h78 => 
      congrArg (mx_rI u) (show 1 = (xv_ofL a1 a2 a3 ) from ((xv_ofL_eq a1 a2 a3 ).trans ((if_neg h1_0).trans ((if_neg h1_1).trans ((if_neg h1_2).trans ((if_neg h1_3).trans ((if_neg h1_4).trans ((if_pos h1_5).trans (if_pos h78)))))))).symm))) (fun h1_5 => 
    And.intro (fun h1_6 => 
     And.intro (fun h89 => 
      congrArg (mx_rI u) (show 0 = (xv_ofL a1 a2 a3 ) from ((xv_ofL_eq a1 a2 a3 ).trans ((if_neg h1_0).trans ((if_neg h1_1).trans ((if_neg h1_2).trans ((if_neg h1_3).trans ((if_neg h1_4).trans ((if_neg h1_5).trans ((if_pos h1_6).trans (if_pos h89))))))))).symm)) (fun h89 => 
      congrArg (mx_rI u) (show 1 = (xv_ofL a1 a2 a3 ) from ((xv_ofL_eq a1 a2 a3 ).trans ((if_neg h1_0).trans ((if_neg h1_1).trans ((if_neg h1_2).trans ((if_neg h1_3).trans ((if_neg h1_4).trans ((if_neg h1_5).trans ((if_pos h1_6).trans (if_neg h89))))))))).symm))) (fun h1_6 => 
    And.intro (fun h1_7 => 
     And.intro (fun h100 => 
      congrArg (mx_rI u) (show 0 = (xv_ofL a1 a2 a3 ) from ((xv_ofL_eq a1 a2 a3 ).trans ((if_neg h1_0).trans ((if_neg h1_1).trans ((if_neg h1_2).trans ((if_neg h1_3).trans ((if_neg h1_4).trans ((if_neg h1_5).trans ((if_neg h1_6).trans ((if_pos h1_7).trans (if_pos h100)))))))))).symm)) (fun h100 => 
      congrArg (mx_rI u) (show 1 = (xv_ofL a1 a2 a3 ) from ((xv_ofL_eq a1 a2 a3 ).trans ((if_neg h1_0).trans ((if_neg h1_1).trans ((if_neg h1_2).trans ((if_neg h1_3).trans ((if_neg h1_4).trans ((if_neg h1_5).trans ((if_neg h1_6).trans ((if_pos h1_7).trans (if_neg h100)))))))))).symm))) (fun h1_7 => 
    And.intro (fun h1_8 => 
     And.intro rfl (
     And.intro ⟨_, rfl, trivial⟩ (
     congrArg (mx_rI u) (show (xv_nearestInt (a2.toInt64 + a3.toInt64) ) = (xv_ofL a1 a2 a3 ) from ((xv_ofL_eq a1 a2 a3 ).trans ((if_neg h1_0).trans ((if_neg h1_1).trans ((if_neg h1_2).trans ((if_neg h1_3).trans ((if_neg h1_4).trans ((if_neg h1_5).trans ((if_neg h1_6).trans ((if_neg h1_7).trans (if_pos h1_8)))))))))).symm)))) (fun h1_8 => 
    And.intro (fun h1_9 => 
     And.intro rfl (
     And.intro ⟨_, rfl, ((((((((((hp.2 h1_0).2 h1_1).2 h1_2).2 h1_3).2 h1_4).2 h1_5).2 h1_6).2 h1_7).2 h1_8).1 h1_9)⟩ (
     congrArg (mx_rI u) (show (xv_bitsLikeHighest a3 ) = (xv_ofL a1 a2 a3 ) from ((xv_ofL_eq a1 a2 a3 ).trans ((if_neg h1_0).trans ((if_neg h1_1).trans ((if_neg h1_2).trans ((if_neg h1_3).trans ((if_neg h1_4).trans ((if_neg h1_5).trans ((if_neg h1_6).trans ((if_neg h1_7).trans ((if_neg h1_8).trans (if_pos h1_9))))))))))).symm)))) (fun h1_9 => 
     congrArg (mx_rI u) (show 0 = (xv_ofL a1 a2 a3 ) from ((xv_ofL_eq a1 a2 a3 ).trans ((if_neg h1_0).trans ((if_neg h1_1).trans ((if_neg h1_2).trans ((if_neg h1_3).trans ((if_neg h1_4).trans ((if_neg h1_5).trans ((if_neg h1_6).trans ((if_neg h1_7).trans ((if_neg h1_8).trans (if_neg h1_9))))))))))).symm))))))))))))
/-! WideMachine$Values.ofS(III)I -/
noncomputable def xv_ofS_b (a1 : Int32) (a2 : Int32) (a3 : Int32) : Int32 :=
  if a1 = 16 then
   (a2 + a3)
  else
  if a1 = 17 then
   (a2 - a3)
  else
  if a1 = 18 then
   (a2 <<< ((a3 &&& (31 : Int32)) &&& 31))
  else
  if a1 = 19 then
   (a2 >>> ((a3 &&& (31 : Int32)) &&& 31))
  else
  if a1 = 20 then
   (a2.toUInt32 >>> ((a3 &&& (31 : Int32)).toUInt32 &&& Int32.toUInt32 31)).toInt32
  else
  0
theorem xv_ofS_ex : ∃ f : Int32 → Int32 → Int32 → (Int32), f = xv_ofS_b := ⟨_, rfl⟩
noncomputable def xv_ofS : Int32 → Int32 → Int32 → (Int32) := Classical.choose xv_ofS_ex
theorem xv_ofS_eq (a1 : Int32) (a2 : Int32) (a3 : Int32) : (xv_ofS a1 a2 a3 ) = (xv_ofS_b a1 a2 a3 ) := by rw [show xv_ofS = xv_ofS_b from Classical.choose_spec xv_ofS_ex]
def pre_xv_ofS (np nd : Nat) : List mx_V → mx_S → Prop := fun as u => ∃ (a1 : Int32) (a2 : Int32) (a3 : Int32), as = [.inl a1, .inl a2, .inl a3] ∧ True
noncomputable def fn_xv_ofS (np nd : Nat) : mx_F := fun as u => match as with
  | [.inl a1, .inl a2, .inl a3] => mx_rI u (xv_ofS a1 a2 a3 )
  | _ => (none, u)
noncomputable def tb_xv_ofS (np nd : Nat) : List (Nat × mx_T) := [
  (0, mx_iload_n 0 0),
  (1, mx_tsw 65 [(16, 36), (17, 40), (18, 44), (19, 51), (20, 58)] 1),
  (36, mx_iload_n 1 36),
  (37, mx_iload_n 2 37),
  (38, mx_iadd 38),
  (39, mx_iret 39),
  (40, mx_iload_n 1 40),
  (41, mx_iload_n 2 41),
  (42, mx_isub 42),
  (43, mx_iret 43),
  (44, mx_iload_n 1 44),
  (45, mx_iload_n 2 45),
  (46, mx_bipush 31 46),
  (48, mx_iand 48),
  (49, mx_ishl 49),
  (50, mx_iret 50),
  (51, mx_iload_n 1 51),
  (52, mx_iload_n 2 52),
  (53, mx_bipush 31 53),
  (55, mx_iand 55),
  (56, mx_ishr 56),
  (57, mx_iret 57),
  (58, mx_iload_n 1 58),
  (59, mx_iload_n 2 59),
  (60, mx_bipush 31 60),
  (62, mx_iand 62),
  (63, mx_iushr 63),
  (64, mx_iret 64),
  (65, mx_iconst 0 65),
  (66, mx_iret 66)]
set_option maxRecDepth 100000 in
set_option maxHeartbeats 4000000 in
theorem ok_xv_ofS (l : Launch) (np nd : Nat) : ∀ q ∈ tb_xv_ofS np nd , mx_Ok l ({ frames := 0, cells := 0, slots := 0, locals := 0 } : Room) b_xv_ofS 3 "WideMachine$Values" (some .int) vw_T vw_cl (kx np nd) q.1 q.2 := by
  refine List.forall_mem_cons.mpr ⟨mx_ok_iload_n (show decode b_xv_ofS 0 = .ok (.iload_n 0, 1) by decide +kernel) rfl, ?_⟩
  refine List.forall_mem_cons.mpr ⟨mx_ok_tsw (show decode b_xv_ofS 1 = .ok (.tableswitch 64 16 20 #[35, 39, 43, 50, 57], 35) by decide +kernel) (by decide) (by decide), ?_⟩
  refine List.forall_mem_cons.mpr ⟨mx_ok_iload_n (show decode b_xv_ofS 36 = .ok (.iload_n 1, 1) by decide +kernel) rfl, ?_⟩
  refine List.forall_mem_cons.mpr ⟨mx_ok_iload_n (show decode b_xv_ofS 37 = .ok (.iload_n 2, 1) by decide +kernel) rfl, ?_⟩
  refine List.forall_mem_cons.mpr ⟨mx_ok_iadd (show decode b_xv_ofS 38 = .ok (.iadd, 1) by decide +kernel), ?_⟩
  refine List.forall_mem_cons.mpr ⟨mx_ok_iret (show decode b_xv_ofS 39 = .ok (.ireturn, 1) by decide +kernel) rfl, ?_⟩
  refine List.forall_mem_cons.mpr ⟨mx_ok_iload_n (show decode b_xv_ofS 40 = .ok (.iload_n 1, 1) by decide +kernel) rfl, ?_⟩
  refine List.forall_mem_cons.mpr ⟨mx_ok_iload_n (show decode b_xv_ofS 41 = .ok (.iload_n 2, 1) by decide +kernel) rfl, ?_⟩
  refine List.forall_mem_cons.mpr ⟨mx_ok_isub (show decode b_xv_ofS 42 = .ok (.isub, 1) by decide +kernel), ?_⟩
  refine List.forall_mem_cons.mpr ⟨mx_ok_iret (show decode b_xv_ofS 43 = .ok (.ireturn, 1) by decide +kernel) rfl, ?_⟩
  refine List.forall_mem_cons.mpr ⟨mx_ok_iload_n (show decode b_xv_ofS 44 = .ok (.iload_n 1, 1) by decide +kernel) rfl, ?_⟩
  refine List.forall_mem_cons.mpr ⟨mx_ok_iload_n (show decode b_xv_ofS 45 = .ok (.iload_n 2, 1) by decide +kernel) rfl, ?_⟩
  refine List.forall_mem_cons.mpr ⟨mx_ok_bipush (show decode b_xv_ofS 46 = .ok (.bipush 31, 2) by decide +kernel) (by decide), ?_⟩
  refine List.forall_mem_cons.mpr ⟨mx_ok_iand (show decode b_xv_ofS 48 = .ok (.iand, 1) by decide +kernel), ?_⟩
  refine List.forall_mem_cons.mpr ⟨mx_ok_ishl (show decode b_xv_ofS 49 = .ok (.ishl, 1) by decide +kernel), ?_⟩
  refine List.forall_mem_cons.mpr ⟨mx_ok_iret (show decode b_xv_ofS 50 = .ok (.ireturn, 1) by decide +kernel) rfl, ?_⟩
  refine List.forall_mem_cons.mpr ⟨mx_ok_iload_n (show decode b_xv_ofS 51 = .ok (.iload_n 1, 1) by decide +kernel) rfl, ?_⟩
  refine List.forall_mem_cons.mpr ⟨mx_ok_iload_n (show decode b_xv_ofS 52 = .ok (.iload_n 2, 1) by decide +kernel) rfl, ?_⟩
  refine List.forall_mem_cons.mpr ⟨mx_ok_bipush (show decode b_xv_ofS 53 = .ok (.bipush 31, 2) by decide +kernel) (by decide), ?_⟩
  refine List.forall_mem_cons.mpr ⟨mx_ok_iand (show decode b_xv_ofS 55 = .ok (.iand, 1) by decide +kernel), ?_⟩
  refine List.forall_mem_cons.mpr ⟨mx_ok_ishr (show decode b_xv_ofS 56 = .ok (.ishr, 1) by decide +kernel), ?_⟩
  refine List.forall_mem_cons.mpr ⟨mx_ok_iret (show decode b_xv_ofS 57 = .ok (.ireturn, 1) by decide +kernel) rfl, ?_⟩
  refine List.forall_mem_cons.mpr ⟨mx_ok_iload_n (show decode b_xv_ofS 58 = .ok (.iload_n 1, 1) by decide +kernel) rfl, ?_⟩
  refine List.forall_mem_cons.mpr ⟨mx_ok_iload_n (show decode b_xv_ofS 59 = .ok (.iload_n 2, 1) by decide +kernel) rfl, ?_⟩
  refine List.forall_mem_cons.mpr ⟨mx_ok_bipush (show decode b_xv_ofS 60 = .ok (.bipush 31, 2) by decide +kernel) (by decide), ?_⟩
  refine List.forall_mem_cons.mpr ⟨mx_ok_iand (show decode b_xv_ofS 62 = .ok (.iand, 1) by decide +kernel), ?_⟩
  refine List.forall_mem_cons.mpr ⟨mx_ok_iushr (show decode b_xv_ofS 63 = .ok (.iushr, 1) by decide +kernel), ?_⟩
  refine List.forall_mem_cons.mpr ⟨mx_ok_iret (show decode b_xv_ofS 64 = .ok (.ireturn, 1) by decide +kernel) rfl, ?_⟩
  refine List.forall_mem_cons.mpr ⟨mx_ok_iconst (show decode b_xv_ofS 65 = .ok (.iconst 0, 1) by decide +kernel) (by decide), ?_⟩
  refine List.forall_mem_cons.mpr ⟨mx_ok_iret (show decode b_xv_ofS 66 = .ok (.ireturn, 1) by decide +kernel) rfl, ?_⟩
  exact fun _ h => absurd h List.not_mem_nil
set_option maxRecDepth 100000 in
set_option maxHeartbeats 4000000 in
theorem ct_xv_ofS (l : Launch) (np nd : Nat) : mx_Ct l vw_T vw_cl (kx np nd) { frames := 0, cells := 0, slots := 0, locals := 0 } y_xv_ofS b_xv_ofS 3 (some .int) (pre_xv_ofS np nd) (fn_xv_ofS np nd) := by
  refine mx_ct_of (tb_xv_ofS np nd ) (by decide) (ok_xv_ofS l np nd ) (fun as u h => by obtain ⟨_, _, _, rfl, -⟩ := h; exact Nat.le_of_ble_eq_true rfl) ?_
  intro as u hpre At hc hw
  obtain ⟨a1, a2, a3, rfl, hp⟩ := hpre
  exact hc 200 [] _ _ _ _ (
    And.intro (fun h1_0 => 
     congrArg (mx_rI u) (show (a2 + a3) = (xv_ofS a1 a2 a3 ) from ((xv_ofS_eq a1 a2 a3 ).trans (if_pos h1_0)).symm)) (fun h1_0 => 
    And.intro (fun h1_1 => 
     congrArg (mx_rI u) (show (a2 - a3) = (xv_ofS a1 a2 a3 ) from ((xv_ofS_eq a1 a2 a3 ).trans ((if_neg h1_0).trans (if_pos h1_1))).symm)) (fun h1_1 => 
    And.intro (fun h1_2 => 
     congrArg (mx_rI u) (show (a2 <<< ((a3 &&& (31 : Int32)) &&& 31)) = (xv_ofS a1 a2 a3 ) from ((xv_ofS_eq a1 a2 a3 ).trans ((if_neg h1_0).trans ((if_neg h1_1).trans (if_pos h1_2)))).symm)) (fun h1_2 => 
    And.intro (fun h1_3 => 
     congrArg (mx_rI u) (show (a2 >>> ((a3 &&& (31 : Int32)) &&& 31)) = (xv_ofS a1 a2 a3 ) from ((xv_ofS_eq a1 a2 a3 ).trans ((if_neg h1_0).trans ((if_neg h1_1).trans ((if_neg h1_2).trans (if_pos h1_3))))).symm)) (fun h1_3 => 
    And.intro (fun h1_4 => 
     congrArg (mx_rI u) (show (a2.toUInt32 >>> ((a3 &&& (31 : Int32)).toUInt32 &&& Int32.toUInt32 31)).toInt32 = (xv_ofS a1 a2 a3 ) from ((xv_ofS_eq a1 a2 a3 ).trans ((if_neg h1_0).trans ((if_neg h1_1).trans ((if_neg h1_2).trans ((if_neg h1_3).trans (if_pos h1_4)))))).symm)) (fun h1_4 => 
     congrArg (mx_rI u) (show 0 = (xv_ofS a1 a2 a3 ) from ((xv_ofS_eq a1 a2 a3 ).trans ((if_neg h1_0).trans ((if_neg h1_1).trans ((if_neg h1_2).trans ((if_neg h1_3).trans (if_neg h1_4)))))).symm)))))))
/-! WideMachine$Values.ofM(III)I -/
noncomputable def xv_ofM_b (a1 : Int32) (a2 : Int32) (a3 : Int32) : Int32 :=
  if a1 = 32 then
   (a2.toInt16.toInt32 * a3.toInt16.toInt32)
  else
  if a1 = 33 then
   ((a2 >>> ((16 : Int32) &&& 31)) * (a3 >>> ((16 : Int32) &&& 31)))
  else
  if a1 = 34 then
   ((a2 &&& (65535 : Int32)) * (a3 &&& (65535 : Int32)))
  else
  if a1 = 35 then
   (xv_nearestInt (2 * (a2.toInt16.toInt32 * a3.toInt16.toInt32).toInt64) )
  else
  0
theorem xv_ofM_ex : ∃ f : Int32 → Int32 → Int32 → (Int32), f = xv_ofM_b := ⟨_, rfl⟩
noncomputable def xv_ofM : Int32 → Int32 → Int32 → (Int32) := Classical.choose xv_ofM_ex
theorem xv_ofM_eq (a1 : Int32) (a2 : Int32) (a3 : Int32) : (xv_ofM a1 a2 a3 ) = (xv_ofM_b a1 a2 a3 ) := by rw [show xv_ofM = xv_ofM_b from Classical.choose_spec xv_ofM_ex]
def pre_xv_ofM (np nd : Nat) : List mx_V → mx_S → Prop := fun as u => ∃ (a1 : Int32) (a2 : Int32) (a3 : Int32), as = [.inl a1, .inl a2, .inl a3] ∧ True
noncomputable def fn_xv_ofM (np nd : Nat) : mx_F := fun as u => match as with
  | [.inl a1, .inl a2, .inl a3] => mx_rI u (xv_ofM a1 a2 a3 )
  | _ => (none, u)
noncomputable def tb_xv_ofM (np nd : Nat) : List (Nat × mx_T) := [
  (0, mx_iload_n 0 0),
  (1, mx_tsw 72 [(32, 32), (33, 38), (34, 48), (35, 58)] 1),
  (32, mx_iload_n 1 32),
  (33, mx_i2s 33),
  (34, mx_iload_n 2 34),
  (35, mx_i2s 35),
  (36, mx_imul 36),
  (37, mx_iret 37),
  (38, mx_iload_n 1 38),
  (39, mx_bipush 16 39),
  (41, mx_ishr 41),
  (42, mx_iload_n 2 42),
  (43, mx_bipush 16 43),
  (45, mx_ishr 45),
  (46, mx_imul 46),
  (47, mx_iret 47),
  (48, mx_iload_n 1 48),
  (49, mx_ldc 65535 49),
  (51, mx_iand 51),
  (52, mx_iload_n 2 52),
  (53, mx_ldc 65535 53),
  (55, mx_iand 55),
  (56, mx_imul 56),
  (57, mx_iret 57),
  (58, mx_ldc2 2 58),
  (61, mx_iload_n 1 61),
  (62, mx_i2s 62),
  (63, mx_iload_n 2 63),
  (64, mx_i2s 64),
  (65, mx_imul 65),
  (66, mx_i2l 66),
  (67, mx_lmul 67),
  (68, mx_invS 1 (pre_xv_nearestInt np nd) (fn_xv_nearestInt np nd) 68),
  (71, mx_iret 71),
  (72, mx_iconst 0 72),
  (73, mx_iret 73)]
set_option maxRecDepth 100000 in
set_option maxHeartbeats 4000000 in
theorem ok_xv_ofM (l : Launch) (np nd : Nat) : ∀ q ∈ tb_xv_ofM np nd , mx_Ok l ({ frames := 1, cells := 0, slots := 0, locals := 21 } : Room) b_xv_ofM 3 "WideMachine$Values" (some .int) vw_T vw_cl (kx np nd) q.1 q.2 := by
  refine List.forall_mem_cons.mpr ⟨mx_ok_iload_n (show decode b_xv_ofM 0 = .ok (.iload_n 0, 1) by decide +kernel) rfl, ?_⟩
  refine List.forall_mem_cons.mpr ⟨mx_ok_tsw (show decode b_xv_ofM 1 = .ok (.tableswitch 71 32 35 #[31, 37, 47, 57], 31) by decide +kernel) (by decide) (by decide), ?_⟩
  refine List.forall_mem_cons.mpr ⟨mx_ok_iload_n (show decode b_xv_ofM 32 = .ok (.iload_n 1, 1) by decide +kernel) rfl, ?_⟩
  refine List.forall_mem_cons.mpr ⟨mx_ok_i2s (show decode b_xv_ofM 33 = .ok (.i2s, 1) by decide +kernel), ?_⟩
  refine List.forall_mem_cons.mpr ⟨mx_ok_iload_n (show decode b_xv_ofM 34 = .ok (.iload_n 2, 1) by decide +kernel) rfl, ?_⟩
  refine List.forall_mem_cons.mpr ⟨mx_ok_i2s (show decode b_xv_ofM 35 = .ok (.i2s, 1) by decide +kernel), ?_⟩
  refine List.forall_mem_cons.mpr ⟨mx_ok_imul (show decode b_xv_ofM 36 = .ok (.imul, 1) by decide +kernel), ?_⟩
  refine List.forall_mem_cons.mpr ⟨mx_ok_iret (show decode b_xv_ofM 37 = .ok (.ireturn, 1) by decide +kernel) rfl, ?_⟩
  refine List.forall_mem_cons.mpr ⟨mx_ok_iload_n (show decode b_xv_ofM 38 = .ok (.iload_n 1, 1) by decide +kernel) rfl, ?_⟩
  refine List.forall_mem_cons.mpr ⟨mx_ok_bipush (show decode b_xv_ofM 39 = .ok (.bipush 16, 2) by decide +kernel) (by decide), ?_⟩
  refine List.forall_mem_cons.mpr ⟨mx_ok_ishr (show decode b_xv_ofM 41 = .ok (.ishr, 1) by decide +kernel), ?_⟩
  refine List.forall_mem_cons.mpr ⟨mx_ok_iload_n (show decode b_xv_ofM 42 = .ok (.iload_n 2, 1) by decide +kernel) rfl, ?_⟩
  refine List.forall_mem_cons.mpr ⟨mx_ok_bipush (show decode b_xv_ofM 43 = .ok (.bipush 16, 2) by decide +kernel) (by decide), ?_⟩
  refine List.forall_mem_cons.mpr ⟨mx_ok_ishr (show decode b_xv_ofM 45 = .ok (.ishr, 1) by decide +kernel), ?_⟩
  refine List.forall_mem_cons.mpr ⟨mx_ok_imul (show decode b_xv_ofM 46 = .ok (.imul, 1) by decide +kernel), ?_⟩
  refine List.forall_mem_cons.mpr ⟨mx_ok_iret (show decode b_xv_ofM 47 = .ok (.ireturn, 1) by decide +kernel) rfl, ?_⟩
  refine List.forall_mem_cons.mpr ⟨mx_ok_iload_n (show decode b_xv_ofM 48 = .ok (.iload_n 1, 1) by decide +kernel) rfl, ?_⟩
  refine List.forall_mem_cons.mpr ⟨mx_ok_ldc (show decode b_xv_ofM 49 = .ok (.ldc 17, 2) by decide +kernel) vm_195, ?_⟩
  refine List.forall_mem_cons.mpr ⟨mx_ok_iand (show decode b_xv_ofM 51 = .ok (.iand, 1) by decide +kernel), ?_⟩
  refine List.forall_mem_cons.mpr ⟨mx_ok_iload_n (show decode b_xv_ofM 52 = .ok (.iload_n 2, 1) by decide +kernel) rfl, ?_⟩
  refine List.forall_mem_cons.mpr ⟨mx_ok_ldc (show decode b_xv_ofM 53 = .ok (.ldc 17, 2) by decide +kernel) vm_195, ?_⟩
  refine List.forall_mem_cons.mpr ⟨mx_ok_iand (show decode b_xv_ofM 55 = .ok (.iand, 1) by decide +kernel), ?_⟩
  refine List.forall_mem_cons.mpr ⟨mx_ok_imul (show decode b_xv_ofM 56 = .ok (.imul, 1) by decide +kernel), ?_⟩
  refine List.forall_mem_cons.mpr ⟨mx_ok_iret (show decode b_xv_ofM 57 = .ok (.ireturn, 1) by decide +kernel) rfl, ?_⟩
  refine List.forall_mem_cons.mpr ⟨mx_ok_ldc2 (show decode b_xv_ofM 58 = .ok (.ldc2_w 18, 3) by decide +kernel) vm_196, ?_⟩
  refine List.forall_mem_cons.mpr ⟨mx_ok_iload_n (show decode b_xv_ofM 61 = .ok (.iload_n 1, 1) by decide +kernel) rfl, ?_⟩
  refine List.forall_mem_cons.mpr ⟨mx_ok_i2s (show decode b_xv_ofM 62 = .ok (.i2s, 1) by decide +kernel), ?_⟩
  refine List.forall_mem_cons.mpr ⟨mx_ok_iload_n (show decode b_xv_ofM 63 = .ok (.iload_n 2, 1) by decide +kernel) rfl, ?_⟩
  refine List.forall_mem_cons.mpr ⟨mx_ok_i2s (show decode b_xv_ofM 64 = .ok (.i2s, 1) by decide +kernel), ?_⟩
  refine List.forall_mem_cons.mpr ⟨mx_ok_imul (show decode b_xv_ofM 65 = .ok (.imul, 1) by decide +kernel), ?_⟩
  refine List.forall_mem_cons.mpr ⟨mx_ok_i2l (show decode b_xv_ofM 66 = .ok (.i2l, 1) by decide +kernel), ?_⟩
  refine List.forall_mem_cons.mpr ⟨mx_ok_lmul (show decode b_xv_ofM 67 = .ok (.lmul, 1) by decide +kernel), ?_⟩
  refine List.forall_mem_cons.mpr ⟨mx_ok_invS vw_G (ct_xv_nearestInt l np nd) ⟨vm_188, vm_189, vm_190, ⟨by decide +kernel, by decide +kernel, by decide +kernel⟩, ⟨by decide, by decide⟩, rfl, rfl⟩ vm_191 (show decode b_xv_ofM 68 = .ok (.invokestatic 7, 3) by decide +kernel), ?_⟩
  refine List.forall_mem_cons.mpr ⟨mx_ok_iret (show decode b_xv_ofM 71 = .ok (.ireturn, 1) by decide +kernel) rfl, ?_⟩
  refine List.forall_mem_cons.mpr ⟨mx_ok_iconst (show decode b_xv_ofM 72 = .ok (.iconst 0, 1) by decide +kernel) (by decide), ?_⟩
  refine List.forall_mem_cons.mpr ⟨mx_ok_iret (show decode b_xv_ofM 73 = .ok (.ireturn, 1) by decide +kernel) rfl, ?_⟩
  exact fun _ h => absurd h List.not_mem_nil
set_option maxRecDepth 100000 in
set_option maxHeartbeats 4000000 in
theorem ct_xv_ofM (l : Launch) (np nd : Nat) : mx_Ct l vw_T vw_cl (kx np nd) { frames := 1, cells := 0, slots := 0, locals := 21 } y_xv_ofM b_xv_ofM 3 (some .int) (pre_xv_ofM np nd) (fn_xv_ofM np nd) := by
  refine mx_ct_of (tb_xv_ofM np nd ) (by decide) (ok_xv_ofM l np nd ) (fun as u h => by obtain ⟨_, _, _, rfl, -⟩ := h; exact Nat.le_of_ble_eq_true rfl) ?_
  intro as u hpre At hc hw
  obtain ⟨a1, a2, a3, rfl, hp⟩ := hpre
  exact hc 200 [] _ _ _ _ (
    And.intro (fun h1_0 => 
     congrArg (mx_rI u) (show (a2.toInt16.toInt32 * a3.toInt16.toInt32) = (xv_ofM a1 a2 a3 ) from ((xv_ofM_eq a1 a2 a3 ).trans (if_pos h1_0)).symm)) (fun h1_0 => 
    And.intro (fun h1_1 => 
     congrArg (mx_rI u) (show ((a2 >>> ((16 : Int32) &&& 31)) * (a3 >>> ((16 : Int32) &&& 31))) = (xv_ofM a1 a2 a3 ) from ((xv_ofM_eq a1 a2 a3 ).trans ((if_neg h1_0).trans (if_pos h1_1))).symm)) (fun h1_1 => 
    And.intro (fun h1_2 => 
     congrArg (mx_rI u) (show ((a2 &&& (65535 : Int32)) * (a3 &&& (65535 : Int32))) = (xv_ofM a1 a2 a3 ) from ((xv_ofM_eq a1 a2 a3 ).trans ((if_neg h1_0).trans ((if_neg h1_1).trans (if_pos h1_2)))).symm)) (fun h1_2 => 
    And.intro (fun h1_3 => 
     And.intro rfl (
     And.intro ⟨_, rfl, trivial⟩ (
     congrArg (mx_rI u) (show (xv_nearestInt (2 * (a2.toInt16.toInt32 * a3.toInt16.toInt32).toInt64) ) = (xv_ofM a1 a2 a3 ) from ((xv_ofM_eq a1 a2 a3 ).trans ((if_neg h1_0).trans ((if_neg h1_1).trans ((if_neg h1_2).trans (if_pos h1_3))))).symm)))) (fun h1_3 => 
     congrArg (mx_rI u) (show 0 = (xv_ofM a1 a2 a3 ) from ((xv_ofM_eq a1 a2 a3 ).trans ((if_neg h1_0).trans ((if_neg h1_1).trans ((if_neg h1_2).trans (if_neg h1_3))))).symm))))))
/-! WideMachine$Values.ofD(III)I -/
noncomputable def xv_ofD_b (a1 : Int32) (a2 : Int32) (a3 : Int32) : Int32 :=
  if a1 = 48 then
   (a2 + a3)
  else
  if a1 = 49 then
   (a2 - a3)
  else
  0
theorem xv_ofD_ex : ∃ f : Int32 → Int32 → Int32 → (Int32), f = xv_ofD_b := ⟨_, rfl⟩
noncomputable def xv_ofD : Int32 → Int32 → Int32 → (Int32) := Classical.choose xv_ofD_ex
theorem xv_ofD_eq (a1 : Int32) (a2 : Int32) (a3 : Int32) : (xv_ofD a1 a2 a3 ) = (xv_ofD_b a1 a2 a3 ) := by rw [show xv_ofD = xv_ofD_b from Classical.choose_spec xv_ofD_ex]
def pre_xv_ofD (np nd : Nat) : List mx_V → mx_S → Prop := fun as u => ∃ (a1 : Int32) (a2 : Int32) (a3 : Int32), as = [.inl a1, .inl a2, .inl a3] ∧ True
noncomputable def fn_xv_ofD (np nd : Nat) : mx_F := fun as u => match as with
  | [.inl a1, .inl a2, .inl a3] => mx_rI u (xv_ofD a1 a2 a3 )
  | _ => (none, u)
noncomputable def tb_xv_ofD (np nd : Nat) : List (Nat × mx_T) := [
  (0, mx_iload_n 0 0),
  (1, mx_lsw0 36 [(48, 28), (49, 32)] 1),
  (28, mx_iload_n 1 28),
  (29, mx_iload_n 2 29),
  (30, mx_iadd 30),
  (31, mx_iret 31),
  (32, mx_iload_n 1 32),
  (33, mx_iload_n 2 33),
  (34, mx_isub 34),
  (35, mx_iret 35),
  (36, mx_iconst 0 36),
  (37, mx_iret 37)]
set_option maxRecDepth 100000 in
set_option maxHeartbeats 4000000 in
theorem ok_xv_ofD (l : Launch) (np nd : Nat) : ∀ q ∈ tb_xv_ofD np nd , mx_Ok l ({ frames := 0, cells := 0, slots := 0, locals := 0 } : Room) b_xv_ofD 3 "WideMachine$Values" (some .int) vw_T vw_cl (kx np nd) q.1 q.2 := by
  refine List.forall_mem_cons.mpr ⟨mx_ok_iload_n (show decode b_xv_ofD 0 = .ok (.iload_n 0, 1) by decide +kernel) rfl, ?_⟩
  refine List.forall_mem_cons.mpr ⟨mx_ok_lsw0 (show decode b_xv_ofD 1 = .ok (.lookupswitch 35 #[(48, 27), (49, 31)], 27) by decide +kernel) (by decide) (by decide) (by decide), ?_⟩
  refine List.forall_mem_cons.mpr ⟨mx_ok_iload_n (show decode b_xv_ofD 28 = .ok (.iload_n 1, 1) by decide +kernel) rfl, ?_⟩
  refine List.forall_mem_cons.mpr ⟨mx_ok_iload_n (show decode b_xv_ofD 29 = .ok (.iload_n 2, 1) by decide +kernel) rfl, ?_⟩
  refine List.forall_mem_cons.mpr ⟨mx_ok_iadd (show decode b_xv_ofD 30 = .ok (.iadd, 1) by decide +kernel), ?_⟩
  refine List.forall_mem_cons.mpr ⟨mx_ok_iret (show decode b_xv_ofD 31 = .ok (.ireturn, 1) by decide +kernel) rfl, ?_⟩
  refine List.forall_mem_cons.mpr ⟨mx_ok_iload_n (show decode b_xv_ofD 32 = .ok (.iload_n 1, 1) by decide +kernel) rfl, ?_⟩
  refine List.forall_mem_cons.mpr ⟨mx_ok_iload_n (show decode b_xv_ofD 33 = .ok (.iload_n 2, 1) by decide +kernel) rfl, ?_⟩
  refine List.forall_mem_cons.mpr ⟨mx_ok_isub (show decode b_xv_ofD 34 = .ok (.isub, 1) by decide +kernel), ?_⟩
  refine List.forall_mem_cons.mpr ⟨mx_ok_iret (show decode b_xv_ofD 35 = .ok (.ireturn, 1) by decide +kernel) rfl, ?_⟩
  refine List.forall_mem_cons.mpr ⟨mx_ok_iconst (show decode b_xv_ofD 36 = .ok (.iconst 0, 1) by decide +kernel) (by decide), ?_⟩
  refine List.forall_mem_cons.mpr ⟨mx_ok_iret (show decode b_xv_ofD 37 = .ok (.ireturn, 1) by decide +kernel) rfl, ?_⟩
  exact fun _ h => absurd h List.not_mem_nil
set_option maxRecDepth 100000 in
set_option maxHeartbeats 4000000 in
theorem ct_xv_ofD (l : Launch) (np nd : Nat) : mx_Ct l vw_T vw_cl (kx np nd) { frames := 0, cells := 0, slots := 0, locals := 0 } y_xv_ofD b_xv_ofD 3 (some .int) (pre_xv_ofD np nd) (fn_xv_ofD np nd) := by
  refine mx_ct_of (tb_xv_ofD np nd ) (by decide) (ok_xv_ofD l np nd ) (fun as u h => by obtain ⟨_, _, _, rfl, -⟩ := h; exact Nat.le_of_ble_eq_true rfl) ?_
  intro as u hpre At hc hw
  obtain ⟨a1, a2, a3, rfl, hp⟩ := hpre
  exact hc 200 [] _ _ _ _ (
    And.intro (fun h1_0 => 
     congrArg (mx_rI u) (show (a2 + a3) = (xv_ofD a1 a2 a3 ) from ((xv_ofD_eq a1 a2 a3 ).trans (if_pos h1_0)).symm)) (fun h1_0 => 
    And.intro (fun h1_1 => 
     congrArg (mx_rI u) (show (a2 - a3) = (xv_ofD a1 a2 a3 ) from ((xv_ofD_eq a1 a2 a3 ).trans ((if_neg h1_0).trans (if_pos h1_1))).symm)) (fun h1_1 => 
     congrArg (mx_rI u) (show 0 = (xv_ofD a1 a2 a3 ) from ((xv_ofD_eq a1 a2 a3 ).trans ((if_neg h1_0).trans (if_neg h1_1))).symm))))
/-! WideMachine$Word.timeOfWrite(I)I -/
noncomputable def xw_timeOfWrite_b (a1 : Int32) : Int32 :=
  if (xw_code a1 ) = 50 then
   5
  else
   if (xw_kind a1 ) = 2 then
    2
   else
    1
theorem xw_timeOfWrite_ex : ∃ f : Int32 → (Int32), f = xw_timeOfWrite_b := ⟨_, rfl⟩
noncomputable def xw_timeOfWrite : Int32 → (Int32) := Classical.choose xw_timeOfWrite_ex
theorem xw_timeOfWrite_eq (a1 : Int32) : (xw_timeOfWrite a1 ) = (xw_timeOfWrite_b a1 ) := by rw [show xw_timeOfWrite = xw_timeOfWrite_b from Classical.choose_spec xw_timeOfWrite_ex]
def pre_xw_timeOfWrite (np nd : Nat) : List mx_V → mx_S → Prop := fun as u => ∃ (a1 : Int32), as = [.inl a1] ∧ True
noncomputable def fn_xw_timeOfWrite (np nd : Nat) : mx_F := fun as u => match as with
  | [.inl a1] => mx_rI u (xw_timeOfWrite a1 )
  | _ => (none, u)
noncomputable def tb_xw_timeOfWrite (np nd : Nat) : List (Nat × mx_T) := [
  (0, mx_iload_n 0 0),
  (1, mx_invS 1 (pre_xw_code np nd) (fn_xw_code np nd) 1),
  (4, mx_bipush 50 4),
  (6, mx_icmp_ne 11 6),
  (9, mx_iconst 5 9),
  (10, mx_iret 10),
  (11, mx_iload_n 0 11),
  (12, mx_invS 1 (pre_xw_kind np nd) (fn_xw_kind np nd) 12),
  (15, mx_iconst 2 15),
  (16, mx_icmp_ne 23 16),
  (19, mx_iconst 2 19),
  (20, mx_goto 24 20),
  (23, mx_iconst 1 23),
  (24, mx_iret 24)]
set_option maxRecDepth 100000 in
set_option maxHeartbeats 4000000 in
theorem ok_xw_timeOfWrite (l : Launch) (np nd : Nat) : ∀ q ∈ tb_xw_timeOfWrite np nd , mx_Ok l ({ frames := 1, cells := 0, slots := 0, locals := 20 } : Room) b_xw_timeOfWrite 1 "WideMachine$Word" (some .int) vw_T vw_cl (kx np nd) q.1 q.2 := by
  refine List.forall_mem_cons.mpr ⟨mx_ok_iload_n (show decode b_xw_timeOfWrite 0 = .ok (.iload_n 0, 1) by decide +kernel) rfl, ?_⟩
  refine List.forall_mem_cons.mpr ⟨mx_ok_invS vw_G (ct_xw_code l np nd) ⟨vm_99, vm_100, vm_97, ⟨by decide +kernel, by decide +kernel, by decide +kernel⟩, ⟨by decide, by decide⟩, rfl, rfl⟩ vm_101 (show decode b_xw_timeOfWrite 1 = .ok (.invokestatic 9, 3) by decide +kernel), ?_⟩
  refine List.forall_mem_cons.mpr ⟨mx_ok_bipush (show decode b_xw_timeOfWrite 4 = .ok (.bipush 50, 2) by decide +kernel) (by decide), ?_⟩
  refine List.forall_mem_cons.mpr ⟨mx_ok_icmp_ne (show decode b_xw_timeOfWrite 6 = .ok (.if_icmp .ne 5, 3) by decide +kernel) (by decide), ?_⟩
  refine List.forall_mem_cons.mpr ⟨mx_ok_iconst (show decode b_xw_timeOfWrite 9 = .ok (.iconst 5, 1) by decide +kernel) (by decide), ?_⟩
  refine List.forall_mem_cons.mpr ⟨mx_ok_iret (show decode b_xw_timeOfWrite 10 = .ok (.ireturn, 1) by decide +kernel) rfl, ?_⟩
  refine List.forall_mem_cons.mpr ⟨mx_ok_iload_n (show decode b_xw_timeOfWrite 11 = .ok (.iload_n 0, 1) by decide +kernel) rfl, ?_⟩
  refine List.forall_mem_cons.mpr ⟨mx_ok_invS vw_G (ct_xw_kind l np nd) ⟨vm_222, vm_208, vm_97, ⟨by decide +kernel, by decide +kernel, by decide +kernel⟩, ⟨by decide, by decide⟩, rfl, rfl⟩ vm_209 (show decode b_xw_timeOfWrite 12 = .ok (.invokestatic 15, 3) by decide +kernel), ?_⟩
  refine List.forall_mem_cons.mpr ⟨mx_ok_iconst (show decode b_xw_timeOfWrite 15 = .ok (.iconst 2, 1) by decide +kernel) (by decide), ?_⟩
  refine List.forall_mem_cons.mpr ⟨mx_ok_icmp_ne (show decode b_xw_timeOfWrite 16 = .ok (.if_icmp .ne 7, 3) by decide +kernel) (by decide), ?_⟩
  refine List.forall_mem_cons.mpr ⟨mx_ok_iconst (show decode b_xw_timeOfWrite 19 = .ok (.iconst 2, 1) by decide +kernel) (by decide), ?_⟩
  refine List.forall_mem_cons.mpr ⟨mx_ok_goto (show decode b_xw_timeOfWrite 20 = .ok (.goto 4, 3) by decide +kernel) (by decide), ?_⟩
  refine List.forall_mem_cons.mpr ⟨mx_ok_iconst (show decode b_xw_timeOfWrite 23 = .ok (.iconst 1, 1) by decide +kernel) (by decide), ?_⟩
  refine List.forall_mem_cons.mpr ⟨mx_ok_iret (show decode b_xw_timeOfWrite 24 = .ok (.ireturn, 1) by decide +kernel) rfl, ?_⟩
  exact fun _ h => absurd h List.not_mem_nil
set_option maxRecDepth 100000 in
set_option maxHeartbeats 4000000 in
theorem ct_xw_timeOfWrite (l : Launch) (np nd : Nat) : mx_Ct l vw_T vw_cl (kx np nd) { frames := 1, cells := 0, slots := 0, locals := 20 } y_xw_timeOfWrite b_xw_timeOfWrite 1 (some .int) (pre_xw_timeOfWrite np nd) (fn_xw_timeOfWrite np nd) := by
  refine mx_ct_of (tb_xw_timeOfWrite np nd ) (by decide) (ok_xw_timeOfWrite l np nd ) (fun as u h => by obtain ⟨_, rfl, -⟩ := h; exact Nat.le_of_ble_eq_true rfl) ?_
  intro as u hpre At hc hw
  obtain ⟨a1, rfl, hp⟩ := hpre
  exact hc 200 [] _ _ _ _ (
    And.intro rfl (
    And.intro ⟨_, rfl, trivial⟩ (
    And.intro (fun h6 => 
     And.intro rfl (
     And.intro ⟨_, rfl, trivial⟩ (
     And.intro (fun h16 => 
      congrArg (mx_rI u) (show 1 = (xw_timeOfWrite a1 ) from ((xw_timeOfWrite_eq a1 ).trans ((if_neg h6).trans (if_neg h16))).symm)) (fun h16 => 
      congrArg (mx_rI u) (show 2 = (xw_timeOfWrite a1 ) from ((xw_timeOfWrite_eq a1 ).trans ((if_neg h6).trans (if_pos h16))).symm))))) (fun h6 => 
     congrArg (mx_rI u) (show 5 = (xw_timeOfWrite a1 ) from ((xw_timeOfWrite_eq a1 ).trans (if_pos h6)).symm)))))
