/-! WideMachine.word(II)Z -/
noncomputable def xm_word_b (np nd : Nat) (a1 : Int32) (a2 : Int32) (u : mx_S) : Int32 × mx_S :=
  if a1 < 0 then
   (0, u)
  else
   if a1 < (nI np) then
    (1, (mx_sa u 1 (a1).toNatClampNeg a2))
   else
    (0, u)
theorem xm_word_ex : ∃ f : Nat → Nat → Int32 → Int32 → mx_S → Int32, f = (fun np nd a1 a2 u => (xm_word_b np nd a1 a2 u).1) := ⟨_, rfl⟩
noncomputable def xm_word : Nat → Nat → Int32 → Int32 → mx_S → Int32 := Classical.choose xm_word_ex
theorem xm_word_eq (np nd : Nat) (a1 : Int32) (a2 : Int32) (u : mx_S) : (xm_word np nd a1 a2 u) = (xm_word_b np nd a1 a2 u).1 := by rw [show xm_word = (fun np nd a1 a2 u => (xm_word_b np nd a1 a2 u).1) from Classical.choose_spec xm_word_ex]
theorem xm_word_s_ex : ∃ f : Nat → Nat → Int32 → Int32 → mx_S → mx_S, f = (fun np nd a1 a2 u => (xm_word_b np nd a1 a2 u).2) := ⟨_, rfl⟩
noncomputable def xm_word_s : Nat → Nat → Int32 → Int32 → mx_S → mx_S := Classical.choose xm_word_s_ex
theorem xm_word_s_eq (np nd : Nat) (a1 : Int32) (a2 : Int32) (u : mx_S) : (xm_word_s np nd a1 a2 u) = (xm_word_b np nd a1 a2 u).2 := by rw [show xm_word_s = (fun np nd a1 a2 u => (xm_word_b np nd a1 a2 u).2) from Classical.choose_spec xm_word_s_ex]
def q_xm_word (np nd : Nat) (a1 : Int32) (a2 : Int32) (u : mx_S) : Prop :=
  ((a1 < 0) → 
   True) ∧ ((¬ (a1 < 0)) → 
   ((a1 < (nI np)) → 
    (vp_in a1 np)) ∧ ((¬ (a1 < (nI np))) → 
    True))
def pre_xm_word (np nd : Nat) : List mx_V → mx_S → Prop := fun as u => ∃ (a1 : Int32) (a2 : Int32), as = [.inr (.inr 0), .inl a1, .inl a2] ∧ q_xm_word np nd a1 a2 u
noncomputable def fn_xm_word (np nd : Nat) : mx_F := fun as u => match as with
  | [_, .inl a1, .inl a2] => (some (.inl (xm_word np nd a1 a2 u)), (xm_word_s np nd a1 a2 u))
  | _ => (none, u)
noncomputable def tb_xm_word (np nd : Nat) : List (Nat × mx_T) := [
  (0, mx_iload_n 1 0),
  (1, mx_if_lt 13 1),
  (4, mx_iload_n 1 4),
  (5, mx_aload_n 0 5),
  (6, mx_getf (kx np nd) 0 0 6),
  (9, mx_alen (kx np nd) 9),
  (10, mx_icmp_lt 15 10),
  (13, mx_iconst 0 13),
  (14, mx_zret 14),
  (15, mx_aload_n 0 15),
  (16, mx_getf (kx np nd) 0 0 16),
  (19, mx_iload_n 1 19),
  (20, mx_iload_n 2 20),
  (21, mx_iast (kx np nd) 21),
  (22, mx_iconst 1 22),
  (23, mx_zret 23)]
set_option maxRecDepth 100000 in
set_option maxHeartbeats 4000000 in
theorem ok_xm_word (l : Launch) (np nd : Nat) : ∀ q ∈ tb_xm_word np nd , mx_Ok l ({ frames := 0, cells := 0, slots := 0, locals := 0 } : Room) b_xm_word 3 "WideMachine" (some .boolean) vw_T vw_cl (kx np nd) q.1 q.2 := by
  refine List.forall_mem_cons.mpr ⟨mx_ok_iload_n (show decode b_xm_word 0 = .ok (.iload_n 1, 1) by decide +kernel) rfl, ?_⟩
  refine List.forall_mem_cons.mpr ⟨mx_ok_if_lt (show decode b_xm_word 1 = .ok (.ifCond .lt 12, 3) by decide +kernel) (by decide), ?_⟩
  refine List.forall_mem_cons.mpr ⟨mx_ok_iload_n (show decode b_xm_word 4 = .ok (.iload_n 1, 1) by decide +kernel) rfl, ?_⟩
  refine List.forall_mem_cons.mpr ⟨mx_ok_aload_n (show decode b_xm_word 5 = .ok (.aload_n 0, 1) by decide +kernel) rfl, ?_⟩
  refine List.forall_mem_cons.mpr ⟨mx_ok_getf fd_xm_13 (show decode b_xm_word 6 = .ok (.getfield 13, 3) by decide +kernel), ?_⟩
  refine List.forall_mem_cons.mpr ⟨mx_ok_alen (show decode b_xm_word 9 = .ok (.arraylength, 1) by decide +kernel), ?_⟩
  refine List.forall_mem_cons.mpr ⟨mx_ok_icmp_lt (show decode b_xm_word 10 = .ok (.if_icmp .lt 5, 3) by decide +kernel) (by decide), ?_⟩
  refine List.forall_mem_cons.mpr ⟨mx_ok_iconst (show decode b_xm_word 13 = .ok (.iconst 0, 1) by decide +kernel) (by decide), ?_⟩
  refine List.forall_mem_cons.mpr ⟨mx_ok_zret (show decode b_xm_word 14 = .ok (.ireturn, 1) by decide +kernel) rfl, ?_⟩
  refine List.forall_mem_cons.mpr ⟨mx_ok_aload_n (show decode b_xm_word 15 = .ok (.aload_n 0, 1) by decide +kernel) rfl, ?_⟩
  refine List.forall_mem_cons.mpr ⟨mx_ok_getf fd_xm_13 (show decode b_xm_word 16 = .ok (.getfield 13, 3) by decide +kernel), ?_⟩
  refine List.forall_mem_cons.mpr ⟨mx_ok_iload_n (show decode b_xm_word 19 = .ok (.iload_n 1, 1) by decide +kernel) rfl, ?_⟩
  refine List.forall_mem_cons.mpr ⟨mx_ok_iload_n (show decode b_xm_word 20 = .ok (.iload_n 2, 1) by decide +kernel) rfl, ?_⟩
  refine List.forall_mem_cons.mpr ⟨mx_ok_iast (show decode b_xm_word 21 = .ok (.iastore, 1) by decide +kernel), ?_⟩
  refine List.forall_mem_cons.mpr ⟨mx_ok_iconst (show decode b_xm_word 22 = .ok (.iconst 1, 1) by decide +kernel) (by decide), ?_⟩
  refine List.forall_mem_cons.mpr ⟨mx_ok_zret (show decode b_xm_word 23 = .ok (.ireturn, 1) by decide +kernel) rfl, ?_⟩
  exact fun _ h => absurd h List.not_mem_nil
set_option maxRecDepth 100000 in
set_option maxHeartbeats 4000000 in
theorem ct_xm_word (l : Launch) (np nd : Nat) : mx_Ct l vw_T vw_cl (kx np nd) { frames := 0, cells := 0, slots := 0, locals := 0 } y_xm_word b_xm_word 3 (some .boolean) (pre_xm_word np nd) (fn_xm_word np nd) := by
  refine mx_ct_of (tb_xm_word np nd ) (by decide) (ok_xm_word l np nd ) (fun as u h => by obtain ⟨_, _, rfl, -⟩ := h; exact Nat.le_of_ble_eq_true rfl) ?_
  intro as u hpre At hc hw
  obtain ⟨a1, a2, rfl, hp⟩ := hpre
  obtain ⟨RES, hRES⟩ : ∃ z, z = (xm_word_b np nd a1 a2 u) := ⟨_, rfl⟩
  have hfn : fn_xm_word np nd [.inr (.inr 0), .inl a1, .inl a2] u = mx_rB RES := by
    show ((some (.inl (xm_word np nd a1 a2 u)), (xm_word_s np nd a1 a2 u)) : Option mx_V × mx_S) = _
    rw [hRES, xm_word_eq, xm_word_s_eq]
    rfl
  rw [hfn] at hc
  exact hc 200 [] _ _ _ _ (
    And.intro (fun h1 => 
     And.intro (Or.inl rfl) (
     congrArg mx_rB (show (0, u) = RES from (if_pos h1).symm.trans hRES.symm))) (fun h1 => 
     And.intro (fun h10 => 
      And.intro (((hp.2 h1).1 h10)) (
      And.intro (Or.inr rfl) (
      congrArg mx_rB (show (1, (mx_sa u 1 (a1).toNatClampNeg a2)) = RES from ((if_neg h1).trans (if_pos h10)).symm.trans hRES.symm)))) (fun h10 => 
      And.intro (Or.inl rfl) (
      congrArg mx_rB (show (0, u) = RES from ((if_neg h1).trans (if_neg h10)).symm.trans hRES.symm)))))
/-! WideMachine.isInData(I)Z -/
noncomputable def xm_isInData_b (np nd : Nat) (a1 : Int32) : Int32 :=
  if a1 < 0 then
   0
  else
   if (nI nd) ≤ a1 then
    0
   else
    1
theorem xm_isInData_ex : ∃ f : Nat → Nat → Int32 → (Int32), f = xm_isInData_b := ⟨_, rfl⟩
noncomputable def xm_isInData : Nat → Nat → Int32 → (Int32) := Classical.choose xm_isInData_ex
theorem xm_isInData_eq (np nd : Nat) (a1 : Int32) : (xm_isInData np nd a1 ) = (xm_isInData_b np nd a1 ) := by rw [show xm_isInData = xm_isInData_b from Classical.choose_spec xm_isInData_ex]
def pre_xm_isInData (np nd : Nat) : List mx_V → mx_S → Prop := fun as u => ∃ (a1 : Int32), as = [.inr (.inr 0), .inl a1] ∧ True
noncomputable def fn_xm_isInData (np nd : Nat) : mx_F := fun as u => match as with
  | [_, .inl a1] => mx_rI u (xm_isInData np nd a1 )
  | _ => (none, u)
noncomputable def tb_xm_isInData (np nd : Nat) : List (Nat × mx_T) := [
  (0, mx_iload_n 1 0),
  (1, mx_if_lt 17 1),
  (4, mx_iload_n 1 4),
  (5, mx_aload_n 0 5),
  (6, mx_getf (kx np nd) 0 1 6),
  (9, mx_alen (kx np nd) 9),
  (10, mx_icmp_ge 17 10),
  (13, mx_iconst 1 13),
  (14, mx_goto 18 14),
  (17, mx_iconst 0 17),
  (18, mx_zret 18)]
set_option maxRecDepth 100000 in
set_option maxHeartbeats 4000000 in
theorem ok_xm_isInData (l : Launch) (np nd : Nat) : ∀ q ∈ tb_xm_isInData np nd , mx_Ok l ({ frames := 0, cells := 0, slots := 0, locals := 0 } : Room) b_xm_isInData 2 "WideMachine" (some .boolean) vw_T vw_cl (kx np nd) q.1 q.2 := by
  refine List.forall_mem_cons.mpr ⟨mx_ok_iload_n (show decode b_xm_isInData 0 = .ok (.iload_n 1, 1) by decide +kernel) rfl, ?_⟩
  refine List.forall_mem_cons.mpr ⟨mx_ok_if_lt (show decode b_xm_isInData 1 = .ok (.ifCond .lt 16, 3) by decide +kernel) (by decide), ?_⟩
  refine List.forall_mem_cons.mpr ⟨mx_ok_iload_n (show decode b_xm_isInData 4 = .ok (.iload_n 1, 1) by decide +kernel) rfl, ?_⟩
  refine List.forall_mem_cons.mpr ⟨mx_ok_aload_n (show decode b_xm_isInData 5 = .ok (.aload_n 0, 1) by decide +kernel) rfl, ?_⟩
  refine List.forall_mem_cons.mpr ⟨mx_ok_getf fd_xm_17 (show decode b_xm_isInData 6 = .ok (.getfield 17, 3) by decide +kernel), ?_⟩
  refine List.forall_mem_cons.mpr ⟨mx_ok_alen (show decode b_xm_isInData 9 = .ok (.arraylength, 1) by decide +kernel), ?_⟩
  refine List.forall_mem_cons.mpr ⟨mx_ok_icmp_ge (show decode b_xm_isInData 10 = .ok (.if_icmp .ge 7, 3) by decide +kernel) (by decide), ?_⟩
  refine List.forall_mem_cons.mpr ⟨mx_ok_iconst (show decode b_xm_isInData 13 = .ok (.iconst 1, 1) by decide +kernel) (by decide), ?_⟩
  refine List.forall_mem_cons.mpr ⟨mx_ok_goto (show decode b_xm_isInData 14 = .ok (.goto 4, 3) by decide +kernel) (by decide), ?_⟩
  refine List.forall_mem_cons.mpr ⟨mx_ok_iconst (show decode b_xm_isInData 17 = .ok (.iconst 0, 1) by decide +kernel) (by decide), ?_⟩
  refine List.forall_mem_cons.mpr ⟨mx_ok_zret (show decode b_xm_isInData 18 = .ok (.ireturn, 1) by decide +kernel) rfl, ?_⟩
  exact fun _ h => absurd h List.not_mem_nil
set_option maxRecDepth 100000 in
set_option maxHeartbeats 4000000 in
theorem ct_xm_isInData (l : Launch) (np nd : Nat) : mx_Ct l vw_T vw_cl (kx np nd) { frames := 0, cells := 0, slots := 0, locals := 0 } y_xm_isInData b_xm_isInData 2 (some .boolean) (pre_xm_isInData np nd) (fn_xm_isInData np nd) := by
  refine mx_ct_of (tb_xm_isInData np nd ) (by decide) (ok_xm_isInData l np nd ) (fun as u h => by obtain ⟨_, rfl, -⟩ := h; exact Nat.le_of_ble_eq_true rfl) ?_
  intro as u hpre At hc hw
  obtain ⟨a1, rfl, hp⟩ := hpre
  exact hc 200 [] _ _ _ _ (
    And.intro (fun h1 => 
     And.intro (Or.inl rfl) (
     congrArg (mx_rI u) (show 0 = (xm_isInData np nd a1 ) from ((xm_isInData_eq np nd a1 ).trans (if_pos h1)).symm))) (fun h1 => 
     And.intro (fun h10 => 
      And.intro (Or.inl rfl) (
      congrArg (mx_rI u) (show 0 = (xm_isInData np nd a1 ) from ((xm_isInData_eq np nd a1 ).trans ((if_neg h1).trans (if_pos h10))).symm))) (fun h10 => 
      And.intro (Or.inr rfl) (
      congrArg (mx_rI u) (show 1 = (xm_isInData np nd a1 ) from ((xm_isInData_eq np nd a1 ).trans ((if_neg h1).trans (if_neg h10))).symm)))))
/-! WideMachine.poke(II)Z -/
noncomputable def xm_poke_b (np nd : Nat) (a1 : Int32) (a2 : Int32) (u : mx_S) : Int32 × mx_S :=
  if (xm_isInData np nd a1 ) = 0 then
   (0, u)
  else
   (1, (mx_sa u 2 (a1).toNatClampNeg a2))
theorem xm_poke_ex : ∃ f : Nat → Nat → Int32 → Int32 → mx_S → Int32, f = (fun np nd a1 a2 u => (xm_poke_b np nd a1 a2 u).1) := ⟨_, rfl⟩
noncomputable def xm_poke : Nat → Nat → Int32 → Int32 → mx_S → Int32 := Classical.choose xm_poke_ex
theorem xm_poke_eq (np nd : Nat) (a1 : Int32) (a2 : Int32) (u : mx_S) : (xm_poke np nd a1 a2 u) = (xm_poke_b np nd a1 a2 u).1 := by rw [show xm_poke = (fun np nd a1 a2 u => (xm_poke_b np nd a1 a2 u).1) from Classical.choose_spec xm_poke_ex]
theorem xm_poke_s_ex : ∃ f : Nat → Nat → Int32 → Int32 → mx_S → mx_S, f = (fun np nd a1 a2 u => (xm_poke_b np nd a1 a2 u).2) := ⟨_, rfl⟩
noncomputable def xm_poke_s : Nat → Nat → Int32 → Int32 → mx_S → mx_S := Classical.choose xm_poke_s_ex
theorem xm_poke_s_eq (np nd : Nat) (a1 : Int32) (a2 : Int32) (u : mx_S) : (xm_poke_s np nd a1 a2 u) = (xm_poke_b np nd a1 a2 u).2 := by rw [show xm_poke_s = (fun np nd a1 a2 u => (xm_poke_b np nd a1 a2 u).2) from Classical.choose_spec xm_poke_s_ex]
def q_xm_poke (np nd : Nat) (a1 : Int32) (a2 : Int32) (u : mx_S) : Prop :=
  ((¬ ((xm_isInData np nd a1 ) = 0)) → 
   (vp_in a1 nd)) ∧ (((xm_isInData np nd a1 ) = 0) → 
   True)
def pre_xm_poke (np nd : Nat) : List mx_V → mx_S → Prop := fun as u => ∃ (a1 : Int32) (a2 : Int32), as = [.inr (.inr 0), .inl a1, .inl a2] ∧ q_xm_poke np nd a1 a2 u
noncomputable def fn_xm_poke (np nd : Nat) : mx_F := fun as u => match as with
  | [_, .inl a1, .inl a2] => (some (.inl (xm_poke np nd a1 a2 u)), (xm_poke_s np nd a1 a2 u))
  | _ => (none, u)
noncomputable def tb_xm_poke (np nd : Nat) : List (Nat × mx_T) := [
  (0, mx_aload_n 0 0),
  (1, mx_iload_n 1 1),
  (2, mx_invV (kx np nd) 0 1 (pre_xm_isInData np nd) (fn_xm_isInData np nd) 2),
  (5, mx_if_ne 10 5),
  (8, mx_iconst 0 8),
  (9, mx_zret 9),
  (10, mx_aload_n 0 10),
  (11, mx_getf (kx np nd) 0 1 11),
  (14, mx_iload_n 1 14),
  (15, mx_iload_n 2 15),
  (16, mx_iast (kx np nd) 16),
  (17, mx_iconst 1 17),
  (18, mx_zret 18)]
set_option maxRecDepth 100000 in
set_option maxHeartbeats 4000000 in
theorem ok_xm_poke (l : Launch) (np nd : Nat) : ∀ q ∈ tb_xm_poke np nd , mx_Ok l ({ frames := 1, cells := 0, slots := 0, locals := 21 } : Room) b_xm_poke 3 "WideMachine" (some .boolean) vw_T vw_cl (kx np nd) q.1 q.2 := by
  refine List.forall_mem_cons.mpr ⟨mx_ok_aload_n (show decode b_xm_poke 0 = .ok (.aload_n 0, 1) by decide +kernel) rfl, ?_⟩
  refine List.forall_mem_cons.mpr ⟨mx_ok_iload_n (show decode b_xm_poke 1 = .ok (.iload_n 1, 1) by decide +kernel) rfl, ?_⟩
  refine List.forall_mem_cons.mpr ⟨mx_ok_invV vw_G (ct_xm_isInData l np nd) ⟨vm_44, vm_45, vm_46, ⟨by decide +kernel, by decide +kernel, by decide +kernel⟩, ⟨by decide, by decide⟩, rfl, rfl⟩ vm_47 vm_48 rfl (show decode b_xm_poke 2 = .ok (.invokevirtual 37, 3) by decide +kernel), ?_⟩
  refine List.forall_mem_cons.mpr ⟨mx_ok_if_ne (show decode b_xm_poke 5 = .ok (.ifCond .ne 5, 3) by decide +kernel) (by decide), ?_⟩
  refine List.forall_mem_cons.mpr ⟨mx_ok_iconst (show decode b_xm_poke 8 = .ok (.iconst 0, 1) by decide +kernel) (by decide), ?_⟩
  refine List.forall_mem_cons.mpr ⟨mx_ok_zret (show decode b_xm_poke 9 = .ok (.ireturn, 1) by decide +kernel) rfl, ?_⟩
  refine List.forall_mem_cons.mpr ⟨mx_ok_aload_n (show decode b_xm_poke 10 = .ok (.aload_n 0, 1) by decide +kernel) rfl, ?_⟩
  refine List.forall_mem_cons.mpr ⟨mx_ok_getf fd_xm_17 (show decode b_xm_poke 11 = .ok (.getfield 17, 3) by decide +kernel), ?_⟩
  refine List.forall_mem_cons.mpr ⟨mx_ok_iload_n (show decode b_xm_poke 14 = .ok (.iload_n 1, 1) by decide +kernel) rfl, ?_⟩
  refine List.forall_mem_cons.mpr ⟨mx_ok_iload_n (show decode b_xm_poke 15 = .ok (.iload_n 2, 1) by decide +kernel) rfl, ?_⟩
  refine List.forall_mem_cons.mpr ⟨mx_ok_iast (show decode b_xm_poke 16 = .ok (.iastore, 1) by decide +kernel), ?_⟩
  refine List.forall_mem_cons.mpr ⟨mx_ok_iconst (show decode b_xm_poke 17 = .ok (.iconst 1, 1) by decide +kernel) (by decide), ?_⟩
  refine List.forall_mem_cons.mpr ⟨mx_ok_zret (show decode b_xm_poke 18 = .ok (.ireturn, 1) by decide +kernel) rfl, ?_⟩
  exact fun _ h => absurd h List.not_mem_nil
set_option maxRecDepth 100000 in
set_option maxHeartbeats 4000000 in
theorem ct_xm_poke (l : Launch) (np nd : Nat) : mx_Ct l vw_T vw_cl (kx np nd) { frames := 1, cells := 0, slots := 0, locals := 21 } y_xm_poke b_xm_poke 3 (some .boolean) (pre_xm_poke np nd) (fn_xm_poke np nd) := by
  refine mx_ct_of (tb_xm_poke np nd ) (by decide) (ok_xm_poke l np nd ) (fun as u h => by obtain ⟨_, _, rfl, -⟩ := h; exact Nat.le_of_ble_eq_true rfl) ?_
  intro as u hpre At hc hw
  obtain ⟨a1, a2, rfl, hp⟩ := hpre
  obtain ⟨RES, hRES⟩ : ∃ z, z = (xm_poke_b np nd a1 a2 u) := ⟨_, rfl⟩
  have hfn : fn_xm_poke np nd [.inr (.inr 0), .inl a1, .inl a2] u = mx_rB RES := by
    show ((some (.inl (xm_poke np nd a1 a2 u)), (xm_poke_s np nd a1 a2 u)) : Option mx_V × mx_S) = _
    rw [hRES, xm_poke_eq, xm_poke_s_eq]
    rfl
  rw [hfn] at hc
  exact hc 200 [] _ _ _ _ (
    And.intro rfl (
    And.intro ⟨_, rfl, trivial⟩ (
    And.intro (fun h5 => 
     And.intro ((hp.1 h5)) (
     And.intro (Or.inr rfl) (
     congrArg mx_rB (show (1, (mx_sa u 2 (a1).toNatClampNeg a2)) = RES from (if_neg h5).symm.trans hRES.symm)))) (fun h5 => 
     And.intro (Or.inl rfl) (
     congrArg mx_rB (show (0, u) = RES from (if_pos h5).symm.trans hRES.symm))))))
/-! WideMachine.peek(I)I -/
noncomputable def xm_peek_b (np nd : Nat) (a1 : Int32) (u : mx_S) : Int32 :=
  if (xm_isInData np nd a1 ) = 0 then
   0
  else
   (mx_ga u 2 (a1).toNatClampNeg)
theorem xm_peek_ex : ∃ f : Nat → Nat → Int32 → mx_S → (Int32), f = xm_peek_b := ⟨_, rfl⟩
noncomputable def xm_peek : Nat → Nat → Int32 → mx_S → (Int32) := Classical.choose xm_peek_ex
theorem xm_peek_eq (np nd : Nat) (a1 : Int32) (u : mx_S) : (xm_peek np nd a1 u) = (xm_peek_b np nd a1 u) := by rw [show xm_peek = xm_peek_b from Classical.choose_spec xm_peek_ex]
def q_xm_peek (np nd : Nat) (a1 : Int32) (u : mx_S) : Prop :=
  (((xm_isInData np nd a1 ) = 0) → 
   True) ∧ ((¬ ((xm_isInData np nd a1 ) = 0)) → 
   (vp_in a1 nd))
def pre_xm_peek (np nd : Nat) : List mx_V → mx_S → Prop := fun as u => ∃ (a1 : Int32), as = [.inr (.inr 0), .inl a1] ∧ q_xm_peek np nd a1 u
noncomputable def fn_xm_peek (np nd : Nat) : mx_F := fun as u => match as with
  | [_, .inl a1] => mx_rI u (xm_peek np nd a1 u)
  | _ => (none, u)
noncomputable def tb_xm_peek (np nd : Nat) : List (Nat × mx_T) := [
  (0, mx_aload_n 0 0),
  (1, mx_iload_n 1 1),
  (2, mx_invV (kx np nd) 0 1 (pre_xm_isInData np nd) (fn_xm_isInData np nd) 2),
  (5, mx_if_eq 17 5),
  (8, mx_aload_n 0 8),
  (9, mx_getf (kx np nd) 0 1 9),
  (12, mx_iload_n 1 12),
  (13, mx_iald (kx np nd) 13),
  (14, mx_goto 18 14),
  (17, mx_iconst 0 17),
  (18, mx_iret 18)]
set_option maxRecDepth 100000 in
set_option maxHeartbeats 4000000 in
theorem ok_xm_peek (l : Launch) (np nd : Nat) : ∀ q ∈ tb_xm_peek np nd , mx_Ok l ({ frames := 1, cells := 0, slots := 0, locals := 21 } : Room) b_xm_peek 2 "WideMachine" (some .int) vw_T vw_cl (kx np nd) q.1 q.2 := by
  refine List.forall_mem_cons.mpr ⟨mx_ok_aload_n (show decode b_xm_peek 0 = .ok (.aload_n 0, 1) by decide +kernel) rfl, ?_⟩
  refine List.forall_mem_cons.mpr ⟨mx_ok_iload_n (show decode b_xm_peek 1 = .ok (.iload_n 1, 1) by decide +kernel) rfl, ?_⟩
  refine List.forall_mem_cons.mpr ⟨mx_ok_invV vw_G (ct_xm_isInData l np nd) ⟨vm_44, vm_45, vm_46, ⟨by decide +kernel, by decide +kernel, by decide +kernel⟩, ⟨by decide, by decide⟩, rfl, rfl⟩ vm_47 vm_48 rfl (show decode b_xm_peek 2 = .ok (.invokevirtual 37, 3) by decide +kernel), ?_⟩
  refine List.forall_mem_cons.mpr ⟨mx_ok_if_eq (show decode b_xm_peek 5 = .ok (.ifCond .eq 12, 3) by decide +kernel) (by decide), ?_⟩
  refine List.forall_mem_cons.mpr ⟨mx_ok_aload_n (show decode b_xm_peek 8 = .ok (.aload_n 0, 1) by decide +kernel) rfl, ?_⟩
  refine List.forall_mem_cons.mpr ⟨mx_ok_getf fd_xm_17 (show decode b_xm_peek 9 = .ok (.getfield 17, 3) by decide +kernel), ?_⟩
  refine List.forall_mem_cons.mpr ⟨mx_ok_iload_n (show decode b_xm_peek 12 = .ok (.iload_n 1, 1) by decide +kernel) rfl, ?_⟩
  refine List.forall_mem_cons.mpr ⟨mx_ok_iald (show decode b_xm_peek 13 = .ok (.iaload, 1) by decide +kernel), ?_⟩
  refine List.forall_mem_cons.mpr ⟨mx_ok_goto (show decode b_xm_peek 14 = .ok (.goto 4, 3) by decide +kernel) (by decide), ?_⟩
  refine List.forall_mem_cons.mpr ⟨mx_ok_iconst (show decode b_xm_peek 17 = .ok (.iconst 0, 1) by decide +kernel) (by decide), ?_⟩
  refine List.forall_mem_cons.mpr ⟨mx_ok_iret (show decode b_xm_peek 18 = .ok (.ireturn, 1) by decide +kernel) rfl, ?_⟩
  exact fun _ h => absurd h List.not_mem_nil
set_option maxRecDepth 100000 in
set_option maxHeartbeats 4000000 in
theorem ct_xm_peek (l : Launch) (np nd : Nat) : mx_Ct l vw_T vw_cl (kx np nd) { frames := 1, cells := 0, slots := 0, locals := 21 } y_xm_peek b_xm_peek 2 (some .int) (pre_xm_peek np nd) (fn_xm_peek np nd) := by
  refine mx_ct_of (tb_xm_peek np nd ) (by decide) (ok_xm_peek l np nd ) (fun as u h => by obtain ⟨_, rfl, -⟩ := h; exact Nat.le_of_ble_eq_true rfl) ?_
  intro as u hpre At hc hw
  obtain ⟨a1, rfl, hp⟩ := hpre
  exact hc 200 [] _ _ _ _ (
    And.intro rfl (
    And.intro ⟨_, rfl, trivial⟩ (
    And.intro (fun h5 => 
     congrArg (mx_rI u) (show 0 = (xm_peek np nd a1 u) from ((xm_peek_eq np nd a1 u).trans (if_pos h5)).symm)) (fun h5 => 
     And.intro ((hp.2 h5)) (
     congrArg (mx_rI u) (show (mx_ga u 2 (a1).toNatClampNeg) = (xm_peek np nd a1 u) from ((xm_peek_eq np nd a1 u).trans (if_neg h5)).symm))))))
/-! WideMachine.set(II)Z -/
noncomputable def xm_set_b (a1 : Int32) (a2 : Int32) (u : mx_S) : Int32 × mx_S :=
  if a1 < 0 then
   (0, u)
  else
   if a1 < 32 then
    (1, (mx_sa u 3 (a1).toNatClampNeg a2))
   else
    (0, u)
theorem xm_set_ex : ∃ f : Int32 → Int32 → mx_S → Int32, f = (fun a1 a2 u => (xm_set_b a1 a2 u).1) := ⟨_, rfl⟩
noncomputable def xm_set : Int32 → Int32 → mx_S → Int32 := Classical.choose xm_set_ex
theorem xm_set_eq (a1 : Int32) (a2 : Int32) (u : mx_S) : (xm_set a1 a2 u) = (xm_set_b a1 a2 u).1 := by rw [show xm_set = (fun a1 a2 u => (xm_set_b a1 a2 u).1) from Classical.choose_spec xm_set_ex]
theorem xm_set_s_ex : ∃ f : Int32 → Int32 → mx_S → mx_S, f = (fun a1 a2 u => (xm_set_b a1 a2 u).2) := ⟨_, rfl⟩
noncomputable def xm_set_s : Int32 → Int32 → mx_S → mx_S := Classical.choose xm_set_s_ex
theorem xm_set_s_eq (a1 : Int32) (a2 : Int32) (u : mx_S) : (xm_set_s a1 a2 u) = (xm_set_b a1 a2 u).2 := by rw [show xm_set_s = (fun a1 a2 u => (xm_set_b a1 a2 u).2) from Classical.choose_spec xm_set_s_ex]
def q_xm_set (np nd : Nat) (a1 : Int32) (a2 : Int32) (u : mx_S) : Prop :=
  ((a1 < 0) → 
   True) ∧ ((¬ (a1 < 0)) → 
   ((a1 < 32) → 
    (vp_in a1 32)) ∧ ((¬ (a1 < 32)) → 
    True))
def pre_xm_set (np nd : Nat) : List mx_V → mx_S → Prop := fun as u => ∃ (a1 : Int32) (a2 : Int32), as = [.inr (.inr 0), .inl a1, .inl a2] ∧ q_xm_set np nd a1 a2 u
noncomputable def fn_xm_set (np nd : Nat) : mx_F := fun as u => match as with
  | [_, .inl a1, .inl a2] => (some (.inl (xm_set a1 a2 u)), (xm_set_s a1 a2 u))
  | _ => (none, u)
noncomputable def tb_xm_set (np nd : Nat) : List (Nat × mx_T) := [
  (0, mx_iload_n 1 0),
  (1, mx_if_lt 10 1),
  (4, mx_iload_n 1 4),
  (5, mx_bipush 32 5),
  (7, mx_icmp_lt 12 7),
  (10, mx_iconst 0 10),
  (11, mx_zret 11),
  (12, mx_aload_n 0 12),
  (13, mx_getf (kx np nd) 0 2 13),
  (16, mx_iload_n 1 16),
  (17, mx_iload_n 2 17),
  (18, mx_iast (kx np nd) 18),
  (19, mx_iconst 1 19),
  (20, mx_zret 20)]
set_option maxRecDepth 100000 in
set_option maxHeartbeats 4000000 in
theorem ok_xm_set (l : Launch) (np nd : Nat) : ∀ q ∈ tb_xm_set np nd , mx_Ok l ({ frames := 0, cells := 0, slots := 0, locals := 0 } : Room) b_xm_set 3 "WideMachine" (some .boolean) vw_T vw_cl (kx np nd) q.1 q.2 := by
  refine List.forall_mem_cons.mpr ⟨mx_ok_iload_n (show decode b_xm_set 0 = .ok (.iload_n 1, 1) by decide +kernel) rfl, ?_⟩
  refine List.forall_mem_cons.mpr ⟨mx_ok_if_lt (show decode b_xm_set 1 = .ok (.ifCond .lt 9, 3) by decide +kernel) (by decide), ?_⟩
  refine List.forall_mem_cons.mpr ⟨mx_ok_iload_n (show decode b_xm_set 4 = .ok (.iload_n 1, 1) by decide +kernel) rfl, ?_⟩
  refine List.forall_mem_cons.mpr ⟨mx_ok_bipush (show decode b_xm_set 5 = .ok (.bipush 32, 2) by decide +kernel) (by decide), ?_⟩
  refine List.forall_mem_cons.mpr ⟨mx_ok_icmp_lt (show decode b_xm_set 7 = .ok (.if_icmp .lt 5, 3) by decide +kernel) (by decide), ?_⟩
  refine List.forall_mem_cons.mpr ⟨mx_ok_iconst (show decode b_xm_set 10 = .ok (.iconst 0, 1) by decide +kernel) (by decide), ?_⟩
  refine List.forall_mem_cons.mpr ⟨mx_ok_zret (show decode b_xm_set 11 = .ok (.ireturn, 1) by decide +kernel) rfl, ?_⟩
  refine List.forall_mem_cons.mpr ⟨mx_ok_aload_n (show decode b_xm_set 12 = .ok (.aload_n 0, 1) by decide +kernel) rfl, ?_⟩
  refine List.forall_mem_cons.mpr ⟨mx_ok_getf fd_xm_20 (show decode b_xm_set 13 = .ok (.getfield 20, 3) by decide +kernel), ?_⟩
  refine List.forall_mem_cons.mpr ⟨mx_ok_iload_n (show decode b_xm_set 16 = .ok (.iload_n 1, 1) by decide +kernel) rfl, ?_⟩
  refine List.forall_mem_cons.mpr ⟨mx_ok_iload_n (show decode b_xm_set 17 = .ok (.iload_n 2, 1) by decide +kernel) rfl, ?_⟩
  refine List.forall_mem_cons.mpr ⟨mx_ok_iast (show decode b_xm_set 18 = .ok (.iastore, 1) by decide +kernel), ?_⟩
  refine List.forall_mem_cons.mpr ⟨mx_ok_iconst (show decode b_xm_set 19 = .ok (.iconst 1, 1) by decide +kernel) (by decide), ?_⟩
  refine List.forall_mem_cons.mpr ⟨mx_ok_zret (show decode b_xm_set 20 = .ok (.ireturn, 1) by decide +kernel) rfl, ?_⟩
  exact fun _ h => absurd h List.not_mem_nil
set_option maxRecDepth 100000 in
set_option maxHeartbeats 4000000 in
theorem ct_xm_set (l : Launch) (np nd : Nat) : mx_Ct l vw_T vw_cl (kx np nd) { frames := 0, cells := 0, slots := 0, locals := 0 } y_xm_set b_xm_set 3 (some .boolean) (pre_xm_set np nd) (fn_xm_set np nd) := by
  refine mx_ct_of (tb_xm_set np nd ) (by decide) (ok_xm_set l np nd ) (fun as u h => by obtain ⟨_, _, rfl, -⟩ := h; exact Nat.le_of_ble_eq_true rfl) ?_
  intro as u hpre At hc hw
  obtain ⟨a1, a2, rfl, hp⟩ := hpre
  obtain ⟨RES, hRES⟩ : ∃ z, z = (xm_set_b a1 a2 u) := ⟨_, rfl⟩
  have hfn : fn_xm_set np nd [.inr (.inr 0), .inl a1, .inl a2] u = mx_rB RES := by
    show ((some (.inl (xm_set a1 a2 u)), (xm_set_s a1 a2 u)) : Option mx_V × mx_S) = _
    rw [hRES, xm_set_eq, xm_set_s_eq]
    rfl
  rw [hfn] at hc
  exact hc 200 [] _ _ _ _ (
    And.intro (fun h1 => 
     And.intro (Or.inl rfl) (
     congrArg mx_rB (show (0, u) = RES from (if_pos h1).symm.trans hRES.symm))) (fun h1 => 
     And.intro (fun h7 => 
      And.intro (((hp.2 h1).1 h7)) (
      And.intro (Or.inr rfl) (
      congrArg mx_rB (show (1, (mx_sa u 3 (a1).toNatClampNeg a2)) = RES from ((if_neg h1).trans (if_pos h7)).symm.trans hRES.symm)))) (fun h7 => 
      And.intro (Or.inl rfl) (
      congrArg mx_rB (show (0, u) = RES from ((if_neg h1).trans (if_neg h7)).symm.trans hRES.symm)))))
/-! WideMachine.get(I)I -/
noncomputable def xm_get_b (a1 : Int32) (u : mx_S) : Int32 :=
  if a1 < 0 then
   0
  else
   if a1 < 32 then
    (mx_ga u 3 (a1).toNatClampNeg)
   else
    0
theorem xm_get_ex : ∃ f : Int32 → mx_S → (Int32), f = xm_get_b := ⟨_, rfl⟩
noncomputable def xm_get : Int32 → mx_S → (Int32) := Classical.choose xm_get_ex
theorem xm_get_eq (a1 : Int32) (u : mx_S) : (xm_get a1 u) = (xm_get_b a1 u) := by rw [show xm_get = xm_get_b from Classical.choose_spec xm_get_ex]
def q_xm_get (np nd : Nat) (a1 : Int32) (u : mx_S) : Prop :=
  ((a1 < 0) → 
   True) ∧ ((¬ (a1 < 0)) → 
   ((a1 < 32) → 
    (vp_in a1 32)) ∧ ((¬ (a1 < 32)) → 
    True))
def pre_xm_get (np nd : Nat) : List mx_V → mx_S → Prop := fun as u => ∃ (a1 : Int32), as = [.inr (.inr 0), .inl a1] ∧ q_xm_get np nd a1 u
noncomputable def fn_xm_get (np nd : Nat) : mx_F := fun as u => match as with
  | [_, .inl a1] => mx_rI u (xm_get a1 u)
  | _ => (none, u)
noncomputable def tb_xm_get (np nd : Nat) : List (Nat × mx_T) := [
  (0, mx_iload_n 1 0),
  (1, mx_if_lt 10 1),
  (4, mx_iload_n 1 4),
  (5, mx_bipush 32 5),
  (7, mx_icmp_lt 14 7),
  (10, mx_iconst 0 10),
  (11, mx_goto 20 11),
  (14, mx_aload_n 0 14),
  (15, mx_getf (kx np nd) 0 2 15),
  (18, mx_iload_n 1 18),
  (19, mx_iald (kx np nd) 19),
  (20, mx_iret 20)]
set_option maxRecDepth 100000 in
set_option maxHeartbeats 4000000 in
theorem ok_xm_get (l : Launch) (np nd : Nat) : ∀ q ∈ tb_xm_get np nd , mx_Ok l ({ frames := 0, cells := 0, slots := 0, locals := 0 } : Room) b_xm_get 2 "WideMachine" (some .int) vw_T vw_cl (kx np nd) q.1 q.2 := by
  refine List.forall_mem_cons.mpr ⟨mx_ok_iload_n (show decode b_xm_get 0 = .ok (.iload_n 1, 1) by decide +kernel) rfl, ?_⟩
  refine List.forall_mem_cons.mpr ⟨mx_ok_if_lt (show decode b_xm_get 1 = .ok (.ifCond .lt 9, 3) by decide +kernel) (by decide), ?_⟩
  refine List.forall_mem_cons.mpr ⟨mx_ok_iload_n (show decode b_xm_get 4 = .ok (.iload_n 1, 1) by decide +kernel) rfl, ?_⟩
  refine List.forall_mem_cons.mpr ⟨mx_ok_bipush (show decode b_xm_get 5 = .ok (.bipush 32, 2) by decide +kernel) (by decide), ?_⟩
  refine List.forall_mem_cons.mpr ⟨mx_ok_icmp_lt (show decode b_xm_get 7 = .ok (.if_icmp .lt 7, 3) by decide +kernel) (by decide), ?_⟩
  refine List.forall_mem_cons.mpr ⟨mx_ok_iconst (show decode b_xm_get 10 = .ok (.iconst 0, 1) by decide +kernel) (by decide), ?_⟩
  refine List.forall_mem_cons.mpr ⟨mx_ok_goto (show decode b_xm_get 11 = .ok (.goto 9, 3) by decide +kernel) (by decide), ?_⟩
  refine List.forall_mem_cons.mpr ⟨mx_ok_aload_n (show decode b_xm_get 14 = .ok (.aload_n 0, 1) by decide +kernel) rfl, ?_⟩
  refine List.forall_mem_cons.mpr ⟨mx_ok_getf fd_xm_20 (show decode b_xm_get 15 = .ok (.getfield 20, 3) by decide +kernel), ?_⟩
  refine List.forall_mem_cons.mpr ⟨mx_ok_iload_n (show decode b_xm_get 18 = .ok (.iload_n 1, 1) by decide +kernel) rfl, ?_⟩
  refine List.forall_mem_cons.mpr ⟨mx_ok_iald (show decode b_xm_get 19 = .ok (.iaload, 1) by decide +kernel), ?_⟩
  refine List.forall_mem_cons.mpr ⟨mx_ok_iret (show decode b_xm_get 20 = .ok (.ireturn, 1) by decide +kernel) rfl, ?_⟩
  exact fun _ h => absurd h List.not_mem_nil
set_option maxRecDepth 100000 in
set_option maxHeartbeats 4000000 in
theorem ct_xm_get (l : Launch) (np nd : Nat) : mx_Ct l vw_T vw_cl (kx np nd) { frames := 0, cells := 0, slots := 0, locals := 0 } y_xm_get b_xm_get 2 (some .int) (pre_xm_get np nd) (fn_xm_get np nd) := by
  refine mx_ct_of (tb_xm_get np nd ) (by decide) (ok_xm_get l np nd ) (fun as u h => by obtain ⟨_, rfl, -⟩ := h; exact Nat.le_of_ble_eq_true rfl) ?_
  intro as u hpre At hc hw
  obtain ⟨a1, rfl, hp⟩ := hpre
  exact hc 200 [] _ _ _ _ (
    And.intro (fun h1 => 
     congrArg (mx_rI u) (show 0 = (xm_get a1 u) from ((xm_get_eq a1 u).trans (if_pos h1)).symm)) (fun h1 => 
     And.intro (fun h7 => 
      And.intro (((hp.2 h1).1 h7)) (
      congrArg (mx_rI u) (show (mx_ga u 3 (a1).toNatClampNeg) = (xm_get a1 u) from ((xm_get_eq a1 u).trans ((if_neg h1).trans (if_pos h7))).symm))) (fun h7 => 
      congrArg (mx_rI u) (show 0 = (xm_get a1 u) from ((xm_get_eq a1 u).trans ((if_neg h1).trans (if_neg h7))).symm))))
/-! WideMachine.isRaised(I)Z -/
noncomputable def xm_isRaised_b (a1 : Int32) (u : mx_S) : Int32 :=
  if (((mx_gf u 0 10) >>> (a1 &&& 31)) &&& (1 : Int32)) = 0 then
   0
  else
   1
theorem xm_isRaised_ex : ∃ f : Int32 → mx_S → (Int32), f = xm_isRaised_b := ⟨_, rfl⟩
noncomputable def xm_isRaised : Int32 → mx_S → (Int32) := Classical.choose xm_isRaised_ex
theorem xm_isRaised_eq (a1 : Int32) (u : mx_S) : (xm_isRaised a1 u) = (xm_isRaised_b a1 u) := by rw [show xm_isRaised = xm_isRaised_b from Classical.choose_spec xm_isRaised_ex]
def pre_xm_isRaised (np nd : Nat) : List mx_V → mx_S → Prop := fun as u => ∃ (a1 : Int32), as = [.inr (.inr 0), .inl a1] ∧ True
noncomputable def fn_xm_isRaised (np nd : Nat) : mx_F := fun as u => match as with
  | [_, .inl a1] => mx_rI u (xm_isRaised a1 u)
  | _ => (none, u)
noncomputable def tb_xm_isRaised (np nd : Nat) : List (Nat × mx_T) := [
  (0, mx_aload_n 0 0),
  (1, mx_getf (kx np nd) 0 10 1),
  (4, mx_iload_n 1 4),
  (5, mx_ishr 5),
  (6, mx_iconst 1 6),
  (7, mx_iand 7),
  (8, mx_if_eq 15 8),
  (11, mx_iconst 1 11),
  (12, mx_goto 16 12),
  (15, mx_iconst 0 15),
  (16, mx_zret 16)]
set_option maxRecDepth 100000 in
set_option maxHeartbeats 4000000 in
theorem ok_xm_isRaised (l : Launch) (np nd : Nat) : ∀ q ∈ tb_xm_isRaised np nd , mx_Ok l ({ frames := 0, cells := 0, slots := 0, locals := 0 } : Room) b_xm_isRaised 2 "WideMachine" (some .boolean) vw_T vw_cl (kx np nd) q.1 q.2 := by
  refine List.forall_mem_cons.mpr ⟨mx_ok_aload_n (show decode b_xm_isRaised 0 = .ok (.aload_n 0, 1) by decide +kernel) rfl, ?_⟩
  refine List.forall_mem_cons.mpr ⟨mx_ok_getf fd_xm_68 (show decode b_xm_isRaised 1 = .ok (.getfield 68, 3) by decide +kernel), ?_⟩
  refine List.forall_mem_cons.mpr ⟨mx_ok_iload_n (show decode b_xm_isRaised 4 = .ok (.iload_n 1, 1) by decide +kernel) rfl, ?_⟩
  refine List.forall_mem_cons.mpr ⟨mx_ok_ishr (show decode b_xm_isRaised 5 = .ok (.ishr, 1) by decide +kernel), ?_⟩
  refine List.forall_mem_cons.mpr ⟨mx_ok_iconst (show decode b_xm_isRaised 6 = .ok (.iconst 1, 1) by decide +kernel) (by decide), ?_⟩
  refine List.forall_mem_cons.mpr ⟨mx_ok_iand (show decode b_xm_isRaised 7 = .ok (.iand, 1) by decide +kernel), ?_⟩
  refine List.forall_mem_cons.mpr ⟨mx_ok_if_eq (show decode b_xm_isRaised 8 = .ok (.ifCond .eq 7, 3) by decide +kernel) (by decide), ?_⟩
  refine List.forall_mem_cons.mpr ⟨mx_ok_iconst (show decode b_xm_isRaised 11 = .ok (.iconst 1, 1) by decide +kernel) (by decide), ?_⟩
  refine List.forall_mem_cons.mpr ⟨mx_ok_goto (show decode b_xm_isRaised 12 = .ok (.goto 4, 3) by decide +kernel) (by decide), ?_⟩
  refine List.forall_mem_cons.mpr ⟨mx_ok_iconst (show decode b_xm_isRaised 15 = .ok (.iconst 0, 1) by decide +kernel) (by decide), ?_⟩
  refine List.forall_mem_cons.mpr ⟨mx_ok_zret (show decode b_xm_isRaised 16 = .ok (.ireturn, 1) by decide +kernel) rfl, ?_⟩
  exact fun _ h => absurd h List.not_mem_nil
set_option maxRecDepth 100000 in
set_option maxHeartbeats 4000000 in
theorem ct_xm_isRaised (l : Launch) (np nd : Nat) : mx_Ct l vw_T vw_cl (kx np nd) { frames := 0, cells := 0, slots := 0, locals := 0 } y_xm_isRaised b_xm_isRaised 2 (some .boolean) (pre_xm_isRaised np nd) (fn_xm_isRaised np nd) := by
  refine mx_ct_of (tb_xm_isRaised np nd ) (by decide) (ok_xm_isRaised l np nd ) (fun as u h => by obtain ⟨_, rfl, -⟩ := h; exact Nat.le_of_ble_eq_true rfl) ?_
  intro as u hpre At hc hw
  obtain ⟨a1, rfl, hp⟩ := hpre
  exact hc 200 [] _ _ _ _ (
    And.intro (fun h8 => 
     And.intro (Or.inl rfl) (
     congrArg (mx_rI u) (show 0 = (xm_isRaised a1 u) from ((xm_isRaised_eq a1 u).trans (if_pos h8)).symm))) (fun h8 => 
     And.intro (Or.inr rfl) (
     congrArg (mx_rI u) (show 1 = (xm_isRaised a1 u) from ((xm_isRaised_eq a1 u).trans (if_neg h8)).symm))))
/-! WideMachine.endOfPacket()I -/
noncomputable def xm_endOfPacket_l22 (np nd : Nat) (u : mx_S) : Nat → Int32 → Int32 → (Int32)
  | 0, _, _ => 0
  | n + 1, v1, v2 =>
    if v1 < v2 then
     (-1)
    else
     if (nI np) ≤ v2 then
      (-1)
     else
      if (xw_goesOn (mx_ga u 1 (v2).toNatClampNeg) ) = 0 then
       (v2 + (1 : Int32))
      else
       xm_endOfPacket_l22 np nd u n v1 (v2 + 1)
def q_xm_endOfPacket_l22 (np nd : Nat) (u : mx_S) : Nat → Int32 → Int32 → Prop
  | 0, _, _ => False
  | n + 1, v1, v2 =>
    ((v1 < v2) → 
     True) ∧ ((¬ (v1 < v2)) → 
     (((nI np) ≤ v2) → 
      True) ∧ ((¬ ((nI np) ≤ v2)) → 
      (vp_in v2 np) ∧ (
       ((¬ ((xw_goesOn (mx_ga u 1 (v2).toNatClampNeg) ) = 0)) → 
        q_xm_endOfPacket_l22 np nd u n v1 (v2 + 1)) ∧ (((xw_goesOn (mx_ga u 1 (v2).toNatClampNeg) ) = 0) → 
        True))))
noncomputable def xm_endOfPacket_b (np nd : Nat) (u : mx_S) : Int32 :=
  if 0 ≤ (mx_gf u 0 6) then
   xm_endOfPacket_l22 np nd u 20 ((mx_gf u 0 6) ||| (7 : Int32)) (mx_gf u 0 6)
  else
   (-1)
theorem xm_endOfPacket_ex : ∃ f : Nat → Nat → mx_S → (Int32), f = xm_endOfPacket_b := ⟨_, rfl⟩
noncomputable def xm_endOfPacket : Nat → Nat → mx_S → (Int32) := Classical.choose xm_endOfPacket_ex
theorem xm_endOfPacket_eq (np nd : Nat) (u : mx_S) : (xm_endOfPacket np nd u) = (xm_endOfPacket_b np nd u) := by rw [show xm_endOfPacket = xm_endOfPacket_b from Classical.choose_spec xm_endOfPacket_ex]
def q_xm_endOfPacket (np nd : Nat) (u : mx_S) : Prop :=
  ((0 ≤ (mx_gf u 0 6)) → 
   q_xm_endOfPacket_l22 np nd u 20 ((mx_gf u 0 6) ||| (7 : Int32)) (mx_gf u 0 6)) ∧ ((¬ (0 ≤ (mx_gf u 0 6))) → 
   True)
def pre_xm_endOfPacket (np nd : Nat) : List mx_V → mx_S → Prop := fun as u => as = [.inr (.inr 0)] ∧ q_xm_endOfPacket np nd u
noncomputable def fn_xm_endOfPacket (np nd : Nat) : mx_F := fun as u => match as with
  | [_] => mx_rI u (xm_endOfPacket np nd u)
  | _ => (none, u)
noncomputable def tb_xm_endOfPacket (np nd : Nat) : List (Nat × mx_T) := [
  (0, mx_aload_n 0 0),
  (1, mx_getf (kx np nd) 0 6 1),
  (4, mx_if_ge 9 4),
  (7, mx_iconst (-1) 7),
  (8, mx_iret 8),
  (9, mx_aload_n 0 9),
  (10, mx_getf (kx np nd) 0 6 10),
  (13, mx_bipush 7 13),
  (15, mx_ior 15),
  (16, mx_istore_n 1 16),
  (17, mx_aload_n 0 17),
  (18, mx_getf (kx np nd) 0 6 18),
  (21, mx_istore_n 2 21),
  (22, mx_iload_n 2 22),
  (23, mx_iload_n 1 23),
  (24, mx_icmp_gt 58 24),
  (27, mx_iload_n 2 27),
  (28, mx_aload_n 0 28),
  (29, mx_getf (kx np nd) 0 0 29),
  (32, mx_alen (kx np nd) 32),
  (33, mx_icmp_ge 58 33),
  (36, mx_aload_n 0 36),
  (37, mx_getf (kx np nd) 0 0 37),
  (40, mx_iload_n 2 40),
  (41, mx_iald (kx np nd) 41),
  (42, mx_invS 1 (pre_xw_goesOn np nd) (fn_xw_goesOn np nd) 42),
  (45, mx_if_ne 52 45),
  (48, mx_iload_n 2 48),
  (49, mx_iconst 1 49),
  (50, mx_iadd 50),
  (51, mx_iret 51),
  (52, mx_iinc 2 1 52),
  (55, mx_goto 22 55),
  (58, mx_iconst (-1) 58),
  (59, mx_iret 59)]
set_option maxRecDepth 100000 in
set_option maxHeartbeats 4000000 in
theorem ok_xm_endOfPacket (l : Launch) (np nd : Nat) : ∀ q ∈ tb_xm_endOfPacket np nd , mx_Ok l ({ frames := 1, cells := 0, slots := 0, locals := 20 } : Room) b_xm_endOfPacket 3 "WideMachine" (some .int) vw_T vw_cl (kx np nd) q.1 q.2 := by
  refine List.forall_mem_cons.mpr ⟨mx_ok_aload_n (show decode b_xm_endOfPacket 0 = .ok (.aload_n 0, 1) by decide +kernel) rfl, ?_⟩
  refine List.forall_mem_cons.mpr ⟨mx_ok_getf fd_xm_48 (show decode b_xm_endOfPacket 1 = .ok (.getfield 48, 3) by decide +kernel), ?_⟩
  refine List.forall_mem_cons.mpr ⟨mx_ok_if_ge (show decode b_xm_endOfPacket 4 = .ok (.ifCond .ge 5, 3) by decide +kernel) (by decide), ?_⟩
  refine List.forall_mem_cons.mpr ⟨mx_ok_iconst (show decode b_xm_endOfPacket 7 = .ok (.iconst (-1), 1) by decide +kernel) (by decide), ?_⟩
  refine List.forall_mem_cons.mpr ⟨mx_ok_iret (show decode b_xm_endOfPacket 8 = .ok (.ireturn, 1) by decide +kernel) rfl, ?_⟩
  refine List.forall_mem_cons.mpr ⟨mx_ok_aload_n (show decode b_xm_endOfPacket 9 = .ok (.aload_n 0, 1) by decide +kernel) rfl, ?_⟩
  refine List.forall_mem_cons.mpr ⟨mx_ok_getf fd_xm_48 (show decode b_xm_endOfPacket 10 = .ok (.getfield 48, 3) by decide +kernel), ?_⟩
  refine List.forall_mem_cons.mpr ⟨mx_ok_bipush (show decode b_xm_endOfPacket 13 = .ok (.bipush 7, 2) by decide +kernel) (by decide), ?_⟩
  refine List.forall_mem_cons.mpr ⟨mx_ok_ior (show decode b_xm_endOfPacket 15 = .ok (.ior, 1) by decide +kernel), ?_⟩
  refine List.forall_mem_cons.mpr ⟨mx_ok_istore_n (show decode b_xm_endOfPacket 16 = .ok (.istore_n 1, 1) by decide +kernel) rfl (by decide), ?_⟩
  refine List.forall_mem_cons.mpr ⟨mx_ok_aload_n (show decode b_xm_endOfPacket 17 = .ok (.aload_n 0, 1) by decide +kernel) rfl, ?_⟩
  refine List.forall_mem_cons.mpr ⟨mx_ok_getf fd_xm_48 (show decode b_xm_endOfPacket 18 = .ok (.getfield 48, 3) by decide +kernel), ?_⟩
  refine List.forall_mem_cons.mpr ⟨mx_ok_istore_n (show decode b_xm_endOfPacket 21 = .ok (.istore_n 2, 1) by decide +kernel) rfl (by decide), ?_⟩
  refine List.forall_mem_cons.mpr ⟨mx_ok_iload_n (show decode b_xm_endOfPacket 22 = .ok (.iload_n 2, 1) by decide +kernel) rfl, ?_⟩
  refine List.forall_mem_cons.mpr ⟨mx_ok_iload_n (show decode b_xm_endOfPacket 23 = .ok (.iload_n 1, 1) by decide +kernel) rfl, ?_⟩
  refine List.forall_mem_cons.mpr ⟨mx_ok_icmp_gt (show decode b_xm_endOfPacket 24 = .ok (.if_icmp .gt 34, 3) by decide +kernel) (by decide), ?_⟩
  refine List.forall_mem_cons.mpr ⟨mx_ok_iload_n (show decode b_xm_endOfPacket 27 = .ok (.iload_n 2, 1) by decide +kernel) rfl, ?_⟩
  refine List.forall_mem_cons.mpr ⟨mx_ok_aload_n (show decode b_xm_endOfPacket 28 = .ok (.aload_n 0, 1) by decide +kernel) rfl, ?_⟩
  refine List.forall_mem_cons.mpr ⟨mx_ok_getf fd_xm_13 (show decode b_xm_endOfPacket 29 = .ok (.getfield 13, 3) by decide +kernel), ?_⟩
  refine List.forall_mem_cons.mpr ⟨mx_ok_alen (show decode b_xm_endOfPacket 32 = .ok (.arraylength, 1) by decide +kernel), ?_⟩
  refine List.forall_mem_cons.mpr ⟨mx_ok_icmp_ge (show decode b_xm_endOfPacket 33 = .ok (.if_icmp .ge 25, 3) by decide +kernel) (by decide), ?_⟩
  refine List.forall_mem_cons.mpr ⟨mx_ok_aload_n (show decode b_xm_endOfPacket 36 = .ok (.aload_n 0, 1) by decide +kernel) rfl, ?_⟩
  refine List.forall_mem_cons.mpr ⟨mx_ok_getf fd_xm_13 (show decode b_xm_endOfPacket 37 = .ok (.getfield 13, 3) by decide +kernel), ?_⟩
  refine List.forall_mem_cons.mpr ⟨mx_ok_iload_n (show decode b_xm_endOfPacket 40 = .ok (.iload_n 2, 1) by decide +kernel) rfl, ?_⟩
  refine List.forall_mem_cons.mpr ⟨mx_ok_iald (show decode b_xm_endOfPacket 41 = .ok (.iaload, 1) by decide +kernel), ?_⟩
  refine List.forall_mem_cons.mpr ⟨mx_ok_invS vw_G (ct_xw_goesOn l np nd) ⟨vm_95, vm_96, vm_97, ⟨by decide +kernel, by decide +kernel, by decide +kernel⟩, ⟨by decide, by decide⟩, rfl, rfl⟩ vm_98 (show decode b_xm_endOfPacket 42 = .ok (.invokestatic 134, 3) by decide +kernel), ?_⟩
  refine List.forall_mem_cons.mpr ⟨mx_ok_if_ne (show decode b_xm_endOfPacket 45 = .ok (.ifCond .ne 7, 3) by decide +kernel) (by decide), ?_⟩
  refine List.forall_mem_cons.mpr ⟨mx_ok_iload_n (show decode b_xm_endOfPacket 48 = .ok (.iload_n 2, 1) by decide +kernel) rfl, ?_⟩
  refine List.forall_mem_cons.mpr ⟨mx_ok_iconst (show decode b_xm_endOfPacket 49 = .ok (.iconst 1, 1) by decide +kernel) (by decide), ?_⟩
  refine List.forall_mem_cons.mpr ⟨mx_ok_iadd (show decode b_xm_endOfPacket 50 = .ok (.iadd, 1) by decide +kernel), ?_⟩
  refine List.forall_mem_cons.mpr ⟨mx_ok_iret (show decode b_xm_endOfPacket 51 = .ok (.ireturn, 1) by decide +kernel) rfl, ?_⟩
  refine List.forall_mem_cons.mpr ⟨mx_ok_iinc (show decode b_xm_endOfPacket 52 = .ok (.iinc 2 1, 3) by decide +kernel) (by decide) (by decide), ?_⟩
  refine List.forall_mem_cons.mpr ⟨mx_ok_goto (show decode b_xm_endOfPacket 55 = .ok (.goto (-33), 3) by decide +kernel) (by decide), ?_⟩
  refine List.forall_mem_cons.mpr ⟨mx_ok_iconst (show decode b_xm_endOfPacket 58 = .ok (.iconst (-1), 1) by decide +kernel) (by decide), ?_⟩
  refine List.forall_mem_cons.mpr ⟨mx_ok_iret (show decode b_xm_endOfPacket 59 = .ok (.ireturn, 1) by decide +kernel) rfl, ?_⟩
  exact fun _ h => absurd h List.not_mem_nil
set_option maxRecDepth 100000 in
set_option maxHeartbeats 4000000 in
theorem ct_xm_endOfPacket (l : Launch) (np nd : Nat) : mx_Ct l vw_T vw_cl (kx np nd) { frames := 1, cells := 0, slots := 0, locals := 20 } y_xm_endOfPacket b_xm_endOfPacket 3 (some .int) (pre_xm_endOfPacket np nd) (fn_xm_endOfPacket np nd) := by
  refine mx_ct_of (tb_xm_endOfPacket np nd ) (by decide) (ok_xm_endOfPacket l np nd ) (fun as u h => by obtain ⟨rfl, -⟩ := h; exact Nat.le_of_ble_eq_true rfl) ?_
  intro as u hpre At hc hw
  obtain ⟨rfl, hp⟩ := hpre
  obtain ⟨RES, hRES⟩ : ∃ z, z = (xm_endOfPacket np nd u) := ⟨_, rfl⟩
  have hfn : fn_xm_endOfPacket np nd [.inr (.inr 0)] u = mx_rI u RES := by rw [hRES]; rfl
  rw [hfn] at hc
  have lp22 : ∀ (n22 : Nat) (v1 : Int32) (v2 : Int32), q_xm_endOfPacket_l22 np nd u n22 v1 v2 → xm_endOfPacket_l22 np nd u n22 v1 v2 = RES → At 22 [(1, .inl v1), (2, .inl v2), (0, .inr (.inr 0))] [] u := by
    intro n22
    induction n22 with
    | zero =>
      intro v1 v2 hi he
      exact hi.elim
    | succ n22 ih22 =>
      intro v1 v2 hi22 he22
      exact hc 200 [22] _ _ _ _ (
        And.intro (fun h24 => 
         congrArg (mx_rI u) (show (-1) = RES from (if_pos h24).symm.trans he22)) (fun h24 => 
         And.intro (fun h33 => 
          congrArg (mx_rI u) (show (-1) = RES from ((if_neg h24).trans (if_pos h33)).symm.trans he22)) (fun h33 => 
          And.intro (((hi22.2 h24).2 h33).1) (
          And.intro rfl (
          And.intro ⟨_, rfl, trivial⟩ (
          And.intro (fun h45 => 
           hw [1, 0, 2] 22 _ [] _ (ih22 v1 (v2 + 1) (((hi22.2 h24).2 h33).2.1 h45) (((if_neg h24).trans ((if_neg h33).trans (if_neg h45))).symm.trans he22))) (fun h45 => 
           congrArg (mx_rI u) (show (v2 + (1 : Int32)) = RES from ((if_neg h24).trans ((if_neg h33).trans (if_pos h45))).symm.trans he22))))))))
  exact hc 200 [22] _ _ _ _ (
    And.intro (fun h4 => 
     hw [1, 0, 2] 22 _ [] _ (lp22 20 ((mx_gf u 0 6) ||| (7 : Int32)) (mx_gf u 0 6) (hp.1 h4) (((xm_endOfPacket_eq np nd u).trans (if_pos h4)).symm.trans hRES.symm))) (fun h4 => 
     congrArg (mx_rI u) (show (-1) = RES from ((xm_endOfPacket_eq np nd u).trans (if_neg h4)).symm.trans hRES.symm)))
/-! WideMachine.hasIllFormed(I)Z -/
noncomputable def xm_hasIllFormed_l5 (a1 : Int32) (u : mx_S) : Nat → Int32 → (Int32)
  | 0, _ => 0
  | n + 1, v2 =>
    if a1 ≤ v2 then
     0
    else
     if (xw_isIllFormed (mx_ga u 1 (v2).toNatClampNeg) ) = 0 then
      xm_hasIllFormed_l5 a1 u n (v2 + 1)
     else
      1
def q_xm_hasIllFormed_l5 (np nd : Nat) (a1 : Int32) (u : mx_S) : Nat → Int32 → Prop
  | 0, _ => False
  | n + 1, v2 =>
    ((a1 ≤ v2) → 
     True) ∧ ((¬ (a1 ≤ v2)) → 
     (vp_in v2 np) ∧ (
      (((xw_isIllFormed (mx_ga u 1 (v2).toNatClampNeg) ) = 0) → 
       q_xm_hasIllFormed_l5 np nd a1 u n (v2 + 1)) ∧ ((¬ ((xw_isIllFormed (mx_ga u 1 (v2).toNatClampNeg) ) = 0)) → 
       True)))
noncomputable def xm_hasIllFormed_b (a1 : Int32) (u : mx_S) : Int32 :=
  xm_hasIllFormed_l5 a1 u 20 (mx_gf u 0 6)
theorem xm_hasIllFormed_ex : ∃ f : Int32 → mx_S → (Int32), f = xm_hasIllFormed_b := ⟨_, rfl⟩
noncomputable def xm_hasIllFormed : Int32 → mx_S → (Int32) := Classical.choose xm_hasIllFormed_ex
theorem xm_hasIllFormed_eq (a1 : Int32) (u : mx_S) : (xm_hasIllFormed a1 u) = (xm_hasIllFormed_b a1 u) := by rw [show xm_hasIllFormed = xm_hasIllFormed_b from Classical.choose_spec xm_hasIllFormed_ex]
def q_xm_hasIllFormed (np nd : Nat) (a1 : Int32) (u : mx_S) : Prop :=
  q_xm_hasIllFormed_l5 np nd a1 u 20 (mx_gf u 0 6)
def pre_xm_hasIllFormed (np nd : Nat) : List mx_V → mx_S → Prop := fun as u => ∃ (a1 : Int32), as = [.inr (.inr 0), .inl a1] ∧ q_xm_hasIllFormed np nd a1 u
noncomputable def fn_xm_hasIllFormed (np nd : Nat) : mx_F := fun as u => match as with
  | [_, .inl a1] => mx_rI u (xm_hasIllFormed a1 u)
  | _ => (none, u)
noncomputable def tb_xm_hasIllFormed (np nd : Nat) : List (Nat × mx_T) := [
  (0, mx_aload_n 0 0),
  (1, mx_getf (kx np nd) 0 6 1),
  (4, mx_istore_n 2 4),
  (5, mx_iload_n 2 5),
  (6, mx_iload_n 1 6),
  (7, mx_icmp_ge 30 7),
  (10, mx_aload_n 0 10),
  (11, mx_getf (kx np nd) 0 0 11),
  (14, mx_iload_n 2 14),
  (15, mx_iald (kx np nd) 15),
  (16, mx_invS 1 (pre_xw_isIllFormed np nd) (fn_xw_isIllFormed np nd) 16),
  (19, mx_if_eq 24 19),
  (22, mx_iconst 1 22),
  (23, mx_zret 23),
  (24, mx_iinc 2 1 24),
  (27, mx_goto 5 27),
  (30, mx_iconst 0 30),
  (31, mx_zret 31)]
set_option maxRecDepth 100000 in
set_option maxHeartbeats 4000000 in
theorem ok_xm_hasIllFormed (l : Launch) (np nd : Nat) : ∀ q ∈ tb_xm_hasIllFormed np nd , mx_Ok l ({ frames := 2, cells := 0, slots := 0, locals := 42 } : Room) b_xm_hasIllFormed 3 "WideMachine" (some .boolean) vw_T vw_cl (kx np nd) q.1 q.2 := by
  refine List.forall_mem_cons.mpr ⟨mx_ok_aload_n (show decode b_xm_hasIllFormed 0 = .ok (.aload_n 0, 1) by decide +kernel) rfl, ?_⟩
  refine List.forall_mem_cons.mpr ⟨mx_ok_getf fd_xm_48 (show decode b_xm_hasIllFormed 1 = .ok (.getfield 48, 3) by decide +kernel), ?_⟩
  refine List.forall_mem_cons.mpr ⟨mx_ok_istore_n (show decode b_xm_hasIllFormed 4 = .ok (.istore_n 2, 1) by decide +kernel) rfl (by decide), ?_⟩
  refine List.forall_mem_cons.mpr ⟨mx_ok_iload_n (show decode b_xm_hasIllFormed 5 = .ok (.iload_n 2, 1) by decide +kernel) rfl, ?_⟩
  refine List.forall_mem_cons.mpr ⟨mx_ok_iload_n (show decode b_xm_hasIllFormed 6 = .ok (.iload_n 1, 1) by decide +kernel) rfl, ?_⟩
  refine List.forall_mem_cons.mpr ⟨mx_ok_icmp_ge (show decode b_xm_hasIllFormed 7 = .ok (.if_icmp .ge 23, 3) by decide +kernel) (by decide), ?_⟩
  refine List.forall_mem_cons.mpr ⟨mx_ok_aload_n (show decode b_xm_hasIllFormed 10 = .ok (.aload_n 0, 1) by decide +kernel) rfl, ?_⟩
  refine List.forall_mem_cons.mpr ⟨mx_ok_getf fd_xm_13 (show decode b_xm_hasIllFormed 11 = .ok (.getfield 13, 3) by decide +kernel), ?_⟩
  refine List.forall_mem_cons.mpr ⟨mx_ok_iload_n (show decode b_xm_hasIllFormed 14 = .ok (.iload_n 2, 1) by decide +kernel) rfl, ?_⟩
  refine List.forall_mem_cons.mpr ⟨mx_ok_iald (show decode b_xm_hasIllFormed 15 = .ok (.iaload, 1) by decide +kernel), ?_⟩
  refine List.forall_mem_cons.mpr ⟨mx_ok_invS vw_G (ct_xw_isIllFormed l np nd) ⟨vm_126, vm_127, vm_97, ⟨by decide +kernel, by decide +kernel, by decide +kernel⟩, ⟨by decide, by decide⟩, rfl, rfl⟩ vm_128 (show decode b_xm_hasIllFormed 16 = .ok (.invokestatic 151, 3) by decide +kernel), ?_⟩
  refine List.forall_mem_cons.mpr ⟨mx_ok_if_eq (show decode b_xm_hasIllFormed 19 = .ok (.ifCond .eq 5, 3) by decide +kernel) (by decide), ?_⟩
  refine List.forall_mem_cons.mpr ⟨mx_ok_iconst (show decode b_xm_hasIllFormed 22 = .ok (.iconst 1, 1) by decide +kernel) (by decide), ?_⟩
  refine List.forall_mem_cons.mpr ⟨mx_ok_zret (show decode b_xm_hasIllFormed 23 = .ok (.ireturn, 1) by decide +kernel) rfl, ?_⟩
  refine List.forall_mem_cons.mpr ⟨mx_ok_iinc (show decode b_xm_hasIllFormed 24 = .ok (.iinc 2 1, 3) by decide +kernel) (by decide) (by decide), ?_⟩
  refine List.forall_mem_cons.mpr ⟨mx_ok_goto (show decode b_xm_hasIllFormed 27 = .ok (.goto (-22), 3) by decide +kernel) (by decide), ?_⟩
  refine List.forall_mem_cons.mpr ⟨mx_ok_iconst (show decode b_xm_hasIllFormed 30 = .ok (.iconst 0, 1) by decide +kernel) (by decide), ?_⟩
  refine List.forall_mem_cons.mpr ⟨mx_ok_zret (show decode b_xm_hasIllFormed 31 = .ok (.ireturn, 1) by decide +kernel) rfl, ?_⟩
  exact fun _ h => absurd h List.not_mem_nil
set_option maxRecDepth 100000 in
set_option maxHeartbeats 4000000 in
theorem ct_xm_hasIllFormed (l : Launch) (np nd : Nat) : mx_Ct l vw_T vw_cl (kx np nd) { frames := 2, cells := 0, slots := 0, locals := 42 } y_xm_hasIllFormed b_xm_hasIllFormed 3 (some .boolean) (pre_xm_hasIllFormed np nd) (fn_xm_hasIllFormed np nd) := by
  refine mx_ct_of (tb_xm_hasIllFormed np nd ) (by decide) (ok_xm_hasIllFormed l np nd ) (fun as u h => by obtain ⟨_, rfl, -⟩ := h; exact Nat.le_of_ble_eq_true rfl) ?_
  intro as u hpre At hc hw
  obtain ⟨a1, rfl, hp⟩ := hpre
  obtain ⟨RES, hRES⟩ : ∃ z, z = (xm_hasIllFormed a1 u) := ⟨_, rfl⟩
  have hfn : fn_xm_hasIllFormed np nd [.inr (.inr 0), .inl a1] u = mx_rI u RES := by rw [hRES]; rfl
  rw [hfn] at hc
  have lp5 : ∀ (n5 : Nat) (v2 : Int32), q_xm_hasIllFormed_l5 np nd a1 u n5 v2 → xm_hasIllFormed_l5 a1 u n5 v2 = RES → At 5 [(2, .inl v2), (0, .inr (.inr 0)), (1, .inl a1)] [] u := by
    intro n5
    induction n5 with
    | zero =>
      intro v2 hi he
      exact hi.elim
    | succ n5 ih5 =>
      intro v2 hi5 he5
      exact hc 200 [5] _ _ _ _ (
        And.intro (fun h7 => 
         And.intro (Or.inl rfl) (
         congrArg (mx_rI u) (show 0 = RES from (if_pos h7).symm.trans he5))) (fun h7 => 
         And.intro ((hi5.2 h7).1) (
         And.intro rfl (
         And.intro ⟨_, rfl, trivial⟩ (
         And.intro (fun h19 => 
          hw [0, 1, 2] 5 _ [] _ (ih5 (v2 + 1) ((hi5.2 h7).2.1 h19) (((if_neg h7).trans (if_pos h19)).symm.trans he5))) (fun h19 => 
          And.intro (Or.inr rfl) (
          congrArg (mx_rI u) (show 1 = RES from ((if_neg h7).trans (if_neg h19)).symm.trans he5))))))))
  exact hc 200 [5] _ _ _ _ (
    hw [0, 1, 2] 5 _ [] _ (lp5 20 (mx_gf u 0 6) hp ((xm_hasIllFormed_eq a1 u).symm.trans hRES.symm)))
/-! WideMachine.hasUnitTwice(I)Z -/
noncomputable def xm_hasUnitTwice_l7 (a1 : Int32) (u : mx_S) : Nat → Int32 → Int32 → (Int32)
  | 0, _, _ => 0
  | n + 1, v2, v3 =>
    if a1 ≤ v3 then
     0
    else
     if (v2 &&& ((1 : Int32) <<< ((xw_unit (mx_ga u 1 (v3).toNatClampNeg) ) &&& 31))) = 0 then
      xm_hasUnitTwice_l7 a1 u n (v2 ||| ((1 : Int32) <<< ((xw_unit (mx_ga u 1 (v3).toNatClampNeg) ) &&& 31))) (v3 + 1)
     else
      1
def q_xm_hasUnitTwice_l7 (np nd : Nat) (a1 : Int32) (u : mx_S) : Nat → Int32 → Int32 → Prop
  | 0, _, _ => False
  | n + 1, v2, v3 =>
    ((a1 ≤ v3) → 
     True) ∧ ((¬ (a1 ≤ v3)) → 
     (vp_in v3 np) ∧ (
      (((v2 &&& ((1 : Int32) <<< ((xw_unit (mx_ga u 1 (v3).toNatClampNeg) ) &&& 31))) = 0) → 
       q_xm_hasUnitTwice_l7 np nd a1 u n (v2 ||| ((1 : Int32) <<< ((xw_unit (mx_ga u 1 (v3).toNatClampNeg) ) &&& 31))) (v3 + 1)) ∧ ((¬ ((v2 &&& ((1 : Int32) <<< ((xw_unit (mx_ga u 1 (v3).toNatClampNeg) ) &&& 31))) = 0)) → 
       True)))
noncomputable def xm_hasUnitTwice_b (a1 : Int32) (u : mx_S) : Int32 :=
  xm_hasUnitTwice_l7 a1 u 20 0 (mx_gf u 0 6)
theorem xm_hasUnitTwice_ex : ∃ f : Int32 → mx_S → (Int32), f = xm_hasUnitTwice_b := ⟨_, rfl⟩
noncomputable def xm_hasUnitTwice : Int32 → mx_S → (Int32) := Classical.choose xm_hasUnitTwice_ex
theorem xm_hasUnitTwice_eq (a1 : Int32) (u : mx_S) : (xm_hasUnitTwice a1 u) = (xm_hasUnitTwice_b a1 u) := by rw [show xm_hasUnitTwice = xm_hasUnitTwice_b from Classical.choose_spec xm_hasUnitTwice_ex]
def q_xm_hasUnitTwice (np nd : Nat) (a1 : Int32) (u : mx_S) : Prop :=
  q_xm_hasUnitTwice_l7 np nd a1 u 20 0 (mx_gf u 0 6)
def pre_xm_hasUnitTwice (np nd : Nat) : List mx_V → mx_S → Prop := fun as u => ∃ (a1 : Int32), as = [.inr (.inr 0), .inl a1] ∧ q_xm_hasUnitTwice np nd a1 u
noncomputable def fn_xm_hasUnitTwice (np nd : Nat) : mx_F := fun as u => match as with
  | [_, .inl a1] => mx_rI u (xm_hasUnitTwice a1 u)
  | _ => (none, u)
noncomputable def tb_xm_hasUnitTwice (np nd : Nat) : List (Nat × mx_T) := [
  (0, mx_iconst 0 0),
  (1, mx_istore_n 2 1),
  (2, mx_aload_n 0 2),
  (3, mx_getf (kx np nd) 0 6 3),
  (6, mx_istore_n 3 6),
  (7, mx_iload_n 3 7),
  (8, mx_iload_n 1 8),
  (9, mx_icmp_ge 45 9),
  (12, mx_iconst 1 12),
  (13, mx_aload_n 0 13),
  (14, mx_getf (kx np nd) 0 0 14),
  (17, mx_iload_n 3 17),
  (18, mx_iald (kx np nd) 18),
  (19, mx_invS 1 (pre_xw_unit np nd) (fn_xw_unit np nd) 19),
  (22, mx_ishl 22),
  (23, mx_istore 4 23),
  (25, mx_iload_n 2 25),
  (26, mx_iload 4 26),
  (28, mx_iand 28),
  (29, mx_if_eq 34 29),
  (32, mx_iconst 1 32),
  (33, mx_zret 33),
  (34, mx_iload_n 2 34),
  (35, mx_iload 4 35),
  (37, mx_ior 37),
  (38, mx_istore_n 2 38),
  (39, mx_iinc 3 1 39),
  (42, mx_goto 7 42),
  (45, mx_iconst 0 45),
  (46, mx_zret 46)]
set_option maxRecDepth 100000 in
set_option maxHeartbeats 4000000 in
theorem ok_xm_hasUnitTwice (l : Launch) (np nd : Nat) : ∀ q ∈ tb_xm_hasUnitTwice np nd , mx_Ok l ({ frames := 1, cells := 0, slots := 0, locals := 20 } : Room) b_xm_hasUnitTwice 5 "WideMachine" (some .boolean) vw_T vw_cl (kx np nd) q.1 q.2 := by
  refine List.forall_mem_cons.mpr ⟨mx_ok_iconst (show decode b_xm_hasUnitTwice 0 = .ok (.iconst 0, 1) by decide +kernel) (by decide), ?_⟩
  refine List.forall_mem_cons.mpr ⟨mx_ok_istore_n (show decode b_xm_hasUnitTwice 1 = .ok (.istore_n 2, 1) by decide +kernel) rfl (by decide), ?_⟩
  refine List.forall_mem_cons.mpr ⟨mx_ok_aload_n (show decode b_xm_hasUnitTwice 2 = .ok (.aload_n 0, 1) by decide +kernel) rfl, ?_⟩
  refine List.forall_mem_cons.mpr ⟨mx_ok_getf fd_xm_48 (show decode b_xm_hasUnitTwice 3 = .ok (.getfield 48, 3) by decide +kernel), ?_⟩
  refine List.forall_mem_cons.mpr ⟨mx_ok_istore_n (show decode b_xm_hasUnitTwice 6 = .ok (.istore_n 3, 1) by decide +kernel) rfl (by decide), ?_⟩
  refine List.forall_mem_cons.mpr ⟨mx_ok_iload_n (show decode b_xm_hasUnitTwice 7 = .ok (.iload_n 3, 1) by decide +kernel) rfl, ?_⟩
  refine List.forall_mem_cons.mpr ⟨mx_ok_iload_n (show decode b_xm_hasUnitTwice 8 = .ok (.iload_n 1, 1) by decide +kernel) rfl, ?_⟩
  refine List.forall_mem_cons.mpr ⟨mx_ok_icmp_ge (show decode b_xm_hasUnitTwice 9 = .ok (.if_icmp .ge 36, 3) by decide +kernel) (by decide), ?_⟩
  refine List.forall_mem_cons.mpr ⟨mx_ok_iconst (show decode b_xm_hasUnitTwice 12 = .ok (.iconst 1, 1) by decide +kernel) (by decide), ?_⟩
  refine List.forall_mem_cons.mpr ⟨mx_ok_aload_n (show decode b_xm_hasUnitTwice 13 = .ok (.aload_n 0, 1) by decide +kernel) rfl, ?_⟩
  refine List.forall_mem_cons.mpr ⟨mx_ok_getf fd_xm_13 (show decode b_xm_hasUnitTwice 14 = .ok (.getfield 13, 3) by decide +kernel), ?_⟩
  refine List.forall_mem_cons.mpr ⟨mx_ok_iload_n (show decode b_xm_hasUnitTwice 17 = .ok (.iload_n 3, 1) by decide +kernel) rfl, ?_⟩
  refine List.forall_mem_cons.mpr ⟨mx_ok_iald (show decode b_xm_hasUnitTwice 18 = .ok (.iaload, 1) by decide +kernel), ?_⟩
  refine List.forall_mem_cons.mpr ⟨mx_ok_invS vw_G (ct_xw_unit l np nd) ⟨vm_129, vm_130, vm_97, ⟨by decide +kernel, by decide +kernel, by decide +kernel⟩, ⟨by decide, by decide⟩, rfl, rfl⟩ vm_131 (show decode b_xm_hasUnitTwice 19 = .ok (.invokestatic 154, 3) by decide +kernel), ?_⟩
  refine List.forall_mem_cons.mpr ⟨mx_ok_ishl (show decode b_xm_hasUnitTwice 22 = .ok (.ishl, 1) by decide +kernel), ?_⟩
  refine List.forall_mem_cons.mpr ⟨mx_ok_istore (show decode b_xm_hasUnitTwice 23 = .ok (.istore 4, 2) by decide +kernel) (by decide), ?_⟩
  refine List.forall_mem_cons.mpr ⟨mx_ok_iload_n (show decode b_xm_hasUnitTwice 25 = .ok (.iload_n 2, 1) by decide +kernel) rfl, ?_⟩
  refine List.forall_mem_cons.mpr ⟨mx_ok_iload (show decode b_xm_hasUnitTwice 26 = .ok (.iload 4, 2) by decide +kernel), ?_⟩
  refine List.forall_mem_cons.mpr ⟨mx_ok_iand (show decode b_xm_hasUnitTwice 28 = .ok (.iand, 1) by decide +kernel), ?_⟩
  refine List.forall_mem_cons.mpr ⟨mx_ok_if_eq (show decode b_xm_hasUnitTwice 29 = .ok (.ifCond .eq 5, 3) by decide +kernel) (by decide), ?_⟩
  refine List.forall_mem_cons.mpr ⟨mx_ok_iconst (show decode b_xm_hasUnitTwice 32 = .ok (.iconst 1, 1) by decide +kernel) (by decide), ?_⟩
  refine List.forall_mem_cons.mpr ⟨mx_ok_zret (show decode b_xm_hasUnitTwice 33 = .ok (.ireturn, 1) by decide +kernel) rfl, ?_⟩
  refine List.forall_mem_cons.mpr ⟨mx_ok_iload_n (show decode b_xm_hasUnitTwice 34 = .ok (.iload_n 2, 1) by decide +kernel) rfl, ?_⟩
  refine List.forall_mem_cons.mpr ⟨mx_ok_iload (show decode b_xm_hasUnitTwice 35 = .ok (.iload 4, 2) by decide +kernel), ?_⟩
  refine List.forall_mem_cons.mpr ⟨mx_ok_ior (show decode b_xm_hasUnitTwice 37 = .ok (.ior, 1) by decide +kernel), ?_⟩
  refine List.forall_mem_cons.mpr ⟨mx_ok_istore_n (show decode b_xm_hasUnitTwice 38 = .ok (.istore_n 2, 1) by decide +kernel) rfl (by decide), ?_⟩
  refine List.forall_mem_cons.mpr ⟨mx_ok_iinc (show decode b_xm_hasUnitTwice 39 = .ok (.iinc 3 1, 3) by decide +kernel) (by decide) (by decide), ?_⟩
  refine List.forall_mem_cons.mpr ⟨mx_ok_goto (show decode b_xm_hasUnitTwice 42 = .ok (.goto (-35), 3) by decide +kernel) (by decide), ?_⟩
  refine List.forall_mem_cons.mpr ⟨mx_ok_iconst (show decode b_xm_hasUnitTwice 45 = .ok (.iconst 0, 1) by decide +kernel) (by decide), ?_⟩
  refine List.forall_mem_cons.mpr ⟨mx_ok_zret (show decode b_xm_hasUnitTwice 46 = .ok (.ireturn, 1) by decide +kernel) rfl, ?_⟩
  exact fun _ h => absurd h List.not_mem_nil
set_option maxRecDepth 100000 in
set_option maxHeartbeats 4000000 in
theorem ct_xm_hasUnitTwice (l : Launch) (np nd : Nat) : mx_Ct l vw_T vw_cl (kx np nd) { frames := 1, cells := 0, slots := 0, locals := 20 } y_xm_hasUnitTwice b_xm_hasUnitTwice 5 (some .boolean) (pre_xm_hasUnitTwice np nd) (fn_xm_hasUnitTwice np nd) := by
  refine mx_ct_of (tb_xm_hasUnitTwice np nd ) (by decide) (ok_xm_hasUnitTwice l np nd ) (fun as u h => by obtain ⟨_, rfl, -⟩ := h; exact Nat.le_of_ble_eq_true rfl) ?_
  intro as u hpre At hc hw
  obtain ⟨a1, rfl, hp⟩ := hpre
  obtain ⟨RES, hRES⟩ : ∃ z, z = (xm_hasUnitTwice a1 u) := ⟨_, rfl⟩
  have hfn : fn_xm_hasUnitTwice np nd [.inr (.inr 0), .inl a1] u = mx_rI u RES := by rw [hRES]; rfl
  rw [hfn] at hc
  have lp7 : ∀ (n7 : Nat) (v2 : Int32) (v3 : Int32), q_xm_hasUnitTwice_l7 np nd a1 u n7 v2 v3 → xm_hasUnitTwice_l7 a1 u n7 v2 v3 = RES → At 7 [(2, .inl v2), (3, .inl v3), (0, .inr (.inr 0)), (1, .inl a1)] [] u := by
    intro n7
    induction n7 with
    | zero =>
      intro v2 v3 hi he
      exact hi.elim
    | succ n7 ih7 =>
      intro v2 v3 hi7 he7
      exact hc 200 [7] _ _ _ _ (
        And.intro (fun h9 => 
         And.intro (Or.inl rfl) (
         congrArg (mx_rI u) (show 0 = RES from (if_pos h9).symm.trans he7))) (fun h9 => 
         And.intro ((hi7.2 h9).1) (
         And.intro rfl (
         And.intro ⟨_, rfl, trivial⟩ (
         And.intro (fun h29 => 
          hw [1, 0, 3, 4] 7 _ [] _ (ih7 (v2 ||| ((1 : Int32) <<< ((xw_unit (mx_ga u 1 (v3).toNatClampNeg) ) &&& 31))) (v3 + 1) ((hi7.2 h9).2.1 h29) (((if_neg h9).trans (if_pos h29)).symm.trans he7))) (fun h29 => 
          And.intro (Or.inr rfl) (
          congrArg (mx_rI u) (show 1 = RES from ((if_neg h9).trans (if_neg h29)).symm.trans he7))))))))
  exact hc 200 [7] _ _ _ _ (
    hw [1, 0, 2, 3] 7 _ [] _ (lp7 20 0 (mx_gf u 0 6) hp ((xm_hasUnitTwice_eq a1 u).symm.trans hRES.symm)))
/-! WideMachine.hasCrossedTwice(I)Z -/
noncomputable def xm_hasCrossedTwice_l7 (a1 : Int32) (u : mx_S) : Nat → Int32 → Int32 → (Int32)
  | 0, _, _ => 0
  | n + 1, v2, v3 =>
    if a1 ≤ v3 then
     0
    else
     if (xw_crosses (mx_ga u 1 (v3).toNatClampNeg) ) = 0 then
      xm_hasCrossedTwice_l7 a1 u n v2 (v3 + 1)
     else
      if (v2 &&& ((1 : Int32) <<< ((xw_side (mx_ga u 1 (v3).toNatClampNeg) ) &&& 31))) = 0 then
       xm_hasCrossedTwice_l7 a1 u n (v2 ||| ((1 : Int32) <<< ((xw_side (mx_ga u 1 (v3).toNatClampNeg) ) &&& 31))) (v3 + 1)
      else
       1
def q_xm_hasCrossedTwice_l7 (np nd : Nat) (a1 : Int32) (u : mx_S) : Nat → Int32 → Int32 → Prop
  | 0, _, _ => False
  | n + 1, v2, v3 =>
    ((a1 ≤ v3) → 
     True) ∧ ((¬ (a1 ≤ v3)) → 
     (vp_in v3 np) ∧ (
      (((xw_crosses (mx_ga u 1 (v3).toNatClampNeg) ) = 0) → 
       q_xm_hasCrossedTwice_l7 np nd a1 u n v2 (v3 + 1)) ∧ ((¬ ((xw_crosses (mx_ga u 1 (v3).toNatClampNeg) ) = 0)) → 
       (vp_in v3 np) ∧ (
        (((v2 &&& ((1 : Int32) <<< ((xw_side (mx_ga u 1 (v3).toNatClampNeg) ) &&& 31))) = 0) → 
         q_xm_hasCrossedTwice_l7 np nd a1 u n (v2 ||| ((1 : Int32) <<< ((xw_side (mx_ga u 1 (v3).toNatClampNeg) ) &&& 31))) (v3 + 1)) ∧ ((¬ ((v2 &&& ((1 : Int32) <<< ((xw_side (mx_ga u 1 (v3).toNatClampNeg) ) &&& 31))) = 0)) → 
         True)))))
noncomputable def xm_hasCrossedTwice_b (a1 : Int32) (u : mx_S) : Int32 :=
  xm_hasCrossedTwice_l7 a1 u 20 0 (mx_gf u 0 6)
theorem xm_hasCrossedTwice_ex : ∃ f : Int32 → mx_S → (Int32), f = xm_hasCrossedTwice_b := ⟨_, rfl⟩
noncomputable def xm_hasCrossedTwice : Int32 → mx_S → (Int32) := Classical.choose xm_hasCrossedTwice_ex
theorem xm_hasCrossedTwice_eq (a1 : Int32) (u : mx_S) : (xm_hasCrossedTwice a1 u) = (xm_hasCrossedTwice_b a1 u) := by rw [show xm_hasCrossedTwice = xm_hasCrossedTwice_b from Classical.choose_spec xm_hasCrossedTwice_ex]
def q_xm_hasCrossedTwice (np nd : Nat) (a1 : Int32) (u : mx_S) : Prop :=
  q_xm_hasCrossedTwice_l7 np nd a1 u 20 0 (mx_gf u 0 6)
def pre_xm_hasCrossedTwice (np nd : Nat) : List mx_V → mx_S → Prop := fun as u => ∃ (a1 : Int32), as = [.inr (.inr 0), .inl a1] ∧ q_xm_hasCrossedTwice np nd a1 u
noncomputable def fn_xm_hasCrossedTwice (np nd : Nat) : mx_F := fun as u => match as with
  | [_, .inl a1] => mx_rI u (xm_hasCrossedTwice a1 u)
  | _ => (none, u)
noncomputable def tb_xm_hasCrossedTwice (np nd : Nat) : List (Nat × mx_T) := [
  (0, mx_iconst 0 0),
  (1, mx_istore_n 2 1),
  (2, mx_aload_n 0 2),
  (3, mx_getf (kx np nd) 0 6 3),
  (6, mx_istore_n 3 6),
  (7, mx_iload_n 3 7),
  (8, mx_iload_n 1 8),
  (9, mx_icmp_ge 57 9),
  (12, mx_aload_n 0 12),
  (13, mx_getf (kx np nd) 0 0 13),
  (16, mx_iload_n 3 16),
  (17, mx_iald (kx np nd) 17),
  (18, mx_invS 1 (pre_xw_crosses np nd) (fn_xw_crosses np nd) 18),
  (21, mx_if_eq 51 21),
  (24, mx_iconst 1 24),
  (25, mx_aload_n 0 25),
  (26, mx_getf (kx np nd) 0 0 26),
  (29, mx_iload_n 3 29),
  (30, mx_iald (kx np nd) 30),
  (31, mx_invS 1 (pre_xw_side np nd) (fn_xw_side np nd) 31),
  (34, mx_ishl 34),
  (35, mx_istore 4 35),
  (37, mx_iload_n 2 37),
  (38, mx_iload 4 38),
  (40, mx_iand 40),
  (41, mx_if_eq 46 41),
  (44, mx_iconst 1 44),
  (45, mx_zret 45),
  (46, mx_iload_n 2 46),
  (47, mx_iload 4 47),
  (49, mx_ior 49),
  (50, mx_istore_n 2 50),
  (51, mx_iinc 3 1 51),
  (54, mx_goto 7 54),
  (57, mx_iconst 0 57),
  (58, mx_zret 58)]
set_option maxRecDepth 100000 in
set_option maxHeartbeats 4000000 in
theorem ok_xm_hasCrossedTwice (l : Launch) (np nd : Nat) : ∀ q ∈ tb_xm_hasCrossedTwice np nd , mx_Ok l ({ frames := 3, cells := 0, slots := 0, locals := 60 } : Room) b_xm_hasCrossedTwice 5 "WideMachine" (some .boolean) vw_T vw_cl (kx np nd) q.1 q.2 := by
  refine List.forall_mem_cons.mpr ⟨mx_ok_iconst (show decode b_xm_hasCrossedTwice 0 = .ok (.iconst 0, 1) by decide +kernel) (by decide), ?_⟩
  refine List.forall_mem_cons.mpr ⟨mx_ok_istore_n (show decode b_xm_hasCrossedTwice 1 = .ok (.istore_n 2, 1) by decide +kernel) rfl (by decide), ?_⟩
  refine List.forall_mem_cons.mpr ⟨mx_ok_aload_n (show decode b_xm_hasCrossedTwice 2 = .ok (.aload_n 0, 1) by decide +kernel) rfl, ?_⟩
  refine List.forall_mem_cons.mpr ⟨mx_ok_getf fd_xm_48 (show decode b_xm_hasCrossedTwice 3 = .ok (.getfield 48, 3) by decide +kernel), ?_⟩
  refine List.forall_mem_cons.mpr ⟨mx_ok_istore_n (show decode b_xm_hasCrossedTwice 6 = .ok (.istore_n 3, 1) by decide +kernel) rfl (by decide), ?_⟩
  refine List.forall_mem_cons.mpr ⟨mx_ok_iload_n (show decode b_xm_hasCrossedTwice 7 = .ok (.iload_n 3, 1) by decide +kernel) rfl, ?_⟩
  refine List.forall_mem_cons.mpr ⟨mx_ok_iload_n (show decode b_xm_hasCrossedTwice 8 = .ok (.iload_n 1, 1) by decide +kernel) rfl, ?_⟩
  refine List.forall_mem_cons.mpr ⟨mx_ok_icmp_ge (show decode b_xm_hasCrossedTwice 9 = .ok (.if_icmp .ge 48, 3) by decide +kernel) (by decide), ?_⟩
  refine List.forall_mem_cons.mpr ⟨mx_ok_aload_n (show decode b_xm_hasCrossedTwice 12 = .ok (.aload_n 0, 1) by decide +kernel) rfl, ?_⟩
  refine List.forall_mem_cons.mpr ⟨mx_ok_getf fd_xm_13 (show decode b_xm_hasCrossedTwice 13 = .ok (.getfield 13, 3) by decide +kernel), ?_⟩
  refine List.forall_mem_cons.mpr ⟨mx_ok_iload_n (show decode b_xm_hasCrossedTwice 16 = .ok (.iload_n 3, 1) by decide +kernel) rfl, ?_⟩
  refine List.forall_mem_cons.mpr ⟨mx_ok_iald (show decode b_xm_hasCrossedTwice 17 = .ok (.iaload, 1) by decide +kernel), ?_⟩
  refine List.forall_mem_cons.mpr ⟨mx_ok_invS vw_G (ct_xw_crosses l np nd) ⟨vm_141, vm_142, vm_97, ⟨by decide +kernel, by decide +kernel, by decide +kernel⟩, ⟨by decide, by decide⟩, rfl, rfl⟩ vm_143 (show decode b_xm_hasCrossedTwice 18 = .ok (.invokestatic 157, 3) by decide +kernel), ?_⟩
  refine List.forall_mem_cons.mpr ⟨mx_ok_if_eq (show decode b_xm_hasCrossedTwice 21 = .ok (.ifCond .eq 30, 3) by decide +kernel) (by decide), ?_⟩
  refine List.forall_mem_cons.mpr ⟨mx_ok_iconst (show decode b_xm_hasCrossedTwice 24 = .ok (.iconst 1, 1) by decide +kernel) (by decide), ?_⟩
  refine List.forall_mem_cons.mpr ⟨mx_ok_aload_n (show decode b_xm_hasCrossedTwice 25 = .ok (.aload_n 0, 1) by decide +kernel) rfl, ?_⟩
  refine List.forall_mem_cons.mpr ⟨mx_ok_getf fd_xm_13 (show decode b_xm_hasCrossedTwice 26 = .ok (.getfield 13, 3) by decide +kernel), ?_⟩
  refine List.forall_mem_cons.mpr ⟨mx_ok_iload_n (show decode b_xm_hasCrossedTwice 29 = .ok (.iload_n 3, 1) by decide +kernel) rfl, ?_⟩
  refine List.forall_mem_cons.mpr ⟨mx_ok_iald (show decode b_xm_hasCrossedTwice 30 = .ok (.iaload, 1) by decide +kernel), ?_⟩
  refine List.forall_mem_cons.mpr ⟨mx_ok_invS vw_G (ct_xw_side l np nd) ⟨vm_144, vm_118, vm_97, ⟨by decide +kernel, by decide +kernel, by decide +kernel⟩, ⟨by decide, by decide⟩, rfl, rfl⟩ vm_119 (show decode b_xm_hasCrossedTwice 31 = .ok (.invokestatic 160, 3) by decide +kernel), ?_⟩
  refine List.forall_mem_cons.mpr ⟨mx_ok_ishl (show decode b_xm_hasCrossedTwice 34 = .ok (.ishl, 1) by decide +kernel), ?_⟩
  refine List.forall_mem_cons.mpr ⟨mx_ok_istore (show decode b_xm_hasCrossedTwice 35 = .ok (.istore 4, 2) by decide +kernel) (by decide), ?_⟩
  refine List.forall_mem_cons.mpr ⟨mx_ok_iload_n (show decode b_xm_hasCrossedTwice 37 = .ok (.iload_n 2, 1) by decide +kernel) rfl, ?_⟩
  refine List.forall_mem_cons.mpr ⟨mx_ok_iload (show decode b_xm_hasCrossedTwice 38 = .ok (.iload 4, 2) by decide +kernel), ?_⟩
  refine List.forall_mem_cons.mpr ⟨mx_ok_iand (show decode b_xm_hasCrossedTwice 40 = .ok (.iand, 1) by decide +kernel), ?_⟩
  refine List.forall_mem_cons.mpr ⟨mx_ok_if_eq (show decode b_xm_hasCrossedTwice 41 = .ok (.ifCond .eq 5, 3) by decide +kernel) (by decide), ?_⟩
  refine List.forall_mem_cons.mpr ⟨mx_ok_iconst (show decode b_xm_hasCrossedTwice 44 = .ok (.iconst 1, 1) by decide +kernel) (by decide), ?_⟩
  refine List.forall_mem_cons.mpr ⟨mx_ok_zret (show decode b_xm_hasCrossedTwice 45 = .ok (.ireturn, 1) by decide +kernel) rfl, ?_⟩
  refine List.forall_mem_cons.mpr ⟨mx_ok_iload_n (show decode b_xm_hasCrossedTwice 46 = .ok (.iload_n 2, 1) by decide +kernel) rfl, ?_⟩
  refine List.forall_mem_cons.mpr ⟨mx_ok_iload (show decode b_xm_hasCrossedTwice 47 = .ok (.iload 4, 2) by decide +kernel), ?_⟩
  refine List.forall_mem_cons.mpr ⟨mx_ok_ior (show decode b_xm_hasCrossedTwice 49 = .ok (.ior, 1) by decide +kernel), ?_⟩
  refine List.forall_mem_cons.mpr ⟨mx_ok_istore_n (show decode b_xm_hasCrossedTwice 50 = .ok (.istore_n 2, 1) by decide +kernel) rfl (by decide), ?_⟩
  refine List.forall_mem_cons.mpr ⟨mx_ok_iinc (show decode b_xm_hasCrossedTwice 51 = .ok (.iinc 3 1, 3) by decide +kernel) (by decide) (by decide), ?_⟩
  refine List.forall_mem_cons.mpr ⟨mx_ok_goto (show decode b_xm_hasCrossedTwice 54 = .ok (.goto (-47), 3) by decide +kernel) (by decide), ?_⟩
  refine List.forall_mem_cons.mpr ⟨mx_ok_iconst (show decode b_xm_hasCrossedTwice 57 = .ok (.iconst 0, 1) by decide +kernel) (by decide), ?_⟩
  refine List.forall_mem_cons.mpr ⟨mx_ok_zret (show decode b_xm_hasCrossedTwice 58 = .ok (.ireturn, 1) by decide +kernel) rfl, ?_⟩
  exact fun _ h => absurd h List.not_mem_nil
set_option maxRecDepth 100000 in
set_option maxHeartbeats 4000000 in
theorem ct_xm_hasCrossedTwice (l : Launch) (np nd : Nat) : mx_Ct l vw_T vw_cl (kx np nd) { frames := 3, cells := 0, slots := 0, locals := 60 } y_xm_hasCrossedTwice b_xm_hasCrossedTwice 5 (some .boolean) (pre_xm_hasCrossedTwice np nd) (fn_xm_hasCrossedTwice np nd) := by
  refine mx_ct_of (tb_xm_hasCrossedTwice np nd ) (by decide) (ok_xm_hasCrossedTwice l np nd ) (fun as u h => by obtain ⟨_, rfl, -⟩ := h; exact Nat.le_of_ble_eq_true rfl) ?_
  intro as u hpre At hc hw
  obtain ⟨a1, rfl, hp⟩ := hpre
  obtain ⟨RES, hRES⟩ : ∃ z, z = (xm_hasCrossedTwice a1 u) := ⟨_, rfl⟩
  have hfn : fn_xm_hasCrossedTwice np nd [.inr (.inr 0), .inl a1] u = mx_rI u RES := by rw [hRES]; rfl
  rw [hfn] at hc
  have lp7 : ∀ (n7 : Nat) (v2 : Int32) (v3 : Int32), q_xm_hasCrossedTwice_l7 np nd a1 u n7 v2 v3 → xm_hasCrossedTwice_l7 a1 u n7 v2 v3 = RES → At 7 [(2, .inl v2), (3, .inl v3), (0, .inr (.inr 0)), (1, .inl a1)] [] u := by
    intro n7
    induction n7 with
    | zero =>
      intro v2 v3 hi he
      exact hi.elim
    | succ n7 ih7 =>
      intro v2 v3 hi7 he7
      exact hc 200 [7] _ _ _ _ (
        And.intro (fun h9 => 
         And.intro (Or.inl rfl) (
         congrArg (mx_rI u) (show 0 = RES from (if_pos h9).symm.trans he7))) (fun h9 => 
         And.intro ((hi7.2 h9).1) (
         And.intro rfl (
         And.intro ⟨_, rfl, trivial⟩ (
         And.intro (fun h21 => 
          hw [1, 0, 2, 3] 7 _ [] _ (ih7 v2 (v3 + 1) ((hi7.2 h9).2.1 h21) (((if_neg h9).trans (if_pos h21)).symm.trans he7))) (fun h21 => 
          And.intro (((hi7.2 h9).2.2 h21).1) (
          And.intro rfl (
          And.intro ⟨_, rfl, trivial⟩ (
          And.intro (fun h41 => 
           hw [1, 0, 3, 4] 7 _ [] _ (ih7 (v2 ||| ((1 : Int32) <<< ((xw_side (mx_ga u 1 (v3).toNatClampNeg) ) &&& 31))) (v3 + 1) (((hi7.2 h9).2.2 h21).2.1 h41) (((if_neg h9).trans ((if_neg h21).trans (if_pos h41))).symm.trans he7))) (fun h41 => 
           And.intro (Or.inr rfl) (
           congrArg (mx_rI u) (show 1 = RES from ((if_neg h9).trans ((if_neg h21).trans (if_neg h41))).symm.trans he7))))))))))))
  exact hc 200 [7] _ _ _ _ (
    hw [1, 0, 2, 3] 7 _ [] _ (lp7 20 0 (mx_gf u 0 6) hp ((xm_hasCrossedTwice_eq a1 u).symm.trans hRES.symm)))
/-! WideMachine.isConditionTrue(I)Z -/
noncomputable def xm_isConditionTrue_b (a1 : Int32) (u : mx_S) : Int32 :=
  if (xw_conditionRegister a1 ) = (-1) then
   1
  else
   if (mx_ga u 3 ((xw_conditionRegister a1 )).toNatClampNeg) = 0 then
    if 1 = (xw_isOnZero a1 ) then
     1
    else
     0
   else
    if 0 = (xw_isOnZero a1 ) then
     1
    else
     0
theorem xm_isConditionTrue_ex : ∃ f : Int32 → mx_S → (Int32), f = xm_isConditionTrue_b := ⟨_, rfl⟩
noncomputable def xm_isConditionTrue : Int32 → mx_S → (Int32) := Classical.choose xm_isConditionTrue_ex
theorem xm_isConditionTrue_eq (a1 : Int32) (u : mx_S) : (xm_isConditionTrue a1 u) = (xm_isConditionTrue_b a1 u) := by rw [show xm_isConditionTrue = xm_isConditionTrue_b from Classical.choose_spec xm_isConditionTrue_ex]
def q_xm_isConditionTrue (np nd : Nat) (a1 : Int32) (u : mx_S) : Prop :=
  ((¬ ((xw_conditionRegister a1 ) = (-1))) → 
   (vp_in (xw_conditionRegister a1 ) 32)) ∧ (((xw_conditionRegister a1 ) = (-1)) → 
   True)
def pre_xm_isConditionTrue (np nd : Nat) : List mx_V → mx_S → Prop := fun as u => ∃ (a1 : Int32), as = [.inr (.inr 0), .inl a1] ∧ q_xm_isConditionTrue np nd a1 u
noncomputable def fn_xm_isConditionTrue (np nd : Nat) : mx_F := fun as u => match as with
  | [_, .inl a1] => mx_rI u (xm_isConditionTrue a1 u)
  | _ => (none, u)
noncomputable def tb_xm_isConditionTrue (np nd : Nat) : List (Nat × mx_T) := [
  (0, mx_iload_n 1 0),
  (1, mx_invS 1 (pre_xw_conditionRegister np nd) (fn_xw_conditionRegister np nd) 1),
  (4, mx_istore_n 2 4),
  (5, mx_iload_n 2 5),
  (6, mx_iconst (-1) 6),
  (7, mx_icmp_ne 12 7),
  (10, mx_iconst 1 10),
  (11, mx_zret 11),
  (12, mx_aload_n 0 12),
  (13, mx_getf (kx np nd) 0 2 13),
  (16, mx_iload_n 2 16),
  (17, mx_iald (kx np nd) 17),
  (18, mx_if_ne 25 18),
  (21, mx_iconst 1 21),
  (22, mx_goto 26 22),
  (25, mx_iconst 0 25),
  (26, mx_iload_n 1 26),
  (27, mx_invS 1 (pre_xw_isOnZero np nd) (fn_xw_isOnZero np nd) 27),
  (30, mx_icmp_ne 37 30),
  (33, mx_iconst 1 33),
  (34, mx_goto 38 34),
  (37, mx_iconst 0 37),
  (38, mx_zret 38)]
set_option maxRecDepth 100000 in
set_option maxHeartbeats 4000000 in
theorem ok_xm_isConditionTrue (l : Launch) (np nd : Nat) : ∀ q ∈ tb_xm_isConditionTrue np nd , mx_Ok l ({ frames := 1, cells := 0, slots := 0, locals := 20 } : Room) b_xm_isConditionTrue 3 "WideMachine" (some .boolean) vw_T vw_cl (kx np nd) q.1 q.2 := by
  refine List.forall_mem_cons.mpr ⟨mx_ok_iload_n (show decode b_xm_isConditionTrue 0 = .ok (.iload_n 1, 1) by decide +kernel) rfl, ?_⟩
  refine List.forall_mem_cons.mpr ⟨mx_ok_invS vw_G (ct_xw_conditionRegister l np nd) ⟨vm_145, vm_146, vm_97, ⟨by decide +kernel, by decide +kernel, by decide +kernel⟩, ⟨by decide, by decide⟩, rfl, rfl⟩ vm_147 (show decode b_xm_isConditionTrue 1 = .ok (.invokestatic 172, 3) by decide +kernel), ?_⟩
  refine List.forall_mem_cons.mpr ⟨mx_ok_istore_n (show decode b_xm_isConditionTrue 4 = .ok (.istore_n 2, 1) by decide +kernel) rfl (by decide), ?_⟩
  refine List.forall_mem_cons.mpr ⟨mx_ok_iload_n (show decode b_xm_isConditionTrue 5 = .ok (.iload_n 2, 1) by decide +kernel) rfl, ?_⟩
  refine List.forall_mem_cons.mpr ⟨mx_ok_iconst (show decode b_xm_isConditionTrue 6 = .ok (.iconst (-1), 1) by decide +kernel) (by decide), ?_⟩
  refine List.forall_mem_cons.mpr ⟨mx_ok_icmp_ne (show decode b_xm_isConditionTrue 7 = .ok (.if_icmp .ne 5, 3) by decide +kernel) (by decide), ?_⟩
  refine List.forall_mem_cons.mpr ⟨mx_ok_iconst (show decode b_xm_isConditionTrue 10 = .ok (.iconst 1, 1) by decide +kernel) (by decide), ?_⟩
  refine List.forall_mem_cons.mpr ⟨mx_ok_zret (show decode b_xm_isConditionTrue 11 = .ok (.ireturn, 1) by decide +kernel) rfl, ?_⟩
  refine List.forall_mem_cons.mpr ⟨mx_ok_aload_n (show decode b_xm_isConditionTrue 12 = .ok (.aload_n 0, 1) by decide +kernel) rfl, ?_⟩
  refine List.forall_mem_cons.mpr ⟨mx_ok_getf fd_xm_20 (show decode b_xm_isConditionTrue 13 = .ok (.getfield 20, 3) by decide +kernel), ?_⟩
  refine List.forall_mem_cons.mpr ⟨mx_ok_iload_n (show decode b_xm_isConditionTrue 16 = .ok (.iload_n 2, 1) by decide +kernel) rfl, ?_⟩
  refine List.forall_mem_cons.mpr ⟨mx_ok_iald (show decode b_xm_isConditionTrue 17 = .ok (.iaload, 1) by decide +kernel), ?_⟩
  refine List.forall_mem_cons.mpr ⟨mx_ok_if_ne (show decode b_xm_isConditionTrue 18 = .ok (.ifCond .ne 7, 3) by decide +kernel) (by decide), ?_⟩
  refine List.forall_mem_cons.mpr ⟨mx_ok_iconst (show decode b_xm_isConditionTrue 21 = .ok (.iconst 1, 1) by decide +kernel) (by decide), ?_⟩
  refine List.forall_mem_cons.mpr ⟨mx_ok_goto (show decode b_xm_isConditionTrue 22 = .ok (.goto 4, 3) by decide +kernel) (by decide), ?_⟩
  refine List.forall_mem_cons.mpr ⟨mx_ok_iconst (show decode b_xm_isConditionTrue 25 = .ok (.iconst 0, 1) by decide +kernel) (by decide), ?_⟩
  refine List.forall_mem_cons.mpr ⟨mx_ok_iload_n (show decode b_xm_isConditionTrue 26 = .ok (.iload_n 1, 1) by decide +kernel) rfl, ?_⟩
  refine List.forall_mem_cons.mpr ⟨mx_ok_invS vw_G (ct_xw_isOnZero l np nd) ⟨vm_148, vm_103, vm_97, ⟨by decide +kernel, by decide +kernel, by decide +kernel⟩, ⟨by decide, by decide⟩, rfl, rfl⟩ vm_104 (show decode b_xm_isConditionTrue 27 = .ok (.invokestatic 175, 3) by decide +kernel), ?_⟩
  refine List.forall_mem_cons.mpr ⟨mx_ok_icmp_ne (show decode b_xm_isConditionTrue 30 = .ok (.if_icmp .ne 7, 3) by decide +kernel) (by decide), ?_⟩
  refine List.forall_mem_cons.mpr ⟨mx_ok_iconst (show decode b_xm_isConditionTrue 33 = .ok (.iconst 1, 1) by decide +kernel) (by decide), ?_⟩
  refine List.forall_mem_cons.mpr ⟨mx_ok_goto (show decode b_xm_isConditionTrue 34 = .ok (.goto 4, 3) by decide +kernel) (by decide), ?_⟩
  refine List.forall_mem_cons.mpr ⟨mx_ok_iconst (show decode b_xm_isConditionTrue 37 = .ok (.iconst 0, 1) by decide +kernel) (by decide), ?_⟩
  refine List.forall_mem_cons.mpr ⟨mx_ok_zret (show decode b_xm_isConditionTrue 38 = .ok (.ireturn, 1) by decide +kernel) rfl, ?_⟩
  exact fun _ h => absurd h List.not_mem_nil
set_option maxRecDepth 100000 in
set_option maxHeartbeats 4000000 in
theorem ct_xm_isConditionTrue (l : Launch) (np nd : Nat) : mx_Ct l vw_T vw_cl (kx np nd) { frames := 1, cells := 0, slots := 0, locals := 20 } y_xm_isConditionTrue b_xm_isConditionTrue 3 (some .boolean) (pre_xm_isConditionTrue np nd) (fn_xm_isConditionTrue np nd) := by
  refine mx_ct_of (tb_xm_isConditionTrue np nd ) (by decide) (ok_xm_isConditionTrue l np nd ) (fun as u h => by obtain ⟨_, rfl, -⟩ := h; exact Nat.le_of_ble_eq_true rfl) ?_
  intro as u hpre At hc hw
  obtain ⟨a1, rfl, hp⟩ := hpre
  exact hc 200 [] _ _ _ _ (
    And.intro rfl (
    And.intro ⟨_, rfl, trivial⟩ (
    And.intro (fun h7 => 
     And.intro ((hp.1 h7)) (
     And.intro (fun h18 => 
      And.intro rfl (
      And.intro ⟨_, rfl, trivial⟩ (
      And.intro (fun h30 => 
       And.intro (Or.inl rfl) (
       congrArg (mx_rI u) (show 0 = (xm_isConditionTrue a1 u) from ((xm_isConditionTrue_eq a1 u).trans ((if_neg h7).trans ((if_neg h18).trans (if_neg h30)))).symm))) (fun h30 => 
       And.intro (Or.inr rfl) (
       congrArg (mx_rI u) (show 1 = (xm_isConditionTrue a1 u) from ((xm_isConditionTrue_eq a1 u).trans ((if_neg h7).trans ((if_neg h18).trans (if_pos h30)))).symm)))))) (fun h18 => 
      And.intro rfl (
      And.intro ⟨_, rfl, trivial⟩ (
      And.intro (fun h30 => 
       And.intro (Or.inl rfl) (
       congrArg (mx_rI u) (show 0 = (xm_isConditionTrue a1 u) from ((xm_isConditionTrue_eq a1 u).trans ((if_neg h7).trans ((if_pos h18).trans (if_neg h30)))).symm))) (fun h30 => 
       And.intro (Or.inr rfl) (
       congrArg (mx_rI u) (show 1 = (xm_isConditionTrue a1 u) from ((xm_isConditionTrue_eq a1 u).trans ((if_neg h7).trans ((if_pos h18).trans (if_pos h30)))).symm)))))))) (fun h7 => 
     And.intro (Or.inr rfl) (
     congrArg (mx_rI u) (show 1 = (xm_isConditionTrue a1 u) from ((xm_isConditionTrue_eq a1 u).trans (if_pos h7)).symm))))))
/-! WideMachine.operandB(I)I -/
noncomputable def xm_operandB_b (a1 : Int32) (u : mx_S) : Int32 :=
  if (xw_isNumberB a1 ) = 0 then
   (mx_ga u 3 ((xw_b a1 )).toNatClampNeg)
  else
   (xw_numberB a1 )
theorem xm_operandB_ex : ∃ f : Int32 → mx_S → (Int32), f = xm_operandB_b := ⟨_, rfl⟩
noncomputable def xm_operandB : Int32 → mx_S → (Int32) := Classical.choose xm_operandB_ex
theorem xm_operandB_eq (a1 : Int32) (u : mx_S) : (xm_operandB a1 u) = (xm_operandB_b a1 u) := by rw [show xm_operandB = xm_operandB_b from Classical.choose_spec xm_operandB_ex]
def pre_xm_operandB (np nd : Nat) : List mx_V → mx_S → Prop := fun as u => ∃ (a1 : Int32), as = [.inr (.inr 0), .inl a1] ∧ True
noncomputable def fn_xm_operandB (np nd : Nat) : mx_F := fun as u => match as with
  | [_, .inl a1] => mx_rI u (xm_operandB a1 u)
  | _ => (none, u)
noncomputable def tb_xm_operandB (np nd : Nat) : List (Nat × mx_T) := [
  (0, mx_iload_n 1 0),
  (1, mx_invS 1 (pre_xw_isNumberB np nd) (fn_xw_isNumberB np nd) 1),
  (4, mx_if_eq 14 4),
  (7, mx_iload_n 1 7),
  (8, mx_invS 1 (pre_xw_numberB np nd) (fn_xw_numberB np nd) 8),
  (11, mx_goto 23 11),
  (14, mx_aload_n 0 14),
  (15, mx_getf (kx np nd) 0 2 15),
  (18, mx_iload_n 1 18),
  (19, mx_invS 1 (pre_xw_b np nd) (fn_xw_b np nd) 19),
  (22, mx_iald (kx np nd) 22),
  (23, mx_iret 23)]
set_option maxRecDepth 100000 in
set_option maxHeartbeats 4000000 in
theorem ok_xm_operandB (l : Launch) (np nd : Nat) : ∀ q ∈ tb_xm_operandB np nd , mx_Ok l ({ frames := 1, cells := 0, slots := 0, locals := 20 } : Room) b_xm_operandB 2 "WideMachine" (some .int) vw_T vw_cl (kx np nd) q.1 q.2 := by
  refine List.forall_mem_cons.mpr ⟨mx_ok_iload_n (show decode b_xm_operandB 0 = .ok (.iload_n 1, 1) by decide +kernel) rfl, ?_⟩
  refine List.forall_mem_cons.mpr ⟨mx_ok_invS vw_G (ct_xw_isNumberB l np nd) ⟨vm_149, vm_136, vm_97, ⟨by decide +kernel, by decide +kernel, by decide +kernel⟩, ⟨by decide, by decide⟩, rfl, rfl⟩ vm_137 (show decode b_xm_operandB 1 = .ok (.invokestatic 184, 3) by decide +kernel), ?_⟩
  refine List.forall_mem_cons.mpr ⟨mx_ok_if_eq (show decode b_xm_operandB 4 = .ok (.ifCond .eq 10, 3) by decide +kernel) (by decide), ?_⟩
  refine List.forall_mem_cons.mpr ⟨mx_ok_iload_n (show decode b_xm_operandB 7 = .ok (.iload_n 1, 1) by decide +kernel) rfl, ?_⟩
  refine List.forall_mem_cons.mpr ⟨mx_ok_invS vw_G (ct_xw_numberB l np nd) ⟨vm_150, vm_151, vm_97, ⟨by decide +kernel, by decide +kernel, by decide +kernel⟩, ⟨by decide, by decide⟩, rfl, rfl⟩ vm_152 (show decode b_xm_operandB 8 = .ok (.invokestatic 187, 3) by decide +kernel), ?_⟩
  refine List.forall_mem_cons.mpr ⟨mx_ok_goto (show decode b_xm_operandB 11 = .ok (.goto 12, 3) by decide +kernel) (by decide), ?_⟩
  refine List.forall_mem_cons.mpr ⟨mx_ok_aload_n (show decode b_xm_operandB 14 = .ok (.aload_n 0, 1) by decide +kernel) rfl, ?_⟩
  refine List.forall_mem_cons.mpr ⟨mx_ok_getf fd_xm_20 (show decode b_xm_operandB 15 = .ok (.getfield 20, 3) by decide +kernel), ?_⟩
  refine List.forall_mem_cons.mpr ⟨mx_ok_iload_n (show decode b_xm_operandB 18 = .ok (.iload_n 1, 1) by decide +kernel) rfl, ?_⟩
  refine List.forall_mem_cons.mpr ⟨mx_ok_invS vw_G (ct_xw_b l np nd) ⟨vm_153, vm_139, vm_97, ⟨by decide +kernel, by decide +kernel, by decide +kernel⟩, ⟨by decide, by decide⟩, rfl, rfl⟩ vm_140 (show decode b_xm_operandB 19 = .ok (.invokestatic 190, 3) by decide +kernel), ?_⟩
  refine List.forall_mem_cons.mpr ⟨mx_ok_iald (show decode b_xm_operandB 22 = .ok (.iaload, 1) by decide +kernel), ?_⟩
  refine List.forall_mem_cons.mpr ⟨mx_ok_iret (show decode b_xm_operandB 23 = .ok (.ireturn, 1) by decide +kernel) rfl, ?_⟩
  exact fun _ h => absurd h List.not_mem_nil
set_option maxRecDepth 100000 in
set_option maxHeartbeats 4000000 in
theorem ct_xm_operandB (l : Launch) (np nd : Nat) : mx_Ct l vw_T vw_cl (kx np nd) { frames := 1, cells := 0, slots := 0, locals := 20 } y_xm_operandB b_xm_operandB 2 (some .int) (pre_xm_operandB np nd) (fn_xm_operandB np nd) := by
  refine mx_ct_of (tb_xm_operandB np nd ) (by decide) (ok_xm_operandB l np nd ) (fun as u h => by obtain ⟨_, rfl, -⟩ := h; exact Nat.le_of_ble_eq_true rfl) ?_
  intro as u hpre At hc hw
  obtain ⟨a1, rfl, hp⟩ := hpre
  exact hc 200 [] _ _ _ _ (
    And.intro rfl (
    And.intro ⟨_, rfl, trivial⟩ (
    And.intro (fun h4 => 
     And.intro rfl (
     And.intro ⟨_, rfl, trivial⟩ (
     And.intro (xw_b_in _) (
     congrArg (mx_rI u) (show (mx_ga u 3 ((xw_b a1 )).toNatClampNeg) = (xm_operandB a1 u) from ((xm_operandB_eq a1 u).trans (if_pos h4)).symm))))) (fun h4 => 
     And.intro rfl (
     And.intro ⟨_, rfl, trivial⟩ (
     congrArg (mx_rI u) (show (xw_numberB a1 ) = (xm_operandB a1 u) from ((xm_operandB_eq a1 u).trans (if_neg h4)).symm)))))))
/-! WideMachine.dataAddress(I)I -/
noncomputable def xm_dataAddress (a1 : Int32) (u : mx_S) : Int32 :=
  ((mx_ga u 3 ((xw_a a1 )).toNatClampNeg) + (xm_operandB a1 u))
def pre_xm_dataAddress (np nd : Nat) : List mx_V → mx_S → Prop := fun as u => ∃ (a1 : Int32), as = [.inr (.inr 0), .inl a1] ∧ True
noncomputable def fn_xm_dataAddress (np nd : Nat) : mx_F := fun as u => match as with
  | [_, .inl a1] => mx_rI u (xm_dataAddress a1 u)
  | _ => (none, u)
noncomputable def tb_xm_dataAddress (np nd : Nat) : List (Nat × mx_T) := [
  (0, mx_aload_n 0 0),
  (1, mx_getf (kx np nd) 0 2 1),
  (4, mx_iload_n 1 4),
  (5, mx_invS 1 (pre_xw_a np nd) (fn_xw_a np nd) 5),
  (8, mx_iald (kx np nd) 8),
  (9, mx_aload_n 0 9),
  (10, mx_iload_n 1 10),
  (11, mx_invV (kx np nd) 0 1 (pre_xm_operandB np nd) (fn_xm_operandB np nd) 11),
  (14, mx_iadd 14),
  (15, mx_iret 15)]
set_option maxRecDepth 100000 in
set_option maxHeartbeats 4000000 in
theorem ok_xm_dataAddress (l : Launch) (np nd : Nat) : ∀ q ∈ tb_xm_dataAddress np nd , mx_Ok l ({ frames := 2, cells := 0, slots := 0, locals := 41 } : Room) b_xm_dataAddress 2 "WideMachine" (some .int) vw_T vw_cl (kx np nd) q.1 q.2 := by
  refine List.forall_mem_cons.mpr ⟨mx_ok_aload_n (show decode b_xm_dataAddress 0 = .ok (.aload_n 0, 1) by decide +kernel) rfl, ?_⟩
  refine List.forall_mem_cons.mpr ⟨mx_ok_getf fd_xm_20 (show decode b_xm_dataAddress 1 = .ok (.getfield 20, 3) by decide +kernel), ?_⟩
  refine List.forall_mem_cons.mpr ⟨mx_ok_iload_n (show decode b_xm_dataAddress 4 = .ok (.iload_n 1, 1) by decide +kernel) rfl, ?_⟩
  refine List.forall_mem_cons.mpr ⟨mx_ok_invS vw_G (ct_xw_a l np nd) ⟨vm_154, vm_124, vm_97, ⟨by decide +kernel, by decide +kernel, by decide +kernel⟩, ⟨by decide, by decide⟩, rfl, rfl⟩ vm_125 (show decode b_xm_dataAddress 5 = .ok (.invokestatic 178, 3) by decide +kernel), ?_⟩
  refine List.forall_mem_cons.mpr ⟨mx_ok_iald (show decode b_xm_dataAddress 8 = .ok (.iaload, 1) by decide +kernel), ?_⟩
  refine List.forall_mem_cons.mpr ⟨mx_ok_aload_n (show decode b_xm_dataAddress 9 = .ok (.aload_n 0, 1) by decide +kernel) rfl, ?_⟩
  refine List.forall_mem_cons.mpr ⟨mx_ok_iload_n (show decode b_xm_dataAddress 10 = .ok (.iload_n 1, 1) by decide +kernel) rfl, ?_⟩
  refine List.forall_mem_cons.mpr ⟨mx_ok_invV vw_G (ct_xm_operandB l np nd) ⟨vm_155, vm_156, vm_46, ⟨by decide +kernel, by decide +kernel, by decide +kernel⟩, ⟨by decide, by decide⟩, rfl, rfl⟩ vm_157 vm_158 rfl (show decode b_xm_dataAddress 11 = .ok (.invokevirtual 181, 3) by decide +kernel), ?_⟩
  refine List.forall_mem_cons.mpr ⟨mx_ok_iadd (show decode b_xm_dataAddress 14 = .ok (.iadd, 1) by decide +kernel), ?_⟩
  refine List.forall_mem_cons.mpr ⟨mx_ok_iret (show decode b_xm_dataAddress 15 = .ok (.ireturn, 1) by decide +kernel) rfl, ?_⟩
  exact fun _ h => absurd h List.not_mem_nil
set_option maxRecDepth 100000 in
set_option maxHeartbeats 4000000 in
theorem ct_xm_dataAddress (l : Launch) (np nd : Nat) : mx_Ct l vw_T vw_cl (kx np nd) { frames := 2, cells := 0, slots := 0, locals := 41 } y_xm_dataAddress b_xm_dataAddress 2 (some .int) (pre_xm_dataAddress np nd) (fn_xm_dataAddress np nd) := by
  refine mx_ct_of (tb_xm_dataAddress np nd ) (by decide) (ok_xm_dataAddress l np nd ) (fun as u h => by obtain ⟨_, rfl, -⟩ := h; exact Nat.le_of_ble_eq_true rfl) ?_
  intro as u hpre At hc hw
  obtain ⟨a1, rfl, hp⟩ := hpre
  exact hc 200 [] _ _ _ _ (
    And.intro rfl (
    And.intro ⟨_, rfl, trivial⟩ (
    And.intro (xw_a_in _) (
    And.intro rfl (
    And.intro ⟨_, rfl, trivial⟩ (
    congrArg (mx_rI u) (show ((mx_ga u 3 ((xw_a a1 )).toNatClampNeg) + (xm_operandB a1 u)) = (xm_dataAddress a1 u) from (rfl).symm)))))))
/-! WideMachine.nearestSize(I)I -/
noncomputable def xm_nearestSize (a1 : Int32) : Int32 :=
  (if 16 < (if a1 < 256 then a1 else 256) then (if a1 < 256 then a1 else 256) else 16)
def pre_xm_nearestSize (np nd : Nat) : List mx_V → mx_S → Prop := fun as u => ∃ (a1 : Int32), as = [.inl a1] ∧ True
noncomputable def fn_xm_nearestSize (np nd : Nat) : mx_F := fun as u => match as with
  | [.inl a1] => mx_rI u (xm_nearestSize a1 )
  | _ => (none, u)
noncomputable def tb_xm_nearestSize (np nd : Nat) : List (Nat × mx_T) := [
  (0, mx_bipush 16 0),
  (2, mx_sipush 256 2),
  (5, mx_iload_n 0 5),
  (6, mx_mmin 6),
  (9, mx_mmax 9),
  (12, mx_iret 12)]
set_option maxRecDepth 100000 in
set_option maxHeartbeats 4000000 in
theorem ok_xm_nearestSize (l : Launch) (np nd : Nat) : ∀ q ∈ tb_xm_nearestSize np nd , mx_Ok l ({ frames := 1, cells := 0, slots := 0, locals := 21 } : Room) b_xm_nearestSize 1 "WideMachine" (some .int) vw_T vw_cl (kx np nd) q.1 q.2 := by
  refine List.forall_mem_cons.mpr ⟨mx_ok_bipush (show decode b_xm_nearestSize 0 = .ok (.bipush 16, 2) by decide +kernel) (by decide), ?_⟩
  refine List.forall_mem_cons.mpr ⟨mx_ok_sipush (show decode b_xm_nearestSize 2 = .ok (.sipush 256, 3) by decide +kernel) (by decide), ?_⟩
  refine List.forall_mem_cons.mpr ⟨mx_ok_iload_n (show decode b_xm_nearestSize 5 = .ok (.iload_n 0, 1) by decide +kernel) rfl, ?_⟩
  refine List.forall_mem_cons.mpr ⟨mx_ok_mmin vm_299 vm_300 vm_233 vm_301 (by decide) (by decide) (show decode b_xm_nearestSize 6 = .ok (.invokestatic 87, 3) by decide +kernel), ?_⟩
  refine List.forall_mem_cons.mpr ⟨mx_ok_mmax vm_231 vm_232 vm_233 vm_234 (by decide) (by decide) (show decode b_xm_nearestSize 9 = .ok (.invokestatic 93, 3) by decide +kernel), ?_⟩
  refine List.forall_mem_cons.mpr ⟨mx_ok_iret (show decode b_xm_nearestSize 12 = .ok (.ireturn, 1) by decide +kernel) rfl, ?_⟩
  exact fun _ h => absurd h List.not_mem_nil
set_option maxRecDepth 100000 in
set_option maxHeartbeats 4000000 in
theorem ct_xm_nearestSize (l : Launch) (np nd : Nat) : mx_Ct l vw_T vw_cl (kx np nd) { frames := 1, cells := 0, slots := 0, locals := 21 } y_xm_nearestSize b_xm_nearestSize 1 (some .int) (pre_xm_nearestSize np nd) (fn_xm_nearestSize np nd) := by
  refine mx_ct_of (tb_xm_nearestSize np nd ) (by decide) (ok_xm_nearestSize l np nd ) (fun as u h => by obtain ⟨_, rfl, -⟩ := h; exact Nat.le_of_ble_eq_true rfl) ?_
  intro as u hpre At hc hw
  obtain ⟨a1, rfl, hp⟩ := hpre
  exact hc 200 [] _ _ _ _ (
    And.intro rfl (
    And.intro rfl (
    congrArg (mx_rI u) (show (if 16 < (if a1 < 256 then a1 else 256) then (if a1 < 256 then a1 else 256) else 16) = (xm_nearestSize a1 ) from (rfl).symm))))
