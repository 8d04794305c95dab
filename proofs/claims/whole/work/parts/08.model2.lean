/-! WideMachineModel.word(II)Z -/
noncomputable def mm_word_b (a1 : Int32) (a2 : Int32) (u : mx_S) : Int32 × mx_S :=
  if a1 < 0 then
   (0, (mx_sf u 0 0 0))
  else
   if a1 < (mx_gf (mx_sf u 0 0 0) 0 1) then
    (1, (mx_sa (mx_sf u 0 0 0) 1 (a1).toNatClampNeg a2))
   else
    (0, (mx_sf u 0 0 0))
theorem mm_word_ex : ∃ f : Int32 → Int32 → mx_S → Int32, f = (fun a1 a2 u => (mm_word_b a1 a2 u).1) := ⟨_, rfl⟩
noncomputable def mm_word : Int32 → Int32 → mx_S → Int32 := Classical.choose mm_word_ex
theorem mm_word_eq (a1 : Int32) (a2 : Int32) (u : mx_S) : (mm_word a1 a2 u) = (mm_word_b a1 a2 u).1 := by rw [show mm_word = (fun a1 a2 u => (mm_word_b a1 a2 u).1) from Classical.choose_spec mm_word_ex]
theorem mm_word_s_ex : ∃ f : Int32 → Int32 → mx_S → mx_S, f = (fun a1 a2 u => (mm_word_b a1 a2 u).2) := ⟨_, rfl⟩
noncomputable def mm_word_s : Int32 → Int32 → mx_S → mx_S := Classical.choose mm_word_s_ex
theorem mm_word_s_eq (a1 : Int32) (a2 : Int32) (u : mx_S) : (mm_word_s a1 a2 u) = (mm_word_b a1 a2 u).2 := by rw [show mm_word_s = (fun a1 a2 u => (mm_word_b a1 a2 u).2) from Classical.choose_spec mm_word_s_ex]
def q_mm_word (a1 : Int32) (a2 : Int32) (u : mx_S) : Prop :=
  ((a1 < 0) → 
   True) ∧ ((¬ (a1 < 0)) → 
   ((a1 < (mx_gf (mx_sf u 0 0 0) 0 1)) → 
    (vp_in a1 256)) ∧ ((¬ (a1 < (mx_gf (mx_sf u 0 0 0) 0 1))) → 
    True))
def pre_mm_word : List mx_V → mx_S → Prop := fun as u => ∃ (a1 : Int32) (a2 : Int32), as = [.inr (.inr 0), .inl a1, .inl a2] ∧ q_mm_word a1 a2 u
noncomputable def fn_mm_word : mx_F := fun as u => match as with
  | [_, .inl a1, .inl a2] => (some (.inl (mm_word a1 a2 u)), (mm_word_s a1 a2 u))
  | _ => (none, u)
noncomputable def tb_mm_word : List (Nat × mx_T) := [
  (0, mx_aload_n 0 0),
  (1, mx_iconst 0 1),
  (2, mx_putf km 3 0 2),
  (5, mx_iload_n 1 5),
  (6, mx_if_lt 17 6),
  (9, mx_iload_n 1 9),
  (10, mx_aload_n 0 10),
  (11, mx_getf km 3 1 11),
  (14, mx_icmp_lt 19 14),
  (17, mx_iconst 0 17),
  (18, mx_zret 18),
  (19, mx_aload_n 0 19),
  (20, mx_getf km 3 3 20),
  (23, mx_iload_n 1 23),
  (24, mx_iload_n 2 24),
  (25, mx_iast km 25),
  (26, mx_iconst 1 26),
  (27, mx_zret 27)]
set_option maxRecDepth 100000 in
set_option maxHeartbeats 4000000 in
theorem ok_mm_word (l : Launch) : ∀ q ∈ tb_mm_word , mx_Ok l ({ frames := 0, cells := 0, slots := 0, locals := 0 } : Room) b_mm_word 3 "WideMachineModel" (some .boolean) vw_T vw_cl km q.1 q.2 := by
  refine List.forall_mem_cons.mpr ⟨mx_ok_aload_n (show decode b_mm_word 0 = .ok (.aload_n 0, 1) by decide +kernel) rfl, ?_⟩
  refine List.forall_mem_cons.mpr ⟨mx_ok_iconst (show decode b_mm_word 1 = .ok (.iconst 0, 1) by decide +kernel) (by decide), ?_⟩
  refine List.forall_mem_cons.mpr ⟨mx_ok_putf fd_mm_47 fw_3_0 (show decode b_mm_word 2 = .ok (.putfield 47, 3) by decide +kernel), ?_⟩
  refine List.forall_mem_cons.mpr ⟨mx_ok_iload_n (show decode b_mm_word 5 = .ok (.iload_n 1, 1) by decide +kernel) rfl, ?_⟩
  refine List.forall_mem_cons.mpr ⟨mx_ok_if_lt (show decode b_mm_word 6 = .ok (.ifCond .lt 11, 3) by decide +kernel) (by decide), ?_⟩
  refine List.forall_mem_cons.mpr ⟨mx_ok_iload_n (show decode b_mm_word 9 = .ok (.iload_n 1, 1) by decide +kernel) rfl, ?_⟩
  refine List.forall_mem_cons.mpr ⟨mx_ok_aload_n (show decode b_mm_word 10 = .ok (.aload_n 0, 1) by decide +kernel) rfl, ?_⟩
  refine List.forall_mem_cons.mpr ⟨mx_ok_getf fd_mm_40 (show decode b_mm_word 11 = .ok (.getfield 40, 3) by decide +kernel), ?_⟩
  refine List.forall_mem_cons.mpr ⟨mx_ok_icmp_lt (show decode b_mm_word 14 = .ok (.if_icmp .lt 5, 3) by decide +kernel) (by decide), ?_⟩
  refine List.forall_mem_cons.mpr ⟨mx_ok_iconst (show decode b_mm_word 17 = .ok (.iconst 0, 1) by decide +kernel) (by decide), ?_⟩
  refine List.forall_mem_cons.mpr ⟨mx_ok_zret (show decode b_mm_word 18 = .ok (.ireturn, 1) by decide +kernel) rfl, ?_⟩
  refine List.forall_mem_cons.mpr ⟨mx_ok_aload_n (show decode b_mm_word 19 = .ok (.aload_n 0, 1) by decide +kernel) rfl, ?_⟩
  refine List.forall_mem_cons.mpr ⟨mx_ok_getf fd_mm_7 (show decode b_mm_word 20 = .ok (.getfield 7, 3) by decide +kernel), ?_⟩
  refine List.forall_mem_cons.mpr ⟨mx_ok_iload_n (show decode b_mm_word 23 = .ok (.iload_n 1, 1) by decide +kernel) rfl, ?_⟩
  refine List.forall_mem_cons.mpr ⟨mx_ok_iload_n (show decode b_mm_word 24 = .ok (.iload_n 2, 1) by decide +kernel) rfl, ?_⟩
  refine List.forall_mem_cons.mpr ⟨mx_ok_iast (show decode b_mm_word 25 = .ok (.iastore, 1) by decide +kernel), ?_⟩
  refine List.forall_mem_cons.mpr ⟨mx_ok_iconst (show decode b_mm_word 26 = .ok (.iconst 1, 1) by decide +kernel) (by decide), ?_⟩
  refine List.forall_mem_cons.mpr ⟨mx_ok_zret (show decode b_mm_word 27 = .ok (.ireturn, 1) by decide +kernel) rfl, ?_⟩
  exact fun _ h => absurd h List.not_mem_nil
set_option maxRecDepth 100000 in
set_option maxHeartbeats 4000000 in
theorem ct_mm_word (l : Launch) : mx_Ct l vw_T vw_cl km { frames := 0, cells := 0, slots := 0, locals := 0 } y_mm_word b_mm_word 3 (some .boolean) pre_mm_word fn_mm_word := by
  refine mx_ct_of (tb_mm_word ) (by decide) (ok_mm_word l ) (fun as u h => by obtain ⟨_, _, rfl, -⟩ := h; exact Nat.le_of_ble_eq_true rfl) ?_
  intro as u hpre At hc hw
  obtain ⟨a1, a2, rfl, hp⟩ := hpre
  obtain ⟨RES, hRES⟩ : ∃ z, z = (mm_word_b a1 a2 u) := ⟨_, rfl⟩
  have hfn : fn_mm_word [.inr (.inr 0), .inl a1, .inl a2] u = mx_rB RES := by
    show ((some (.inl (mm_word a1 a2 u)), (mm_word_s a1 a2 u)) : Option mx_V × mx_S) = _
    rw [hRES, mm_word_eq, mm_word_s_eq]
    rfl
  rw [hfn] at hc
  exact hc 200 [] _ _ _ _ (
    And.intro rfl (
    And.intro (fun h6 => 
     And.intro (Or.inl rfl) (
     congrArg mx_rB (show (0, (mx_sf u 0 0 0)) = RES from (if_pos h6).symm.trans hRES.symm))) (fun h6 => 
     And.intro (fun h14 => 
      And.intro (((hp.2 h6).1 h14)) (
      And.intro (Or.inr rfl) (
      congrArg mx_rB (show (1, (mx_sa (mx_sf u 0 0 0) 1 (a1).toNatClampNeg a2)) = RES from ((if_neg h6).trans (if_pos h14)).symm.trans hRES.symm)))) (fun h14 => 
      And.intro (Or.inl rfl) (
      congrArg mx_rB (show (0, (mx_sf u 0 0 0)) = RES from ((if_neg h6).trans (if_neg h14)).symm.trans hRES.symm))))))
/-! WideMachineModel.poke(II)Z -/
noncomputable def mm_poke_b (a1 : Int32) (a2 : Int32) (u : mx_S) : Int32 × mx_S :=
  if a1 < 0 then
   (0, (mx_sf u 0 0 0))
  else
   if a1 < (mx_gf (mx_sf u 0 0 0) 0 2) then
    (1, (mx_sa (mx_sf u 0 0 0) 2 (a1).toNatClampNeg a2))
   else
    (0, (mx_sf u 0 0 0))
theorem mm_poke_ex : ∃ f : Int32 → Int32 → mx_S → Int32, f = (fun a1 a2 u => (mm_poke_b a1 a2 u).1) := ⟨_, rfl⟩
noncomputable def mm_poke : Int32 → Int32 → mx_S → Int32 := Classical.choose mm_poke_ex
theorem mm_poke_eq (a1 : Int32) (a2 : Int32) (u : mx_S) : (mm_poke a1 a2 u) = (mm_poke_b a1 a2 u).1 := by rw [show mm_poke = (fun a1 a2 u => (mm_poke_b a1 a2 u).1) from Classical.choose_spec mm_poke_ex]
theorem mm_poke_s_ex : ∃ f : Int32 → Int32 → mx_S → mx_S, f = (fun a1 a2 u => (mm_poke_b a1 a2 u).2) := ⟨_, rfl⟩
noncomputable def mm_poke_s : Int32 → Int32 → mx_S → mx_S := Classical.choose mm_poke_s_ex
theorem mm_poke_s_eq (a1 : Int32) (a2 : Int32) (u : mx_S) : (mm_poke_s a1 a2 u) = (mm_poke_b a1 a2 u).2 := by rw [show mm_poke_s = (fun a1 a2 u => (mm_poke_b a1 a2 u).2) from Classical.choose_spec mm_poke_s_ex]
def q_mm_poke (a1 : Int32) (a2 : Int32) (u : mx_S) : Prop :=
  ((a1 < 0) → 
   True) ∧ ((¬ (a1 < 0)) → 
   ((a1 < (mx_gf (mx_sf u 0 0 0) 0 2)) → 
    (vp_in a1 256)) ∧ ((¬ (a1 < (mx_gf (mx_sf u 0 0 0) 0 2))) → 
    True))
def pre_mm_poke : List mx_V → mx_S → Prop := fun as u => ∃ (a1 : Int32) (a2 : Int32), as = [.inr (.inr 0), .inl a1, .inl a2] ∧ q_mm_poke a1 a2 u
noncomputable def fn_mm_poke : mx_F := fun as u => match as with
  | [_, .inl a1, .inl a2] => (some (.inl (mm_poke a1 a2 u)), (mm_poke_s a1 a2 u))
  | _ => (none, u)
noncomputable def tb_mm_poke : List (Nat × mx_T) := [
  (0, mx_aload_n 0 0),
  (1, mx_iconst 0 1),
  (2, mx_putf km 3 0 2),
  (5, mx_iload_n 1 5),
  (6, mx_if_lt 17 6),
  (9, mx_iload_n 1 9),
  (10, mx_aload_n 0 10),
  (11, mx_getf km 3 2 11),
  (14, mx_icmp_lt 19 14),
  (17, mx_iconst 0 17),
  (18, mx_zret 18),
  (19, mx_aload_n 0 19),
  (20, mx_getf km 3 4 20),
  (23, mx_iload_n 1 23),
  (24, mx_iload_n 2 24),
  (25, mx_iast km 25),
  (26, mx_iconst 1 26),
  (27, mx_zret 27)]
set_option maxRecDepth 100000 in
set_option maxHeartbeats 4000000 in
theorem ok_mm_poke (l : Launch) : ∀ q ∈ tb_mm_poke , mx_Ok l ({ frames := 0, cells := 0, slots := 0, locals := 0 } : Room) b_mm_poke 3 "WideMachineModel" (some .boolean) vw_T vw_cl km q.1 q.2 := by
  refine List.forall_mem_cons.mpr ⟨mx_ok_aload_n (show decode b_mm_poke 0 = .ok (.aload_n 0, 1) by decide +kernel) rfl, ?_⟩
  refine List.forall_mem_cons.mpr ⟨mx_ok_iconst (show decode b_mm_poke 1 = .ok (.iconst 0, 1) by decide +kernel) (by decide), ?_⟩
  refine List.forall_mem_cons.mpr ⟨mx_ok_putf fd_mm_47 fw_3_0 (show decode b_mm_poke 2 = .ok (.putfield 47, 3) by decide +kernel), ?_⟩
  refine List.forall_mem_cons.mpr ⟨mx_ok_iload_n (show decode b_mm_poke 5 = .ok (.iload_n 1, 1) by decide +kernel) rfl, ?_⟩
  refine List.forall_mem_cons.mpr ⟨mx_ok_if_lt (show decode b_mm_poke 6 = .ok (.ifCond .lt 11, 3) by decide +kernel) (by decide), ?_⟩
  refine List.forall_mem_cons.mpr ⟨mx_ok_iload_n (show decode b_mm_poke 9 = .ok (.iload_n 1, 1) by decide +kernel) rfl, ?_⟩
  refine List.forall_mem_cons.mpr ⟨mx_ok_aload_n (show decode b_mm_poke 10 = .ok (.aload_n 0, 1) by decide +kernel) rfl, ?_⟩
  refine List.forall_mem_cons.mpr ⟨mx_ok_getf fd_mm_44 (show decode b_mm_poke 11 = .ok (.getfield 44, 3) by decide +kernel), ?_⟩
  refine List.forall_mem_cons.mpr ⟨mx_ok_icmp_lt (show decode b_mm_poke 14 = .ok (.if_icmp .lt 5, 3) by decide +kernel) (by decide), ?_⟩
  refine List.forall_mem_cons.mpr ⟨mx_ok_iconst (show decode b_mm_poke 17 = .ok (.iconst 0, 1) by decide +kernel) (by decide), ?_⟩
  refine List.forall_mem_cons.mpr ⟨mx_ok_zret (show decode b_mm_poke 18 = .ok (.ireturn, 1) by decide +kernel) rfl, ?_⟩
  refine List.forall_mem_cons.mpr ⟨mx_ok_aload_n (show decode b_mm_poke 19 = .ok (.aload_n 0, 1) by decide +kernel) rfl, ?_⟩
  refine List.forall_mem_cons.mpr ⟨mx_ok_getf fd_mm_13 (show decode b_mm_poke 20 = .ok (.getfield 13, 3) by decide +kernel), ?_⟩
  refine List.forall_mem_cons.mpr ⟨mx_ok_iload_n (show decode b_mm_poke 23 = .ok (.iload_n 1, 1) by decide +kernel) rfl, ?_⟩
  refine List.forall_mem_cons.mpr ⟨mx_ok_iload_n (show decode b_mm_poke 24 = .ok (.iload_n 2, 1) by decide +kernel) rfl, ?_⟩
  refine List.forall_mem_cons.mpr ⟨mx_ok_iast (show decode b_mm_poke 25 = .ok (.iastore, 1) by decide +kernel), ?_⟩
  refine List.forall_mem_cons.mpr ⟨mx_ok_iconst (show decode b_mm_poke 26 = .ok (.iconst 1, 1) by decide +kernel) (by decide), ?_⟩
  refine List.forall_mem_cons.mpr ⟨mx_ok_zret (show decode b_mm_poke 27 = .ok (.ireturn, 1) by decide +kernel) rfl, ?_⟩
  exact fun _ h => absurd h List.not_mem_nil
set_option maxRecDepth 100000 in
set_option maxHeartbeats 4000000 in
theorem ct_mm_poke (l : Launch) : mx_Ct l vw_T vw_cl km { frames := 0, cells := 0, slots := 0, locals := 0 } y_mm_poke b_mm_poke 3 (some .boolean) pre_mm_poke fn_mm_poke := by
  refine mx_ct_of (tb_mm_poke ) (by decide) (ok_mm_poke l ) (fun as u h => by obtain ⟨_, _, rfl, -⟩ := h; exact Nat.le_of_ble_eq_true rfl) ?_
  intro as u hpre At hc hw
  obtain ⟨a1, a2, rfl, hp⟩ := hpre
  obtain ⟨RES, hRES⟩ : ∃ z, z = (mm_poke_b a1 a2 u) := ⟨_, rfl⟩
  have hfn : fn_mm_poke [.inr (.inr 0), .inl a1, .inl a2] u = mx_rB RES := by
    show ((some (.inl (mm_poke a1 a2 u)), (mm_poke_s a1 a2 u)) : Option mx_V × mx_S) = _
    rw [hRES, mm_poke_eq, mm_poke_s_eq]
    rfl
  rw [hfn] at hc
  exact hc 200 [] _ _ _ _ (
    And.intro rfl (
    And.intro (fun h6 => 
     And.intro (Or.inl rfl) (
     congrArg mx_rB (show (0, (mx_sf u 0 0 0)) = RES from (if_pos h6).symm.trans hRES.symm))) (fun h6 => 
     And.intro (fun h14 => 
      And.intro (((hp.2 h6).1 h14)) (
      And.intro (Or.inr rfl) (
      congrArg mx_rB (show (1, (mx_sa (mx_sf u 0 0 0) 2 (a1).toNatClampNeg a2)) = RES from ((if_neg h6).trans (if_pos h14)).symm.trans hRES.symm)))) (fun h14 => 
      And.intro (Or.inl rfl) (
      congrArg mx_rB (show (0, (mx_sf u 0 0 0)) = RES from ((if_neg h6).trans (if_neg h14)).symm.trans hRES.symm))))))
/-! WideMachineModel.peek(I)I -/
noncomputable def mm_peek_b (a1 : Int32) (u : mx_S) : Int32 × mx_S :=
  if a1 < 0 then
   (0, (mx_sf u 0 0 0))
  else
   if a1 < (mx_gf (mx_sf u 0 0 0) 0 2) then
    ((mx_ga (mx_sf u 0 0 0) 2 (a1).toNatClampNeg), (mx_sf u 0 0 0))
   else
    (0, (mx_sf u 0 0 0))
theorem mm_peek_ex : ∃ f : Int32 → mx_S → Int32, f = (fun a1 u => (mm_peek_b a1 u).1) := ⟨_, rfl⟩
noncomputable def mm_peek : Int32 → mx_S → Int32 := Classical.choose mm_peek_ex
theorem mm_peek_eq (a1 : Int32) (u : mx_S) : (mm_peek a1 u) = (mm_peek_b a1 u).1 := by rw [show mm_peek = (fun a1 u => (mm_peek_b a1 u).1) from Classical.choose_spec mm_peek_ex]
theorem mm_peek_s_ex : ∃ f : Int32 → mx_S → mx_S, f = (fun a1 u => (mm_peek_b a1 u).2) := ⟨_, rfl⟩
noncomputable def mm_peek_s : Int32 → mx_S → mx_S := Classical.choose mm_peek_s_ex
theorem mm_peek_s_eq (a1 : Int32) (u : mx_S) : (mm_peek_s a1 u) = (mm_peek_b a1 u).2 := by rw [show mm_peek_s = (fun a1 u => (mm_peek_b a1 u).2) from Classical.choose_spec mm_peek_s_ex]
def q_mm_peek (a1 : Int32) (u : mx_S) : Prop :=
  ((a1 < 0) → 
   True) ∧ ((¬ (a1 < 0)) → 
   ((a1 < (mx_gf (mx_sf u 0 0 0) 0 2)) → 
    (vp_in a1 256)) ∧ ((¬ (a1 < (mx_gf (mx_sf u 0 0 0) 0 2))) → 
    True))
def pre_mm_peek : List mx_V → mx_S → Prop := fun as u => ∃ (a1 : Int32), as = [.inr (.inr 0), .inl a1] ∧ q_mm_peek a1 u
noncomputable def fn_mm_peek : mx_F := fun as u => match as with
  | [_, .inl a1] => (some (.inl (mm_peek a1 u)), (mm_peek_s a1 u))
  | _ => (none, u)
noncomputable def tb_mm_peek : List (Nat × mx_T) := [
  (0, mx_aload_n 0 0),
  (1, mx_iconst 0 1),
  (2, mx_putf km 3 0 2),
  (5, mx_iload_n 1 5),
  (6, mx_if_lt 17 6),
  (9, mx_iload_n 1 9),
  (10, mx_aload_n 0 10),
  (11, mx_getf km 3 2 11),
  (14, mx_icmp_lt 21 14),
  (17, mx_iconst 0 17),
  (18, mx_goto 27 18),
  (21, mx_aload_n 0 21),
  (22, mx_getf km 3 4 22),
  (25, mx_iload_n 1 25),
  (26, mx_iald km 26),
  (27, mx_iret 27)]
set_option maxRecDepth 100000 in
set_option maxHeartbeats 4000000 in
theorem ok_mm_peek (l : Launch) : ∀ q ∈ tb_mm_peek , mx_Ok l ({ frames := 0, cells := 0, slots := 0, locals := 0 } : Room) b_mm_peek 2 "WideMachineModel" (some .int) vw_T vw_cl km q.1 q.2 := by
  refine List.forall_mem_cons.mpr ⟨mx_ok_aload_n (show decode b_mm_peek 0 = .ok (.aload_n 0, 1) by decide +kernel) rfl, ?_⟩
  refine List.forall_mem_cons.mpr ⟨mx_ok_iconst (show decode b_mm_peek 1 = .ok (.iconst 0, 1) by decide +kernel) (by decide), ?_⟩
  refine List.forall_mem_cons.mpr ⟨mx_ok_putf fd_mm_47 fw_3_0 (show decode b_mm_peek 2 = .ok (.putfield 47, 3) by decide +kernel), ?_⟩
  refine List.forall_mem_cons.mpr ⟨mx_ok_iload_n (show decode b_mm_peek 5 = .ok (.iload_n 1, 1) by decide +kernel) rfl, ?_⟩
  refine List.forall_mem_cons.mpr ⟨mx_ok_if_lt (show decode b_mm_peek 6 = .ok (.ifCond .lt 11, 3) by decide +kernel) (by decide), ?_⟩
  refine List.forall_mem_cons.mpr ⟨mx_ok_iload_n (show decode b_mm_peek 9 = .ok (.iload_n 1, 1) by decide +kernel) rfl, ?_⟩
  refine List.forall_mem_cons.mpr ⟨mx_ok_aload_n (show decode b_mm_peek 10 = .ok (.aload_n 0, 1) by decide +kernel) rfl, ?_⟩
  refine List.forall_mem_cons.mpr ⟨mx_ok_getf fd_mm_44 (show decode b_mm_peek 11 = .ok (.getfield 44, 3) by decide +kernel), ?_⟩
  refine List.forall_mem_cons.mpr ⟨mx_ok_icmp_lt (show decode b_mm_peek 14 = .ok (.if_icmp .lt 7, 3) by decide +kernel) (by decide), ?_⟩
  refine List.forall_mem_cons.mpr ⟨mx_ok_iconst (show decode b_mm_peek 17 = .ok (.iconst 0, 1) by decide +kernel) (by decide), ?_⟩
  refine List.forall_mem_cons.mpr ⟨mx_ok_goto (show decode b_mm_peek 18 = .ok (.goto 9, 3) by decide +kernel) (by decide), ?_⟩
  refine List.forall_mem_cons.mpr ⟨mx_ok_aload_n (show decode b_mm_peek 21 = .ok (.aload_n 0, 1) by decide +kernel) rfl, ?_⟩
  refine List.forall_mem_cons.mpr ⟨mx_ok_getf fd_mm_13 (show decode b_mm_peek 22 = .ok (.getfield 13, 3) by decide +kernel), ?_⟩
  refine List.forall_mem_cons.mpr ⟨mx_ok_iload_n (show decode b_mm_peek 25 = .ok (.iload_n 1, 1) by decide +kernel) rfl, ?_⟩
  refine List.forall_mem_cons.mpr ⟨mx_ok_iald (show decode b_mm_peek 26 = .ok (.iaload, 1) by decide +kernel), ?_⟩
  refine List.forall_mem_cons.mpr ⟨mx_ok_iret (show decode b_mm_peek 27 = .ok (.ireturn, 1) by decide +kernel) rfl, ?_⟩
  exact fun _ h => absurd h List.not_mem_nil
set_option maxRecDepth 100000 in
set_option maxHeartbeats 4000000 in
theorem ct_mm_peek (l : Launch) : mx_Ct l vw_T vw_cl km { frames := 0, cells := 0, slots := 0, locals := 0 } y_mm_peek b_mm_peek 2 (some .int) pre_mm_peek fn_mm_peek := by
  refine mx_ct_of (tb_mm_peek ) (by decide) (ok_mm_peek l ) (fun as u h => by obtain ⟨_, rfl, -⟩ := h; exact Nat.le_of_ble_eq_true rfl) ?_
  intro as u hpre At hc hw
  obtain ⟨a1, rfl, hp⟩ := hpre
  obtain ⟨RES, hRES⟩ : ∃ z, z = (mm_peek_b a1 u) := ⟨_, rfl⟩
  have hfn : fn_mm_peek [.inr (.inr 0), .inl a1] u = mx_rB RES := by
    show ((some (.inl (mm_peek a1 u)), (mm_peek_s a1 u)) : Option mx_V × mx_S) = _
    rw [hRES, mm_peek_eq, mm_peek_s_eq]
    rfl
  rw [hfn] at hc
  exact hc 200 [] _ _ _ _ (
    And.intro rfl (
    And.intro (fun h6 => 
     congrArg mx_rB (show (0, (mx_sf u 0 0 0)) = RES from (if_pos h6).symm.trans hRES.symm)) (fun h6 => 
     And.intro (fun h14 => 
      And.intro (((hp.2 h6).1 h14)) (
      congrArg mx_rB (show ((mx_ga (mx_sf u 0 0 0) 2 (a1).toNatClampNeg), (mx_sf u 0 0 0)) = RES from ((if_neg h6).trans (if_pos h14)).symm.trans hRES.symm))) (fun h14 => 
      congrArg mx_rB (show (0, (mx_sf u 0 0 0)) = RES from ((if_neg h6).trans (if_neg h14)).symm.trans hRES.symm)))))
/-! WideMachineModel.set(II)Z -/
noncomputable def mm_set_b (a1 : Int32) (a2 : Int32) (u : mx_S) : Int32 × mx_S :=
  if a1 < 0 then
   (0, (mx_sf u 0 0 0))
  else
   if a1 ≤ 31 then
    (1, (mx_sa (mx_sf u 0 0 0) 3 (a1).toNatClampNeg a2))
   else
    (0, (mx_sf u 0 0 0))
theorem mm_set_ex : ∃ f : Int32 → Int32 → mx_S → Int32, f = (fun a1 a2 u => (mm_set_b a1 a2 u).1) := ⟨_, rfl⟩
noncomputable def mm_set : Int32 → Int32 → mx_S → Int32 := Classical.choose mm_set_ex
theorem mm_set_eq (a1 : Int32) (a2 : Int32) (u : mx_S) : (mm_set a1 a2 u) = (mm_set_b a1 a2 u).1 := by rw [show mm_set = (fun a1 a2 u => (mm_set_b a1 a2 u).1) from Classical.choose_spec mm_set_ex]
theorem mm_set_s_ex : ∃ f : Int32 → Int32 → mx_S → mx_S, f = (fun a1 a2 u => (mm_set_b a1 a2 u).2) := ⟨_, rfl⟩
noncomputable def mm_set_s : Int32 → Int32 → mx_S → mx_S := Classical.choose mm_set_s_ex
theorem mm_set_s_eq (a1 : Int32) (a2 : Int32) (u : mx_S) : (mm_set_s a1 a2 u) = (mm_set_b a1 a2 u).2 := by rw [show mm_set_s = (fun a1 a2 u => (mm_set_b a1 a2 u).2) from Classical.choose_spec mm_set_s_ex]
def q_mm_set (a1 : Int32) (a2 : Int32) (u : mx_S) : Prop :=
  ((a1 < 0) → 
   True) ∧ ((¬ (a1 < 0)) → 
   ((a1 ≤ 31) → 
    (vp_in a1 32)) ∧ ((¬ (a1 ≤ 31)) → 
    True))
def pre_mm_set : List mx_V → mx_S → Prop := fun as u => ∃ (a1 : Int32) (a2 : Int32), as = [.inr (.inr 0), .inl a1, .inl a2] ∧ q_mm_set a1 a2 u
noncomputable def fn_mm_set : mx_F := fun as u => match as with
  | [_, .inl a1, .inl a2] => (some (.inl (mm_set a1 a2 u)), (mm_set_s a1 a2 u))
  | _ => (none, u)
noncomputable def tb_mm_set : List (Nat × mx_T) := [
  (0, mx_aload_n 0 0),
  (1, mx_iconst 0 1),
  (2, mx_putf km 3 0 2),
  (5, mx_iload_n 1 5),
  (6, mx_if_lt 15 6),
  (9, mx_iload_n 1 9),
  (10, mx_bipush 31 10),
  (12, mx_icmp_le 17 12),
  (15, mx_iconst 0 15),
  (16, mx_zret 16),
  (17, mx_aload_n 0 17),
  (18, mx_getf km 3 5 18),
  (21, mx_iload_n 1 21),
  (22, mx_iload_n 2 22),
  (23, mx_iast km 23),
  (24, mx_iconst 1 24),
  (25, mx_zret 25)]
set_option maxRecDepth 100000 in
set_option maxHeartbeats 4000000 in
theorem ok_mm_set (l : Launch) : ∀ q ∈ tb_mm_set , mx_Ok l ({ frames := 0, cells := 0, slots := 0, locals := 0 } : Room) b_mm_set 3 "WideMachineModel" (some .boolean) vw_T vw_cl km q.1 q.2 := by
  refine List.forall_mem_cons.mpr ⟨mx_ok_aload_n (show decode b_mm_set 0 = .ok (.aload_n 0, 1) by decide +kernel) rfl, ?_⟩
  refine List.forall_mem_cons.mpr ⟨mx_ok_iconst (show decode b_mm_set 1 = .ok (.iconst 0, 1) by decide +kernel) (by decide), ?_⟩
  refine List.forall_mem_cons.mpr ⟨mx_ok_putf fd_mm_47 fw_3_0 (show decode b_mm_set 2 = .ok (.putfield 47, 3) by decide +kernel), ?_⟩
  refine List.forall_mem_cons.mpr ⟨mx_ok_iload_n (show decode b_mm_set 5 = .ok (.iload_n 1, 1) by decide +kernel) rfl, ?_⟩
  refine List.forall_mem_cons.mpr ⟨mx_ok_if_lt (show decode b_mm_set 6 = .ok (.ifCond .lt 9, 3) by decide +kernel) (by decide), ?_⟩
  refine List.forall_mem_cons.mpr ⟨mx_ok_iload_n (show decode b_mm_set 9 = .ok (.iload_n 1, 1) by decide +kernel) rfl, ?_⟩
  refine List.forall_mem_cons.mpr ⟨mx_ok_bipush (show decode b_mm_set 10 = .ok (.bipush 31, 2) by decide +kernel) (by decide), ?_⟩
  refine List.forall_mem_cons.mpr ⟨mx_ok_icmp_le (show decode b_mm_set 12 = .ok (.if_icmp .le 5, 3) by decide +kernel) (by decide), ?_⟩
  refine List.forall_mem_cons.mpr ⟨mx_ok_iconst (show decode b_mm_set 15 = .ok (.iconst 0, 1) by decide +kernel) (by decide), ?_⟩
  refine List.forall_mem_cons.mpr ⟨mx_ok_zret (show decode b_mm_set 16 = .ok (.ireturn, 1) by decide +kernel) rfl, ?_⟩
  refine List.forall_mem_cons.mpr ⟨mx_ok_aload_n (show decode b_mm_set 17 = .ok (.aload_n 0, 1) by decide +kernel) rfl, ?_⟩
  refine List.forall_mem_cons.mpr ⟨mx_ok_getf fd_mm_16 (show decode b_mm_set 18 = .ok (.getfield 16, 3) by decide +kernel), ?_⟩
  refine List.forall_mem_cons.mpr ⟨mx_ok_iload_n (show decode b_mm_set 21 = .ok (.iload_n 1, 1) by decide +kernel) rfl, ?_⟩
  refine List.forall_mem_cons.mpr ⟨mx_ok_iload_n (show decode b_mm_set 22 = .ok (.iload_n 2, 1) by decide +kernel) rfl, ?_⟩
  refine List.forall_mem_cons.mpr ⟨mx_ok_iast (show decode b_mm_set 23 = .ok (.iastore, 1) by decide +kernel), ?_⟩
  refine List.forall_mem_cons.mpr ⟨mx_ok_iconst (show decode b_mm_set 24 = .ok (.iconst 1, 1) by decide +kernel) (by decide), ?_⟩
  refine List.forall_mem_cons.mpr ⟨mx_ok_zret (show decode b_mm_set 25 = .ok (.ireturn, 1) by decide +kernel) rfl, ?_⟩
  exact fun _ h => absurd h List.not_mem_nil
set_option maxRecDepth 100000 in
set_option maxHeartbeats 4000000 in
theorem ct_mm_set (l : Launch) : mx_Ct l vw_T vw_cl km { frames := 0, cells := 0, slots := 0, locals := 0 } y_mm_set b_mm_set 3 (some .boolean) pre_mm_set fn_mm_set := by
  refine mx_ct_of (tb_mm_set ) (by decide) (ok_mm_set l ) (fun as u h => by obtain ⟨_, _, rfl, -⟩ := h; exact Nat.le_of_ble_eq_true rfl) ?_
  intro as u hpre At hc hw
  obtain ⟨a1, a2, rfl, hp⟩ := hpre
  obtain ⟨RES, hRES⟩ : ∃ z, z = (mm_set_b a1 a2 u) := ⟨_, rfl⟩
  have hfn : fn_mm_set [.inr (.inr 0), .inl a1, .inl a2] u = mx_rB RES := by
    show ((some (.inl (mm_set a1 a2 u)), (mm_set_s a1 a2 u)) : Option mx_V × mx_S) = _
    rw [hRES, mm_set_eq, mm_set_s_eq]
    rfl
  rw [hfn] at hc
  exact hc 200 [] _ _ _ _ (
    And.intro rfl (
    And.intro (fun h6 => 
     And.intro (Or.inl rfl) (
     congrArg mx_rB (show (0, (mx_sf u 0 0 0)) = RES from (if_pos h6).symm.trans hRES.symm))) (fun h6 => 
     And.intro (fun h12 => 
      And.intro (((hp.2 h6).1 h12)) (
      And.intro (Or.inr rfl) (
      congrArg mx_rB (show (1, (mx_sa (mx_sf u 0 0 0) 3 (a1).toNatClampNeg a2)) = RES from ((if_neg h6).trans (if_pos h12)).symm.trans hRES.symm)))) (fun h12 => 
      And.intro (Or.inl rfl) (
      congrArg mx_rB (show (0, (mx_sf u 0 0 0)) = RES from ((if_neg h6).trans (if_neg h12)).symm.trans hRES.symm))))))
/-! WideMachineModel.get(I)I -/
noncomputable def mm_get_b (a1 : Int32) (u : mx_S) : Int32 × mx_S :=
  if a1 < 0 then
   (0, (mx_sf u 0 0 0))
  else
   if a1 ≤ 31 then
    ((mx_ga (mx_sf u 0 0 0) 3 (a1).toNatClampNeg), (mx_sf u 0 0 0))
   else
    (0, (mx_sf u 0 0 0))
theorem mm_get_ex : ∃ f : Int32 → mx_S → Int32, f = (fun a1 u => (mm_get_b a1 u).1) := ⟨_, rfl⟩
noncomputable def mm_get : Int32 → mx_S → Int32 := Classical.choose mm_get_ex
theorem mm_get_eq (a1 : Int32) (u : mx_S) : (mm_get a1 u) = (mm_get_b a1 u).1 := by rw [show mm_get = (fun a1 u => (mm_get_b a1 u).1) from Classical.choose_spec mm_get_ex]
theorem mm_get_s_ex : ∃ f : Int32 → mx_S → mx_S, f = (fun a1 u => (mm_get_b a1 u).2) := ⟨_, rfl⟩
noncomputable def mm_get_s : Int32 → mx_S → mx_S := Classical.choose mm_get_s_ex
theorem mm_get_s_eq (a1 : Int32) (u : mx_S) : (mm_get_s a1 u) = (mm_get_b a1 u).2 := by rw [show mm_get_s = (fun a1 u => (mm_get_b a1 u).2) from Classical.choose_spec mm_get_s_ex]
def q_mm_get (a1 : Int32) (u : mx_S) : Prop :=
  ((a1 < 0) → 
   True) ∧ ((¬ (a1 < 0)) → 
   ((a1 ≤ 31) → 
    (vp_in a1 32)) ∧ ((¬ (a1 ≤ 31)) → 
    True))
def pre_mm_get : List mx_V → mx_S → Prop := fun as u => ∃ (a1 : Int32), as = [.inr (.inr 0), .inl a1] ∧ q_mm_get a1 u
noncomputable def fn_mm_get : mx_F := fun as u => match as with
  | [_, .inl a1] => (some (.inl (mm_get a1 u)), (mm_get_s a1 u))
  | _ => (none, u)
noncomputable def tb_mm_get : List (Nat × mx_T) := [
  (0, mx_aload_n 0 0),
  (1, mx_iconst 0 1),
  (2, mx_putf km 3 0 2),
  (5, mx_iload_n 1 5),
  (6, mx_if_lt 15 6),
  (9, mx_iload_n 1 9),
  (10, mx_bipush 31 10),
  (12, mx_icmp_le 19 12),
  (15, mx_iconst 0 15),
  (16, mx_goto 25 16),
  (19, mx_aload_n 0 19),
  (20, mx_getf km 3 5 20),
  (23, mx_iload_n 1 23),
  (24, mx_iald km 24),
  (25, mx_iret 25)]
set_option maxRecDepth 100000 in
set_option maxHeartbeats 4000000 in
theorem ok_mm_get (l : Launch) : ∀ q ∈ tb_mm_get , mx_Ok l ({ frames := 0, cells := 0, slots := 0, locals := 0 } : Room) b_mm_get 2 "WideMachineModel" (some .int) vw_T vw_cl km q.1 q.2 := by
  refine List.forall_mem_cons.mpr ⟨mx_ok_aload_n (show decode b_mm_get 0 = .ok (.aload_n 0, 1) by decide +kernel) rfl, ?_⟩
  refine List.forall_mem_cons.mpr ⟨mx_ok_iconst (show decode b_mm_get 1 = .ok (.iconst 0, 1) by decide +kernel) (by decide), ?_⟩
  refine List.forall_mem_cons.mpr ⟨mx_ok_putf fd_mm_47 fw_3_0 (show decode b_mm_get 2 = .ok (.putfield 47, 3) by decide +kernel), ?_⟩
  refine List.forall_mem_cons.mpr ⟨mx_ok_iload_n (show decode b_mm_get 5 = .ok (.iload_n 1, 1) by decide +kernel) rfl, ?_⟩
  refine List.forall_mem_cons.mpr ⟨mx_ok_if_lt (show decode b_mm_get 6 = .ok (.ifCond .lt 9, 3) by decide +kernel) (by decide), ?_⟩
  refine List.forall_mem_cons.mpr ⟨mx_ok_iload_n (show decode b_mm_get 9 = .ok (.iload_n 1, 1) by decide +kernel) rfl, ?_⟩
  refine List.forall_mem_cons.mpr ⟨mx_ok_bipush (show decode b_mm_get 10 = .ok (.bipush 31, 2) by decide +kernel) (by decide), ?_⟩
  refine List.forall_mem_cons.mpr ⟨mx_ok_icmp_le (show decode b_mm_get 12 = .ok (.if_icmp .le 7, 3) by decide +kernel) (by decide), ?_⟩
  refine List.forall_mem_cons.mpr ⟨mx_ok_iconst (show decode b_mm_get 15 = .ok (.iconst 0, 1) by decide +kernel) (by decide), ?_⟩
  refine List.forall_mem_cons.mpr ⟨mx_ok_goto (show decode b_mm_get 16 = .ok (.goto 9, 3) by decide +kernel) (by decide), ?_⟩
  refine List.forall_mem_cons.mpr ⟨mx_ok_aload_n (show decode b_mm_get 19 = .ok (.aload_n 0, 1) by decide +kernel) rfl, ?_⟩
  refine List.forall_mem_cons.mpr ⟨mx_ok_getf fd_mm_16 (show decode b_mm_get 20 = .ok (.getfield 16, 3) by decide +kernel), ?_⟩
  refine List.forall_mem_cons.mpr ⟨mx_ok_iload_n (show decode b_mm_get 23 = .ok (.iload_n 1, 1) by decide +kernel) rfl, ?_⟩
  refine List.forall_mem_cons.mpr ⟨mx_ok_iald (show decode b_mm_get 24 = .ok (.iaload, 1) by decide +kernel), ?_⟩
  refine List.forall_mem_cons.mpr ⟨mx_ok_iret (show decode b_mm_get 25 = .ok (.ireturn, 1) by decide +kernel) rfl, ?_⟩
  exact fun _ h => absurd h List.not_mem_nil
set_option maxRecDepth 100000 in
set_option maxHeartbeats 4000000 in
theorem ct_mm_get (l : Launch) : mx_Ct l vw_T vw_cl km { frames := 0, cells := 0, slots := 0, locals := 0 } y_mm_get b_mm_get 2 (some .int) pre_mm_get fn_mm_get := by
  refine mx_ct_of (tb_mm_get ) (by decide) (ok_mm_get l ) (fun as u h => by obtain ⟨_, rfl, -⟩ := h; exact Nat.le_of_ble_eq_true rfl) ?_
  intro as u hpre At hc hw
  obtain ⟨a1, rfl, hp⟩ := hpre
  obtain ⟨RES, hRES⟩ : ∃ z, z = (mm_get_b a1 u) := ⟨_, rfl⟩
  have hfn : fn_mm_get [.inr (.inr 0), .inl a1] u = mx_rB RES := by
    show ((some (.inl (mm_get a1 u)), (mm_get_s a1 u)) : Option mx_V × mx_S) = _
    rw [hRES, mm_get_eq, mm_get_s_eq]
    rfl
  rw [hfn] at hc
  exact hc 200 [] _ _ _ _ (
    And.intro rfl (
    And.intro (fun h6 => 
     congrArg mx_rB (show (0, (mx_sf u 0 0 0)) = RES from (if_pos h6).symm.trans hRES.symm)) (fun h6 => 
     And.intro (fun h12 => 
      And.intro (((hp.2 h6).1 h12)) (
      congrArg mx_rB (show ((mx_ga (mx_sf u 0 0 0) 3 (a1).toNatClampNeg), (mx_sf u 0 0 0)) = RES from ((if_neg h6).trans (if_pos h12)).symm.trans hRES.symm))) (fun h12 => 
      congrArg mx_rB (show (0, (mx_sf u 0 0 0)) = RES from ((if_neg h6).trans (if_neg h12)).symm.trans hRES.symm)))))
/-! WideMachineModel.about(I)I -/
noncomputable def mm_about_b (a1 : Int32) (u : mx_S) : Int32 × mx_S :=
  if a1 = 0 then
   ((mx_gf (mx_sf u 0 0 0) 0 6), (mx_sf u 0 0 0))
  else
  if a1 = 1 then
   ((mx_gf (mx_sf u 0 0 0) 0 7), (mx_sf u 0 0 0))
  else
  if a1 = 2 then
   ((mx_gf (mx_sf u 0 0 0) 0 8), (mx_sf u 0 0 0))
  else
  if a1 = 3 then
   ((mx_gf (mx_sf u 0 0 0) 0 13), (mx_sf u 0 0 0))
  else
  if a1 = 4 then
   ((mx_gf (mx_sf u 0 0 0) 0 17), (mx_sf u 0 0 0))
  else
  if a1 = 5 then
   ((mx_gf (mx_sf u 0 0 0) 0 9), (mx_sf u 0 0 0))
  else
  if a1 = 6 then
   ((mx_gf (mx_sf u 0 0 0) 0 10), (mx_sf u 0 0 0))
  else
  if a1 = 7 then
   if (mx_gf (mx_sf u 0 0 0) 0 11) = 0 then
    (0, (mx_sf u 0 0 0))
   else
    (1, (mx_sf u 0 0 0))
  else
  if a1 = 8 then
   ((mx_gf (mx_sf u 0 0 0) 0 12), (mx_sf u 0 0 0))
  else
  ((-1), (mx_sf u 0 0 0))
theorem mm_about_ex : ∃ f : Int32 → mx_S → Int32, f = (fun a1 u => (mm_about_b a1 u).1) := ⟨_, rfl⟩
noncomputable def mm_about : Int32 → mx_S → Int32 := Classical.choose mm_about_ex
theorem mm_about_eq (a1 : Int32) (u : mx_S) : (mm_about a1 u) = (mm_about_b a1 u).1 := by rw [show mm_about = (fun a1 u => (mm_about_b a1 u).1) from Classical.choose_spec mm_about_ex]
theorem mm_about_s_ex : ∃ f : Int32 → mx_S → mx_S, f = (fun a1 u => (mm_about_b a1 u).2) := ⟨_, rfl⟩
noncomputable def mm_about_s : Int32 → mx_S → mx_S := Classical.choose mm_about_s_ex
theorem mm_about_s_eq (a1 : Int32) (u : mx_S) : (mm_about_s a1 u) = (mm_about_b a1 u).2 := by rw [show mm_about_s = (fun a1 u => (mm_about_b a1 u).2) from Classical.choose_spec mm_about_s_ex]
def pre_mm_about : List mx_V → mx_S → Prop := fun as u => ∃ (a1 : Int32), as = [.inr (.inr 0), .inl a1] ∧ True
noncomputable def fn_mm_about : mx_F := fun as u => match as with
  | [_, .inl a1] => (some (.inl (mm_about a1 u)), (mm_about_s a1 u))
  | _ => (none, u)
noncomputable def tb_mm_about : List (Nat × mx_T) := [
  (0, mx_aload_n 0 0),
  (1, mx_iconst 0 1),
  (2, mx_putf km 3 0 2),
  (5, mx_iload_n 1 5),
  (6, mx_tsw 109 [(0, 56), (1, 61), (2, 66), (3, 71), (4, 76), (5, 81), (6, 86), (7, 91), (8, 104)] 6),
  (56, mx_aload_n 0 56),
  (57, mx_getf km 3 6 57),
  (60, mx_iret 60),
  (61, mx_aload_n 0 61),
  (62, mx_getf km 3 7 62),
  (65, mx_iret 65),
  (66, mx_aload_n 0 66),
  (67, mx_getf km 3 8 67),
  (70, mx_iret 70),
  (71, mx_aload_n 0 71),
  (72, mx_getf km 3 13 72),
  (75, mx_iret 75),
  (76, mx_aload_n 0 76),
  (77, mx_getf km 3 17 77),
  (80, mx_iret 80),
  (81, mx_aload_n 0 81),
  (82, mx_getf km 3 9 82),
  (85, mx_iret 85),
  (86, mx_aload_n 0 86),
  (87, mx_getf km 3 10 87),
  (90, mx_iret 90),
  (91, mx_aload_n 0 91),
  (92, mx_getf km 3 11 92),
  (95, mx_if_eq 102 95),
  (98, mx_iconst 1 98),
  (99, mx_goto 103 99),
  (102, mx_iconst 0 102),
  (103, mx_iret 103),
  (104, mx_aload_n 0 104),
  (105, mx_getf km 3 12 105),
  (108, mx_iret 108),
  (109, mx_iconst (-1) 109),
  (110, mx_iret 110)]
set_option maxRecDepth 100000 in
set_option maxHeartbeats 4000000 in
theorem ok_mm_about (l : Launch) : ∀ q ∈ tb_mm_about , mx_Ok l ({ frames := 0, cells := 0, slots := 0, locals := 0 } : Room) b_mm_about 2 "WideMachineModel" (some .int) vw_T vw_cl km q.1 q.2 := by
  refine List.forall_mem_cons.mpr ⟨mx_ok_aload_n (show decode b_mm_about 0 = .ok (.aload_n 0, 1) by decide +kernel) rfl, ?_⟩
  refine List.forall_mem_cons.mpr ⟨mx_ok_iconst (show decode b_mm_about 1 = .ok (.iconst 0, 1) by decide +kernel) (by decide), ?_⟩
  refine List.forall_mem_cons.mpr ⟨mx_ok_putf fd_mm_47 fw_3_0 (show decode b_mm_about 2 = .ok (.putfield 47, 3) by decide +kernel), ?_⟩
  refine List.forall_mem_cons.mpr ⟨mx_ok_iload_n (show decode b_mm_about 5 = .ok (.iload_n 1, 1) by decide +kernel) rfl, ?_⟩
  refine List.forall_mem_cons.mpr ⟨mx_ok_tsw (show decode b_mm_about 6 = .ok (.tableswitch 103 0 8 #[50, 55, 60, 65, 70, 75, 80, 85, 98], 50) by decide +kernel) (by decide) (by decide), ?_⟩
  refine List.forall_mem_cons.mpr ⟨mx_ok_aload_n (show decode b_mm_about 56 = .ok (.aload_n 0, 1) by decide +kernel) rfl, ?_⟩
  refine List.forall_mem_cons.mpr ⟨mx_ok_getf fd_mm_50 (show decode b_mm_about 57 = .ok (.getfield 50, 3) by decide +kernel), ?_⟩
  refine List.forall_mem_cons.mpr ⟨mx_ok_iret (show decode b_mm_about 60 = .ok (.ireturn, 1) by decide +kernel) rfl, ?_⟩
  refine List.forall_mem_cons.mpr ⟨mx_ok_aload_n (show decode b_mm_about 61 = .ok (.aload_n 0, 1) by decide +kernel) rfl, ?_⟩
  refine List.forall_mem_cons.mpr ⟨mx_ok_getf fd_mm_53 (show decode b_mm_about 62 = .ok (.getfield 53, 3) by decide +kernel), ?_⟩
  refine List.forall_mem_cons.mpr ⟨mx_ok_iret (show decode b_mm_about 65 = .ok (.ireturn, 1) by decide +kernel) rfl, ?_⟩
  refine List.forall_mem_cons.mpr ⟨mx_ok_aload_n (show decode b_mm_about 66 = .ok (.aload_n 0, 1) by decide +kernel) rfl, ?_⟩
  refine List.forall_mem_cons.mpr ⟨mx_ok_getf fd_mm_56 (show decode b_mm_about 67 = .ok (.getfield 56, 3) by decide +kernel), ?_⟩
  refine List.forall_mem_cons.mpr ⟨mx_ok_iret (show decode b_mm_about 70 = .ok (.ireturn, 1) by decide +kernel) rfl, ?_⟩
  refine List.forall_mem_cons.mpr ⟨mx_ok_aload_n (show decode b_mm_about 71 = .ok (.aload_n 0, 1) by decide +kernel) rfl, ?_⟩
  refine List.forall_mem_cons.mpr ⟨mx_ok_getf fd_mm_59 (show decode b_mm_about 72 = .ok (.getfield 59, 3) by decide +kernel), ?_⟩
  refine List.forall_mem_cons.mpr ⟨mx_ok_iret (show decode b_mm_about 75 = .ok (.ireturn, 1) by decide +kernel) rfl, ?_⟩
  refine List.forall_mem_cons.mpr ⟨mx_ok_aload_n (show decode b_mm_about 76 = .ok (.aload_n 0, 1) by decide +kernel) rfl, ?_⟩
  refine List.forall_mem_cons.mpr ⟨mx_ok_getf fd_mm_62 (show decode b_mm_about 77 = .ok (.getfield 62, 3) by decide +kernel), ?_⟩
  refine List.forall_mem_cons.mpr ⟨mx_ok_iret (show decode b_mm_about 80 = .ok (.ireturn, 1) by decide +kernel) rfl, ?_⟩
  refine List.forall_mem_cons.mpr ⟨mx_ok_aload_n (show decode b_mm_about 81 = .ok (.aload_n 0, 1) by decide +kernel) rfl, ?_⟩
  refine List.forall_mem_cons.mpr ⟨mx_ok_getf fd_mm_65 (show decode b_mm_about 82 = .ok (.getfield 65, 3) by decide +kernel), ?_⟩
  refine List.forall_mem_cons.mpr ⟨mx_ok_iret (show decode b_mm_about 85 = .ok (.ireturn, 1) by decide +kernel) rfl, ?_⟩
  refine List.forall_mem_cons.mpr ⟨mx_ok_aload_n (show decode b_mm_about 86 = .ok (.aload_n 0, 1) by decide +kernel) rfl, ?_⟩
  refine List.forall_mem_cons.mpr ⟨mx_ok_getf fd_mm_68 (show decode b_mm_about 87 = .ok (.getfield 68, 3) by decide +kernel), ?_⟩
  refine List.forall_mem_cons.mpr ⟨mx_ok_iret (show decode b_mm_about 90 = .ok (.ireturn, 1) by decide +kernel) rfl, ?_⟩
  refine List.forall_mem_cons.mpr ⟨mx_ok_aload_n (show decode b_mm_about 91 = .ok (.aload_n 0, 1) by decide +kernel) rfl, ?_⟩
  refine List.forall_mem_cons.mpr ⟨mx_ok_getf fd_mm_71 (show decode b_mm_about 92 = .ok (.getfield 71, 3) by decide +kernel), ?_⟩
  refine List.forall_mem_cons.mpr ⟨mx_ok_if_eq (show decode b_mm_about 95 = .ok (.ifCond .eq 7, 3) by decide +kernel) (by decide), ?_⟩
  refine List.forall_mem_cons.mpr ⟨mx_ok_iconst (show decode b_mm_about 98 = .ok (.iconst 1, 1) by decide +kernel) (by decide), ?_⟩
  refine List.forall_mem_cons.mpr ⟨mx_ok_goto (show decode b_mm_about 99 = .ok (.goto 4, 3) by decide +kernel) (by decide), ?_⟩
  refine List.forall_mem_cons.mpr ⟨mx_ok_iconst (show decode b_mm_about 102 = .ok (.iconst 0, 1) by decide +kernel) (by decide), ?_⟩
  refine List.forall_mem_cons.mpr ⟨mx_ok_iret (show decode b_mm_about 103 = .ok (.ireturn, 1) by decide +kernel) rfl, ?_⟩
  refine List.forall_mem_cons.mpr ⟨mx_ok_aload_n (show decode b_mm_about 104 = .ok (.aload_n 0, 1) by decide +kernel) rfl, ?_⟩
  refine List.forall_mem_cons.mpr ⟨mx_ok_getf fd_mm_75 (show decode b_mm_about 105 = .ok (.getfield 75, 3) by decide +kernel), ?_⟩
  refine List.forall_mem_cons.mpr ⟨mx_ok_iret (show decode b_mm_about 108 = .ok (.ireturn, 1) by decide +kernel) rfl, ?_⟩
  refine List.forall_mem_cons.mpr ⟨mx_ok_iconst (show decode b_mm_about 109 = .ok (.iconst (-1), 1) by decide +kernel) (by decide), ?_⟩
  refine List.forall_mem_cons.mpr ⟨mx_ok_iret (show decode b_mm_about 110 = .ok (.ireturn, 1) by decide +kernel) rfl, ?_⟩
  exact fun _ h => absurd h List.not_mem_nil
set_option maxRecDepth 100000 in
set_option maxHeartbeats 4000000 in
theorem ct_mm_about (l : Launch) : mx_Ct l vw_T vw_cl km { frames := 0, cells := 0, slots := 0, locals := 0 } y_mm_about b_mm_about 2 (some .int) pre_mm_about fn_mm_about := by
  refine mx_ct_of (tb_mm_about ) (by decide) (ok_mm_about l ) (fun as u h => by obtain ⟨_, rfl, -⟩ := h; exact Nat.le_of_ble_eq_true rfl) ?_
  intro as u hpre At hc hw
  obtain ⟨a1, rfl, hp⟩ := hpre
  obtain ⟨RES, hRES⟩ : ∃ z, z = (mm_about_b a1 u) := ⟨_, rfl⟩
  have hfn : fn_mm_about [.inr (.inr 0), .inl a1] u = mx_rB RES := by
    show ((some (.inl (mm_about a1 u)), (mm_about_s a1 u)) : Option mx_V × mx_S) = _
    rw [hRES, mm_about_eq, mm_about_s_eq]
    rfl
  rw [hfn] at hc
  exact hc 200 [] _ _ _ _ (
    And.intro rfl (
    And.intro (fun h6_0 => 
     congrArg mx_rB (show ((mx_gf (mx_sf u 0 0 0) 0 6), (mx_sf u 0 0 0)) = RES from (if_pos h6_0).symm.trans hRES.symm)) (fun h6_0 => 
    And.intro (fun h6_1 => 
     congrArg mx_rB (show ((mx_gf (mx_sf u 0 0 0) 0 7), (mx_sf u 0 0 0)) = RES from ((if_neg h6_0).trans (if_pos h6_1)).symm.trans hRES.symm)) (fun h6_1 => 
    And.intro (fun h6_2 => 
     congrArg mx_rB (show ((mx_gf (mx_sf u 0 0 0) 0 8), (mx_sf u 0 0 0)) = RES from ((if_neg h6_0).trans ((if_neg h6_1).trans (if_pos h6_2))).symm.trans hRES.symm)) (fun h6_2 => 
    And.intro (fun h6_3 => 
     congrArg mx_rB (show ((mx_gf (mx_sf u 0 0 0) 0 13), (mx_sf u 0 0 0)) = RES from ((if_neg h6_0).trans ((if_neg h6_1).trans ((if_neg h6_2).trans (if_pos h6_3)))).symm.trans hRES.symm)) (fun h6_3 => 
    And.intro (fun h6_4 => 
     congrArg mx_rB (show ((mx_gf (mx_sf u 0 0 0) 0 17), (mx_sf u 0 0 0)) = RES from ((if_neg h6_0).trans ((if_neg h6_1).trans ((if_neg h6_2).trans ((if_neg h6_3).trans (if_pos h6_4))))).symm.trans hRES.symm)) (fun h6_4 => 
    And.intro (fun h6_5 => 
     congrArg mx_rB (show ((mx_gf (mx_sf u 0 0 0) 0 9), (mx_sf u 0 0 0)) = RES from ((if_neg h6_0).trans ((if_neg h6_1).trans ((if_neg h6_2).trans ((if_neg h6_3).trans ((if_neg h6_4).trans (if_pos h6_5)))))).symm.trans hRES.symm)) (fun h6_5 => 
    And.intro (fun h6_6 => 
     congrArg mx_rB (show ((mx_gf (mx_sf u 0 0 0) 0 10), (mx_sf u 0 0 0)) = RES from ((if_neg h6_0).trans ((if_neg h6_1).trans ((if_neg h6_2).trans ((if_neg h6_3).trans ((if_neg h6_4).trans ((if_neg h6_5).trans (if_pos h6_6))))))).symm.trans hRES.symm)) (fun h6_6 => 
    And.intro (fun h6_7 => 
     And.intro (fun h95 => 
      congrArg mx_rB (show (0, (mx_sf u 0 0 0)) = RES from ((if_neg h6_0).trans ((if_neg h6_1).trans ((if_neg h6_2).trans ((if_neg h6_3).trans ((if_neg h6_4).trans ((if_neg h6_5).trans ((if_neg h6_6).trans ((if_pos h6_7).trans (if_pos h95))))))))).symm.trans hRES.symm)) (fun h95 => 
      congrArg mx_rB (show (1, (mx_sf u 0 0 0)) = RES from ((if_neg h6_0).trans ((if_neg h6_1).trans ((if_neg h6_2).trans ((if_neg h6_3).trans ((if_neg h6_4).trans ((if_neg h6_5).trans ((if_neg h6_6).trans ((if_pos h6_7).trans (if_neg h95))))))))).symm.trans hRES.symm))) (fun h6_7 => 
    And.intro (fun h6_8 => 
     congrArg mx_rB (show ((mx_gf (mx_sf u 0 0 0) 0 12), (mx_sf u 0 0 0)) = RES from ((if_neg h6_0).trans ((if_neg h6_1).trans ((if_neg h6_2).trans ((if_neg h6_3).trans ((if_neg h6_4).trans ((if_neg h6_5).trans ((if_neg h6_6).trans ((if_neg h6_7).trans (if_pos h6_8))))))))).symm.trans hRES.symm)) (fun h6_8 => 
     congrArg mx_rB (show ((-1), (mx_sf u 0 0 0)) = RES from ((if_neg h6_0).trans ((if_neg h6_1).trans ((if_neg h6_2).trans ((if_neg h6_3).trans ((if_neg h6_4).trans ((if_neg h6_5).trans ((if_neg h6_6).trans ((if_neg h6_7).trans (if_neg h6_8))))))))).symm.trans hRES.symm))))))))))))
/-! WideMachineModel.due(II)I -/
noncomputable def mm_due_b (a1 : Int32) (a2 : Int32) (u : mx_S) : Int32 × mx_S :=
  if a1 < 0 then
   ((-1), (mx_sf u 0 0 0))
  else
   if a1 < (mx_gf (mx_sf u 0 0 0) 0 13) then
    if a2 = 0 then
     ((mx_ga (mx_sf u 0 0 0) 4 (a1).toNatClampNeg), (mx_sf u 0 0 0))
    else
     if a2 = 1 then
      ((mx_ga (mx_sf u 0 0 0) 5 (a1).toNatClampNeg), (mx_sf u 0 0 0))
     else
      if a2 = 2 then
       (((mx_ga (mx_sf u 0 0 0) 6 (a1).toNatClampNeg) - (mx_gf (mx_sf u 0 0 0) 0 8)), (mx_sf u 0 0 0))
      else
       ((-1), (mx_sf u 0 0 0))
   else
    ((-1), (mx_sf u 0 0 0))
theorem mm_due_ex : ∃ f : Int32 → Int32 → mx_S → Int32, f = (fun a1 a2 u => (mm_due_b a1 a2 u).1) := ⟨_, rfl⟩
noncomputable def mm_due : Int32 → Int32 → mx_S → Int32 := Classical.choose mm_due_ex
theorem mm_due_eq (a1 : Int32) (a2 : Int32) (u : mx_S) : (mm_due a1 a2 u) = (mm_due_b a1 a2 u).1 := by rw [show mm_due = (fun a1 a2 u => (mm_due_b a1 a2 u).1) from Classical.choose_spec mm_due_ex]
theorem mm_due_s_ex : ∃ f : Int32 → Int32 → mx_S → mx_S, f = (fun a1 a2 u => (mm_due_b a1 a2 u).2) := ⟨_, rfl⟩
noncomputable def mm_due_s : Int32 → Int32 → mx_S → mx_S := Classical.choose mm_due_s_ex
theorem mm_due_s_eq (a1 : Int32) (a2 : Int32) (u : mx_S) : (mm_due_s a1 a2 u) = (mm_due_b a1 a2 u).2 := by rw [show mm_due_s = (fun a1 a2 u => (mm_due_b a1 a2 u).2) from Classical.choose_spec mm_due_s_ex]
def q_mm_due (a1 : Int32) (a2 : Int32) (u : mx_S) : Prop :=
  ((a1 < 0) → 
   True) ∧ ((¬ (a1 < 0)) → 
   ((a1 < (mx_gf (mx_sf u 0 0 0) 0 13)) → 
    ((¬ (a2 = 0)) → 
     ((¬ (a2 = 1)) → 
      ((¬ (a2 = 2)) → 
       True) ∧ ((a2 = 2) → 
       (vp_in a1 64))) ∧ ((a2 = 1) → 
      (vp_in a1 64))) ∧ ((a2 = 0) → 
     (vp_in a1 64))) ∧ ((¬ (a1 < (mx_gf (mx_sf u 0 0 0) 0 13))) → 
    True))
def pre_mm_due : List mx_V → mx_S → Prop := fun as u => ∃ (a1 : Int32) (a2 : Int32), as = [.inr (.inr 0), .inl a1, .inl a2] ∧ q_mm_due a1 a2 u
noncomputable def fn_mm_due : mx_F := fun as u => match as with
  | [_, .inl a1, .inl a2] => (some (.inl (mm_due a1 a2 u)), (mm_due_s a1 a2 u))
  | _ => (none, u)
noncomputable def tb_mm_due : List (Nat × mx_T) := [
  (0, mx_aload_n 0 0),
  (1, mx_iconst 0 1),
  (2, mx_putf km 3 0 2),
  (5, mx_iload_n 1 5),
  (6, mx_if_lt 17 6),
  (9, mx_iload_n 1 9),
  (10, mx_aload_n 0 10),
  (11, mx_getf km 3 13 11),
  (14, mx_icmp_lt 19 14),
  (17, mx_iconst (-1) 17),
  (18, mx_iret 18),
  (19, mx_iload_n 2 19),
  (20, mx_if_ne 32 20),
  (23, mx_aload_n 0 23),
  (24, mx_getf km 3 14 24),
  (27, mx_iload_n 1 27),
  (28, mx_iald km 28),
  (29, mx_goto 66 29),
  (32, mx_iload_n 2 32),
  (33, mx_iconst 1 33),
  (34, mx_icmp_ne 46 34),
  (37, mx_aload_n 0 37),
  (38, mx_getf km 3 15 38),
  (41, mx_iload_n 1 41),
  (42, mx_iald km 42),
  (43, mx_goto 66 43),
  (46, mx_iload_n 2 46),
  (47, mx_iconst 2 47),
  (48, mx_icmp_ne 65 48),
  (51, mx_aload_n 0 51),
  (52, mx_getf km 3 16 52),
  (55, mx_iload_n 1 55),
  (56, mx_iald km 56),
  (57, mx_aload_n 0 57),
  (58, mx_getf km 3 8 58),
  (61, mx_isub 61),
  (62, mx_goto 66 62),
  (65, mx_iconst (-1) 65),
  (66, mx_iret 66)]
set_option maxRecDepth 100000 in
set_option maxHeartbeats 4000000 in
theorem ok_mm_due (l : Launch) : ∀ q ∈ tb_mm_due , mx_Ok l ({ frames := 0, cells := 0, slots := 0, locals := 0 } : Room) b_mm_due 3 "WideMachineModel" (some .int) vw_T vw_cl km q.1 q.2 := by
  refine List.forall_mem_cons.mpr ⟨mx_ok_aload_n (show decode b_mm_due 0 = .ok (.aload_n 0, 1) by decide +kernel) rfl, ?_⟩
  refine List.forall_mem_cons.mpr ⟨mx_ok_iconst (show decode b_mm_due 1 = .ok (.iconst 0, 1) by decide +kernel) (by decide), ?_⟩
  refine List.forall_mem_cons.mpr ⟨mx_ok_putf fd_mm_47 fw_3_0 (show decode b_mm_due 2 = .ok (.putfield 47, 3) by decide +kernel), ?_⟩
  refine List.forall_mem_cons.mpr ⟨mx_ok_iload_n (show decode b_mm_due 5 = .ok (.iload_n 1, 1) by decide +kernel) rfl, ?_⟩
  refine List.forall_mem_cons.mpr ⟨mx_ok_if_lt (show decode b_mm_due 6 = .ok (.ifCond .lt 11, 3) by decide +kernel) (by decide), ?_⟩
  refine List.forall_mem_cons.mpr ⟨mx_ok_iload_n (show decode b_mm_due 9 = .ok (.iload_n 1, 1) by decide +kernel) rfl, ?_⟩
  refine List.forall_mem_cons.mpr ⟨mx_ok_aload_n (show decode b_mm_due 10 = .ok (.aload_n 0, 1) by decide +kernel) rfl, ?_⟩
  refine List.forall_mem_cons.mpr ⟨mx_ok_getf fd_mm_59 (show decode b_mm_due 11 = .ok (.getfield 59, 3) by decide +kernel), ?_⟩
  refine List.forall_mem_cons.mpr ⟨mx_ok_icmp_lt (show decode b_mm_due 14 = .ok (.if_icmp .lt 5, 3) by decide +kernel) (by decide), ?_⟩
  refine List.forall_mem_cons.mpr ⟨mx_ok_iconst (show decode b_mm_due 17 = .ok (.iconst (-1), 1) by decide +kernel) (by decide), ?_⟩
  refine List.forall_mem_cons.mpr ⟨mx_ok_iret (show decode b_mm_due 18 = .ok (.ireturn, 1) by decide +kernel) rfl, ?_⟩
  refine List.forall_mem_cons.mpr ⟨mx_ok_iload_n (show decode b_mm_due 19 = .ok (.iload_n 2, 1) by decide +kernel) rfl, ?_⟩
  refine List.forall_mem_cons.mpr ⟨mx_ok_if_ne (show decode b_mm_due 20 = .ok (.ifCond .ne 12, 3) by decide +kernel) (by decide), ?_⟩
  refine List.forall_mem_cons.mpr ⟨mx_ok_aload_n (show decode b_mm_due 23 = .ok (.aload_n 0, 1) by decide +kernel) rfl, ?_⟩
  refine List.forall_mem_cons.mpr ⟨mx_ok_getf fd_mm_19 (show decode b_mm_due 24 = .ok (.getfield 19, 3) by decide +kernel), ?_⟩
  refine List.forall_mem_cons.mpr ⟨mx_ok_iload_n (show decode b_mm_due 27 = .ok (.iload_n 1, 1) by decide +kernel) rfl, ?_⟩
  refine List.forall_mem_cons.mpr ⟨mx_ok_iald (show decode b_mm_due 28 = .ok (.iaload, 1) by decide +kernel), ?_⟩
  refine List.forall_mem_cons.mpr ⟨mx_ok_goto (show decode b_mm_due 29 = .ok (.goto 37, 3) by decide +kernel) (by decide), ?_⟩
  refine List.forall_mem_cons.mpr ⟨mx_ok_iload_n (show decode b_mm_due 32 = .ok (.iload_n 2, 1) by decide +kernel) rfl, ?_⟩
  refine List.forall_mem_cons.mpr ⟨mx_ok_iconst (show decode b_mm_due 33 = .ok (.iconst 1, 1) by decide +kernel) (by decide), ?_⟩
  refine List.forall_mem_cons.mpr ⟨mx_ok_icmp_ne (show decode b_mm_due 34 = .ok (.if_icmp .ne 12, 3) by decide +kernel) (by decide), ?_⟩
  refine List.forall_mem_cons.mpr ⟨mx_ok_aload_n (show decode b_mm_due 37 = .ok (.aload_n 0, 1) by decide +kernel) rfl, ?_⟩
  refine List.forall_mem_cons.mpr ⟨mx_ok_getf fd_mm_22 (show decode b_mm_due 38 = .ok (.getfield 22, 3) by decide +kernel), ?_⟩
  refine List.forall_mem_cons.mpr ⟨mx_ok_iload_n (show decode b_mm_due 41 = .ok (.iload_n 1, 1) by decide +kernel) rfl, ?_⟩
  refine List.forall_mem_cons.mpr ⟨mx_ok_iald (show decode b_mm_due 42 = .ok (.iaload, 1) by decide +kernel), ?_⟩
  refine List.forall_mem_cons.mpr ⟨mx_ok_goto (show decode b_mm_due 43 = .ok (.goto 23, 3) by decide +kernel) (by decide), ?_⟩
  refine List.forall_mem_cons.mpr ⟨mx_ok_iload_n (show decode b_mm_due 46 = .ok (.iload_n 2, 1) by decide +kernel) rfl, ?_⟩
  refine List.forall_mem_cons.mpr ⟨mx_ok_iconst (show decode b_mm_due 47 = .ok (.iconst 2, 1) by decide +kernel) (by decide), ?_⟩
  refine List.forall_mem_cons.mpr ⟨mx_ok_icmp_ne (show decode b_mm_due 48 = .ok (.if_icmp .ne 17, 3) by decide +kernel) (by decide), ?_⟩
  refine List.forall_mem_cons.mpr ⟨mx_ok_aload_n (show decode b_mm_due 51 = .ok (.aload_n 0, 1) by decide +kernel) rfl, ?_⟩
  refine List.forall_mem_cons.mpr ⟨mx_ok_getf fd_mm_25 (show decode b_mm_due 52 = .ok (.getfield 25, 3) by decide +kernel), ?_⟩
  refine List.forall_mem_cons.mpr ⟨mx_ok_iload_n (show decode b_mm_due 55 = .ok (.iload_n 1, 1) by decide +kernel) rfl, ?_⟩
  refine List.forall_mem_cons.mpr ⟨mx_ok_iald (show decode b_mm_due 56 = .ok (.iaload, 1) by decide +kernel), ?_⟩
  refine List.forall_mem_cons.mpr ⟨mx_ok_aload_n (show decode b_mm_due 57 = .ok (.aload_n 0, 1) by decide +kernel) rfl, ?_⟩
  refine List.forall_mem_cons.mpr ⟨mx_ok_getf fd_mm_56 (show decode b_mm_due 58 = .ok (.getfield 56, 3) by decide +kernel), ?_⟩
  refine List.forall_mem_cons.mpr ⟨mx_ok_isub (show decode b_mm_due 61 = .ok (.isub, 1) by decide +kernel), ?_⟩
  refine List.forall_mem_cons.mpr ⟨mx_ok_goto (show decode b_mm_due 62 = .ok (.goto 4, 3) by decide +kernel) (by decide), ?_⟩
  refine List.forall_mem_cons.mpr ⟨mx_ok_iconst (show decode b_mm_due 65 = .ok (.iconst (-1), 1) by decide +kernel) (by decide), ?_⟩
  refine List.forall_mem_cons.mpr ⟨mx_ok_iret (show decode b_mm_due 66 = .ok (.ireturn, 1) by decide +kernel) rfl, ?_⟩
  exact fun _ h => absurd h List.not_mem_nil
set_option maxRecDepth 100000 in
set_option maxHeartbeats 4000000 in
theorem ct_mm_due (l : Launch) : mx_Ct l vw_T vw_cl km { frames := 0, cells := 0, slots := 0, locals := 0 } y_mm_due b_mm_due 3 (some .int) pre_mm_due fn_mm_due := by
  refine mx_ct_of (tb_mm_due ) (by decide) (ok_mm_due l ) (fun as u h => by obtain ⟨_, _, rfl, -⟩ := h; exact Nat.le_of_ble_eq_true rfl) ?_
  intro as u hpre At hc hw
  obtain ⟨a1, a2, rfl, hp⟩ := hpre
  obtain ⟨RES, hRES⟩ : ∃ z, z = (mm_due_b a1 a2 u) := ⟨_, rfl⟩
  have hfn : fn_mm_due [.inr (.inr 0), .inl a1, .inl a2] u = mx_rB RES := by
    show ((some (.inl (mm_due a1 a2 u)), (mm_due_s a1 a2 u)) : Option mx_V × mx_S) = _
    rw [hRES, mm_due_eq, mm_due_s_eq]
    rfl
  rw [hfn] at hc
  exact hc 200 [] _ _ _ _ (
    And.intro rfl (
    And.intro (fun h6 => 
     congrArg mx_rB (show ((-1), (mx_sf u 0 0 0)) = RES from (if_pos h6).symm.trans hRES.symm)) (fun h6 => 
     And.intro (fun h14 => 
      And.intro (fun h20 => 
       And.intro (fun h34 => 
        And.intro (fun h48 => 
         congrArg mx_rB (show ((-1), (mx_sf u 0 0 0)) = RES from ((if_neg h6).trans ((if_pos h14).trans ((if_neg h20).trans ((if_neg h34).trans (if_neg h48))))).symm.trans hRES.symm)) (fun h48 => 
         And.intro ((((((hp.2 h6).1 h14).1 h20).1 h34).2 h48)) (
         congrArg mx_rB (show (((mx_ga (mx_sf u 0 0 0) 6 (a1).toNatClampNeg) - (mx_gf (mx_sf u 0 0 0) 0 8)), (mx_sf u 0 0 0)) = RES from ((if_neg h6).trans ((if_pos h14).trans ((if_neg h20).trans ((if_neg h34).trans (if_pos h48))))).symm.trans hRES.symm)))) (fun h34 => 
        And.intro (((((hp.2 h6).1 h14).1 h20).2 h34)) (
        congrArg mx_rB (show ((mx_ga (mx_sf u 0 0 0) 5 (a1).toNatClampNeg), (mx_sf u 0 0 0)) = RES from ((if_neg h6).trans ((if_pos h14).trans ((if_neg h20).trans (if_pos h34)))).symm.trans hRES.symm)))) (fun h20 => 
       And.intro ((((hp.2 h6).1 h14).2 h20)) (
       congrArg mx_rB (show ((mx_ga (mx_sf u 0 0 0) 4 (a1).toNatClampNeg), (mx_sf u 0 0 0)) = RES from ((if_neg h6).trans ((if_pos h14).trans (if_pos h20))).symm.trans hRES.symm)))) (fun h14 => 
      congrArg mx_rB (show ((-1), (mx_sf u 0 0 0)) = RES from ((if_neg h6).trans (if_neg h14)).symm.trans hRES.symm)))))
/-! WideMachineModel.raise(I)Z -/
noncomputable def mm_raise_b (a1 : Int32) (u : mx_S) : Int32 × mx_S :=
  if a1 < 0 then
   (0, (mx_sf u 0 0 0))
  else
   if 3 < a1 then
    (0, (mx_sf u 0 0 0))
   else
    if (((mx_gf (mx_sf u 0 0 0) 0 12) >>> (a1 &&& 31)) &&& (1 : Int32)) = 1 then
     (0, (mx_sf u 0 0 0))
    else
     (1, (mx_sf (mx_sf u 0 0 0) 0 12 ((mx_gf (mx_sf u 0 0 0) 0 12) ||| ((1 : Int32) <<< (a1 &&& 31)))))
theorem mm_raise_ex : ∃ f : Int32 → mx_S → Int32, f = (fun a1 u => (mm_raise_b a1 u).1) := ⟨_, rfl⟩
noncomputable def mm_raise : Int32 → mx_S → Int32 := Classical.choose mm_raise_ex
theorem mm_raise_eq (a1 : Int32) (u : mx_S) : (mm_raise a1 u) = (mm_raise_b a1 u).1 := by rw [show mm_raise = (fun a1 u => (mm_raise_b a1 u).1) from Classical.choose_spec mm_raise_ex]
theorem mm_raise_s_ex : ∃ f : Int32 → mx_S → mx_S, f = (fun a1 u => (mm_raise_b a1 u).2) := ⟨_, rfl⟩
noncomputable def mm_raise_s : Int32 → mx_S → mx_S := Classical.choose mm_raise_s_ex
theorem mm_raise_s_eq (a1 : Int32) (u : mx_S) : (mm_raise_s a1 u) = (mm_raise_b a1 u).2 := by rw [show mm_raise_s = (fun a1 u => (mm_raise_b a1 u).2) from Classical.choose_spec mm_raise_s_ex]
def pre_mm_raise : List mx_V → mx_S → Prop := fun as u => ∃ (a1 : Int32), as = [.inr (.inr 0), .inl a1] ∧ True
noncomputable def fn_mm_raise : mx_F := fun as u => match as with
  | [_, .inl a1] => (some (.inl (mm_raise a1 u)), (mm_raise_s a1 u))
  | _ => (none, u)
noncomputable def tb_mm_raise : List (Nat × mx_T) := [
  (0, mx_aload_n 0 0),
  (1, mx_iconst 0 1),
  (2, mx_putf km 3 0 2),
  (5, mx_iload_n 1 5),
  (6, mx_if_lt 26 6),
  (9, mx_iload_n 1 9),
  (10, mx_iconst 3 10),
  (11, mx_icmp_gt 26 11),
  (14, mx_aload_n 0 14),
  (15, mx_getf km 3 12 15),
  (18, mx_iload_n 1 18),
  (19, mx_ishr 19),
  (20, mx_iconst 1 20),
  (21, mx_iand 21),
  (22, mx_iconst 1 22),
  (23, mx_icmp_ne 28 23),
  (26, mx_iconst 0 26),
  (27, mx_zret 27),
  (28, mx_aload_n 0 28),
  (29, mx_dup 29),
  (30, mx_getf km 3 12 30),
  (33, mx_iconst 1 33),
  (34, mx_iload_n 1 34),
  (35, mx_ishl 35),
  (36, mx_ior 36),
  (37, mx_putf km 3 12 37),
  (40, mx_iconst 1 40),
  (41, mx_zret 41)]
set_option maxRecDepth 100000 in
set_option maxHeartbeats 4000000 in
theorem ok_mm_raise (l : Launch) : ∀ q ∈ tb_mm_raise , mx_Ok l ({ frames := 0, cells := 0, slots := 0, locals := 0 } : Room) b_mm_raise 2 "WideMachineModel" (some .boolean) vw_T vw_cl km q.1 q.2 := by
  refine List.forall_mem_cons.mpr ⟨mx_ok_aload_n (show decode b_mm_raise 0 = .ok (.aload_n 0, 1) by decide +kernel) rfl, ?_⟩
  refine List.forall_mem_cons.mpr ⟨mx_ok_iconst (show decode b_mm_raise 1 = .ok (.iconst 0, 1) by decide +kernel) (by decide), ?_⟩
  refine List.forall_mem_cons.mpr ⟨mx_ok_putf fd_mm_47 fw_3_0 (show decode b_mm_raise 2 = .ok (.putfield 47, 3) by decide +kernel), ?_⟩
  refine List.forall_mem_cons.mpr ⟨mx_ok_iload_n (show decode b_mm_raise 5 = .ok (.iload_n 1, 1) by decide +kernel) rfl, ?_⟩
  refine List.forall_mem_cons.mpr ⟨mx_ok_if_lt (show decode b_mm_raise 6 = .ok (.ifCond .lt 20, 3) by decide +kernel) (by decide), ?_⟩
  refine List.forall_mem_cons.mpr ⟨mx_ok_iload_n (show decode b_mm_raise 9 = .ok (.iload_n 1, 1) by decide +kernel) rfl, ?_⟩
  refine List.forall_mem_cons.mpr ⟨mx_ok_iconst (show decode b_mm_raise 10 = .ok (.iconst 3, 1) by decide +kernel) (by decide), ?_⟩
  refine List.forall_mem_cons.mpr ⟨mx_ok_icmp_gt (show decode b_mm_raise 11 = .ok (.if_icmp .gt 15, 3) by decide +kernel) (by decide), ?_⟩
  refine List.forall_mem_cons.mpr ⟨mx_ok_aload_n (show decode b_mm_raise 14 = .ok (.aload_n 0, 1) by decide +kernel) rfl, ?_⟩
  refine List.forall_mem_cons.mpr ⟨mx_ok_getf fd_mm_75 (show decode b_mm_raise 15 = .ok (.getfield 75, 3) by decide +kernel), ?_⟩
  refine List.forall_mem_cons.mpr ⟨mx_ok_iload_n (show decode b_mm_raise 18 = .ok (.iload_n 1, 1) by decide +kernel) rfl, ?_⟩
  refine List.forall_mem_cons.mpr ⟨mx_ok_ishr (show decode b_mm_raise 19 = .ok (.ishr, 1) by decide +kernel), ?_⟩
  refine List.forall_mem_cons.mpr ⟨mx_ok_iconst (show decode b_mm_raise 20 = .ok (.iconst 1, 1) by decide +kernel) (by decide), ?_⟩
  refine List.forall_mem_cons.mpr ⟨mx_ok_iand (show decode b_mm_raise 21 = .ok (.iand, 1) by decide +kernel), ?_⟩
  refine List.forall_mem_cons.mpr ⟨mx_ok_iconst (show decode b_mm_raise 22 = .ok (.iconst 1, 1) by decide +kernel) (by decide), ?_⟩
  refine List.forall_mem_cons.mpr ⟨mx_ok_icmp_ne (show decode b_mm_raise 23 = .ok (.if_icmp .ne 5, 3) by decide +kernel) (by decide), ?_⟩
  refine List.forall_mem_cons.mpr ⟨mx_ok_iconst (show decode b_mm_raise 26 = .ok (.iconst 0, 1) by decide +kernel) (by decide), ?_⟩
  refine List.forall_mem_cons.mpr ⟨mx_ok_zret (show decode b_mm_raise 27 = .ok (.ireturn, 1) by decide +kernel) rfl, ?_⟩
  refine List.forall_mem_cons.mpr ⟨mx_ok_aload_n (show decode b_mm_raise 28 = .ok (.aload_n 0, 1) by decide +kernel) rfl, ?_⟩
  refine List.forall_mem_cons.mpr ⟨mx_ok_dup (show decode b_mm_raise 29 = .ok (.dup, 1) by decide +kernel), ?_⟩
  refine List.forall_mem_cons.mpr ⟨mx_ok_getf fd_mm_75 (show decode b_mm_raise 30 = .ok (.getfield 75, 3) by decide +kernel), ?_⟩
  refine List.forall_mem_cons.mpr ⟨mx_ok_iconst (show decode b_mm_raise 33 = .ok (.iconst 1, 1) by decide +kernel) (by decide), ?_⟩
  refine List.forall_mem_cons.mpr ⟨mx_ok_iload_n (show decode b_mm_raise 34 = .ok (.iload_n 1, 1) by decide +kernel) rfl, ?_⟩
  refine List.forall_mem_cons.mpr ⟨mx_ok_ishl (show decode b_mm_raise 35 = .ok (.ishl, 1) by decide +kernel), ?_⟩
  refine List.forall_mem_cons.mpr ⟨mx_ok_ior (show decode b_mm_raise 36 = .ok (.ior, 1) by decide +kernel), ?_⟩
  refine List.forall_mem_cons.mpr ⟨mx_ok_putf fd_mm_75 fw_3_12 (show decode b_mm_raise 37 = .ok (.putfield 75, 3) by decide +kernel), ?_⟩
  refine List.forall_mem_cons.mpr ⟨mx_ok_iconst (show decode b_mm_raise 40 = .ok (.iconst 1, 1) by decide +kernel) (by decide), ?_⟩
  refine List.forall_mem_cons.mpr ⟨mx_ok_zret (show decode b_mm_raise 41 = .ok (.ireturn, 1) by decide +kernel) rfl, ?_⟩
  exact fun _ h => absurd h List.not_mem_nil
set_option maxRecDepth 100000 in
set_option maxHeartbeats 4000000 in
theorem ct_mm_raise (l : Launch) : mx_Ct l vw_T vw_cl km { frames := 0, cells := 0, slots := 0, locals := 0 } y_mm_raise b_mm_raise 2 (some .boolean) pre_mm_raise fn_mm_raise := by
  refine mx_ct_of (tb_mm_raise ) (by decide) (ok_mm_raise l ) (fun as u h => by obtain ⟨_, rfl, -⟩ := h; exact Nat.le_of_ble_eq_true rfl) ?_
  intro as u hpre At hc hw
  obtain ⟨a1, rfl, hp⟩ := hpre
  obtain ⟨RES, hRES⟩ : ∃ z, z = (mm_raise_b a1 u) := ⟨_, rfl⟩
  have hfn : fn_mm_raise [.inr (.inr 0), .inl a1] u = mx_rB RES := by
    show ((some (.inl (mm_raise a1 u)), (mm_raise_s a1 u)) : Option mx_V × mx_S) = _
    rw [hRES, mm_raise_eq, mm_raise_s_eq]
    rfl
  rw [hfn] at hc
  exact hc 200 [] _ _ _ _ (
    And.intro rfl (
    And.intro (fun h6 => 
     And.intro (Or.inl rfl) (
     congrArg mx_rB (show (0, (mx_sf u 0 0 0)) = RES from (if_pos h6).symm.trans hRES.symm))) (fun h6 => 
     And.intro (fun h11 => 
      And.intro (Or.inl rfl) (
      congrArg mx_rB (show (0, (mx_sf u 0 0 0)) = RES from ((if_neg h6).trans (if_pos h11)).symm.trans hRES.symm))) (fun h11 => 
      And.intro (fun h23 => 
       And.intro rfl (
       And.intro (Or.inr rfl) (
       congrArg mx_rB (show (1, (mx_sf (mx_sf u 0 0 0) 0 12 ((mx_gf (mx_sf u 0 0 0) 0 12) ||| ((1 : Int32) <<< (a1 &&& 31))))) = RES from ((if_neg h6).trans ((if_neg h11).trans (if_neg h23))).symm.trans hRES.symm)))) (fun h23 => 
       And.intro (Or.inl rfl) (
       congrArg mx_rB (show (0, (mx_sf u 0 0 0)) = RES from ((if_neg h6).trans ((if_neg h11).trans (if_pos h23))).symm.trans hRES.symm)))))))
/-! WideMachineModel.letIn(Z)V -/
noncomputable def mm_letIn (a1 : Int32) (u : mx_S) : mx_S :=
  (mx_sf (mx_sf u 0 0 0) 0 11 a1)
def q_mm_letIn (a1 : Int32) (u : mx_S) : Prop :=
  (a1 = 0 ∨ a1 = 1)
def pre_mm_letIn : List mx_V → mx_S → Prop := fun as u => ∃ (a1 : Int32), as = [.inr (.inr 0), .inl a1] ∧ q_mm_letIn a1 u
noncomputable def fn_mm_letIn : mx_F := fun as u => match as with
  | [_, .inl a1] => (none, (mm_letIn a1 u))
  | _ => (none, u)
noncomputable def tb_mm_letIn : List (Nat × mx_T) := [
  (0, mx_aload_n 0 0),
  (1, mx_iconst 0 1),
  (2, mx_putf km 3 0 2),
  (5, mx_aload_n 0 5),
  (6, mx_iload_n 1 6),
  (7, mx_putz km 3 11 7),
  (10, mx_vret 10)]
set_option maxRecDepth 100000 in
set_option maxHeartbeats 4000000 in
theorem ok_mm_letIn (l : Launch) : ∀ q ∈ tb_mm_letIn , mx_Ok l ({ frames := 0, cells := 0, slots := 0, locals := 0 } : Room) b_mm_letIn 2 "WideMachineModel" none vw_T vw_cl km q.1 q.2 := by
  refine List.forall_mem_cons.mpr ⟨mx_ok_aload_n (show decode b_mm_letIn 0 = .ok (.aload_n 0, 1) by decide +kernel) rfl, ?_⟩
  refine List.forall_mem_cons.mpr ⟨mx_ok_iconst (show decode b_mm_letIn 1 = .ok (.iconst 0, 1) by decide +kernel) (by decide), ?_⟩
  refine List.forall_mem_cons.mpr ⟨mx_ok_putf fd_mm_47 fw_3_0 (show decode b_mm_letIn 2 = .ok (.putfield 47, 3) by decide +kernel), ?_⟩
  refine List.forall_mem_cons.mpr ⟨mx_ok_aload_n (show decode b_mm_letIn 5 = .ok (.aload_n 0, 1) by decide +kernel) rfl, ?_⟩
  refine List.forall_mem_cons.mpr ⟨mx_ok_iload_n (show decode b_mm_letIn 6 = .ok (.iload_n 1, 1) by decide +kernel) rfl, ?_⟩
  refine List.forall_mem_cons.mpr ⟨mx_ok_putz fd_mm_71 fw_3_11 (show decode b_mm_letIn 7 = .ok (.putfield 71, 3) by decide +kernel), ?_⟩
  refine List.forall_mem_cons.mpr ⟨mx_ok_vret (show decode b_mm_letIn 10 = .ok (.return_, 1) by decide +kernel) rfl, ?_⟩
  exact fun _ h => absurd h List.not_mem_nil
set_option maxRecDepth 100000 in
set_option maxHeartbeats 4000000 in
theorem ct_mm_letIn (l : Launch) : mx_Ct l vw_T vw_cl km { frames := 0, cells := 0, slots := 0, locals := 0 } y_mm_letIn b_mm_letIn 2 none pre_mm_letIn fn_mm_letIn := by
  refine mx_ct_of (tb_mm_letIn ) (by decide) (ok_mm_letIn l ) (fun as u h => by obtain ⟨_, rfl, -⟩ := h; exact Nat.le_of_ble_eq_true rfl) ?_
  intro as u hpre At hc hw
  obtain ⟨a1, rfl, hp⟩ := hpre
  exact hc 200 [] _ _ _ _ (
    And.intro rfl (
    And.intro rfl (
    And.intro (hp) (
    congrArg (fun z : mx_S => ((none, z) : Option mx_V × mx_S)) (show (mx_sf (mx_sf u 0 0 0) 0 11 a1) = (mm_letIn a1 u) from (rfl).symm)))))
/-! WideMachineModel.start(I)Z -/
noncomputable def mm_start_b (a1 : Int32) (u : mx_S) : Int32 × mx_S :=
  if a1 < 0 then
   (0, (mx_sf u 0 0 0))
  else
   if a1 < (mx_gf (mx_sf u 0 0 0) 0 1) then
    (1, (mx_sf (mx_sf (mx_sf (mx_sf (mx_sf (mx_sf u 0 0 0) 0 6 0) 0 9 0) 0 13 0) 0 17 0) 0 7 a1))
   else
    (0, (mx_sf u 0 0 0))
theorem mm_start_ex : ∃ f : Int32 → mx_S → Int32, f = (fun a1 u => (mm_start_b a1 u).1) := ⟨_, rfl⟩
noncomputable def mm_start : Int32 → mx_S → Int32 := Classical.choose mm_start_ex
theorem mm_start_eq (a1 : Int32) (u : mx_S) : (mm_start a1 u) = (mm_start_b a1 u).1 := by rw [show mm_start = (fun a1 u => (mm_start_b a1 u).1) from Classical.choose_spec mm_start_ex]
theorem mm_start_s_ex : ∃ f : Int32 → mx_S → mx_S, f = (fun a1 u => (mm_start_b a1 u).2) := ⟨_, rfl⟩
noncomputable def mm_start_s : Int32 → mx_S → mx_S := Classical.choose mm_start_s_ex
theorem mm_start_s_eq (a1 : Int32) (u : mx_S) : (mm_start_s a1 u) = (mm_start_b a1 u).2 := by rw [show mm_start_s = (fun a1 u => (mm_start_b a1 u).2) from Classical.choose_spec mm_start_s_ex]
def pre_mm_start : List mx_V → mx_S → Prop := fun as u => ∃ (a1 : Int32), as = [.inr (.inr 0), .inl a1] ∧ True
noncomputable def fn_mm_start : mx_F := fun as u => match as with
  | [_, .inl a1] => (some (.inl (mm_start a1 u)), (mm_start_s a1 u))
  | _ => (none, u)
noncomputable def tb_mm_start : List (Nat × mx_T) := [
  (0, mx_aload_n 0 0),
  (1, mx_iconst 0 1),
  (2, mx_putf km 3 0 2),
  (5, mx_iload_n 1 5),
  (6, mx_if_lt 17 6),
  (9, mx_iload_n 1 9),
  (10, mx_aload_n 0 10),
  (11, mx_getf km 3 1 11),
  (14, mx_icmp_lt 19 14),
  (17, mx_iconst 0 17),
  (18, mx_zret 18),
  (19, mx_aload_n 0 19),
  (20, mx_iconst 0 20),
  (21, mx_putf km 3 6 21),
  (24, mx_aload_n 0 24),
  (25, mx_iconst 0 25),
  (26, mx_putf km 3 9 26),
  (29, mx_aload_n 0 29),
  (30, mx_iconst 0 30),
  (31, mx_putf km 3 13 31),
  (34, mx_aload_n 0 34),
  (35, mx_iconst 0 35),
  (36, mx_putf km 3 17 36),
  (39, mx_aload_n 0 39),
  (40, mx_iload_n 1 40),
  (41, mx_putf km 3 7 41),
  (44, mx_iconst 1 44),
  (45, mx_zret 45)]
set_option maxRecDepth 100000 in
set_option maxHeartbeats 4000000 in
theorem ok_mm_start (l : Launch) : ∀ q ∈ tb_mm_start , mx_Ok l ({ frames := 0, cells := 0, slots := 0, locals := 0 } : Room) b_mm_start 2 "WideMachineModel" (some .boolean) vw_T vw_cl km q.1 q.2 := by
  refine List.forall_mem_cons.mpr ⟨mx_ok_aload_n (show decode b_mm_start 0 = .ok (.aload_n 0, 1) by decide +kernel) rfl, ?_⟩
  refine List.forall_mem_cons.mpr ⟨mx_ok_iconst (show decode b_mm_start 1 = .ok (.iconst 0, 1) by decide +kernel) (by decide), ?_⟩
  refine List.forall_mem_cons.mpr ⟨mx_ok_putf fd_mm_47 fw_3_0 (show decode b_mm_start 2 = .ok (.putfield 47, 3) by decide +kernel), ?_⟩
  refine List.forall_mem_cons.mpr ⟨mx_ok_iload_n (show decode b_mm_start 5 = .ok (.iload_n 1, 1) by decide +kernel) rfl, ?_⟩
  refine List.forall_mem_cons.mpr ⟨mx_ok_if_lt (show decode b_mm_start 6 = .ok (.ifCond .lt 11, 3) by decide +kernel) (by decide), ?_⟩
  refine List.forall_mem_cons.mpr ⟨mx_ok_iload_n (show decode b_mm_start 9 = .ok (.iload_n 1, 1) by decide +kernel) rfl, ?_⟩
  refine List.forall_mem_cons.mpr ⟨mx_ok_aload_n (show decode b_mm_start 10 = .ok (.aload_n 0, 1) by decide +kernel) rfl, ?_⟩
  refine List.forall_mem_cons.mpr ⟨mx_ok_getf fd_mm_40 (show decode b_mm_start 11 = .ok (.getfield 40, 3) by decide +kernel), ?_⟩
  refine List.forall_mem_cons.mpr ⟨mx_ok_icmp_lt (show decode b_mm_start 14 = .ok (.if_icmp .lt 5, 3) by decide +kernel) (by decide), ?_⟩
  refine List.forall_mem_cons.mpr ⟨mx_ok_iconst (show decode b_mm_start 17 = .ok (.iconst 0, 1) by decide +kernel) (by decide), ?_⟩
  refine List.forall_mem_cons.mpr ⟨mx_ok_zret (show decode b_mm_start 18 = .ok (.ireturn, 1) by decide +kernel) rfl, ?_⟩
  refine List.forall_mem_cons.mpr ⟨mx_ok_aload_n (show decode b_mm_start 19 = .ok (.aload_n 0, 1) by decide +kernel) rfl, ?_⟩
  refine List.forall_mem_cons.mpr ⟨mx_ok_iconst (show decode b_mm_start 20 = .ok (.iconst 0, 1) by decide +kernel) (by decide), ?_⟩
  refine List.forall_mem_cons.mpr ⟨mx_ok_putf fd_mm_50 fw_3_6 (show decode b_mm_start 21 = .ok (.putfield 50, 3) by decide +kernel), ?_⟩
  refine List.forall_mem_cons.mpr ⟨mx_ok_aload_n (show decode b_mm_start 24 = .ok (.aload_n 0, 1) by decide +kernel) rfl, ?_⟩
  refine List.forall_mem_cons.mpr ⟨mx_ok_iconst (show decode b_mm_start 25 = .ok (.iconst 0, 1) by decide +kernel) (by decide), ?_⟩
  refine List.forall_mem_cons.mpr ⟨mx_ok_putf fd_mm_65 fw_3_9 (show decode b_mm_start 26 = .ok (.putfield 65, 3) by decide +kernel), ?_⟩
  refine List.forall_mem_cons.mpr ⟨mx_ok_aload_n (show decode b_mm_start 29 = .ok (.aload_n 0, 1) by decide +kernel) rfl, ?_⟩
  refine List.forall_mem_cons.mpr ⟨mx_ok_iconst (show decode b_mm_start 30 = .ok (.iconst 0, 1) by decide +kernel) (by decide), ?_⟩
  refine List.forall_mem_cons.mpr ⟨mx_ok_putf fd_mm_59 fw_3_13 (show decode b_mm_start 31 = .ok (.putfield 59, 3) by decide +kernel), ?_⟩
  refine List.forall_mem_cons.mpr ⟨mx_ok_aload_n (show decode b_mm_start 34 = .ok (.aload_n 0, 1) by decide +kernel) rfl, ?_⟩
  refine List.forall_mem_cons.mpr ⟨mx_ok_iconst (show decode b_mm_start 35 = .ok (.iconst 0, 1) by decide +kernel) (by decide), ?_⟩
  refine List.forall_mem_cons.mpr ⟨mx_ok_putf fd_mm_62 fw_3_17 (show decode b_mm_start 36 = .ok (.putfield 62, 3) by decide +kernel), ?_⟩
  refine List.forall_mem_cons.mpr ⟨mx_ok_aload_n (show decode b_mm_start 39 = .ok (.aload_n 0, 1) by decide +kernel) rfl, ?_⟩
  refine List.forall_mem_cons.mpr ⟨mx_ok_iload_n (show decode b_mm_start 40 = .ok (.iload_n 1, 1) by decide +kernel) rfl, ?_⟩
  refine List.forall_mem_cons.mpr ⟨mx_ok_putf fd_mm_53 fw_3_7 (show decode b_mm_start 41 = .ok (.putfield 53, 3) by decide +kernel), ?_⟩
  refine List.forall_mem_cons.mpr ⟨mx_ok_iconst (show decode b_mm_start 44 = .ok (.iconst 1, 1) by decide +kernel) (by decide), ?_⟩
  refine List.forall_mem_cons.mpr ⟨mx_ok_zret (show decode b_mm_start 45 = .ok (.ireturn, 1) by decide +kernel) rfl, ?_⟩
  exact fun _ h => absurd h List.not_mem_nil
set_option maxRecDepth 100000 in
set_option maxHeartbeats 4000000 in
theorem ct_mm_start (l : Launch) : mx_Ct l vw_T vw_cl km { frames := 0, cells := 0, slots := 0, locals := 0 } y_mm_start b_mm_start 2 (some .boolean) pre_mm_start fn_mm_start := by
  refine mx_ct_of (tb_mm_start ) (by decide) (ok_mm_start l ) (fun as u h => by obtain ⟨_, rfl, -⟩ := h; exact Nat.le_of_ble_eq_true rfl) ?_
  intro as u hpre At hc hw
  obtain ⟨a1, rfl, hp⟩ := hpre
  obtain ⟨RES, hRES⟩ : ∃ z, z = (mm_start_b a1 u) := ⟨_, rfl⟩
  have hfn : fn_mm_start [.inr (.inr 0), .inl a1] u = mx_rB RES := by
    show ((some (.inl (mm_start a1 u)), (mm_start_s a1 u)) : Option mx_V × mx_S) = _
    rw [hRES, mm_start_eq, mm_start_s_eq]
    rfl
  rw [hfn] at hc
  exact hc 200 [] _ _ _ _ (
    And.intro rfl (
    And.intro (fun h6 => 
     And.intro (Or.inl rfl) (
     congrArg mx_rB (show (0, (mx_sf u 0 0 0)) = RES from (if_pos h6).symm.trans hRES.symm))) (fun h6 => 
     And.intro (fun h14 => 
      And.intro rfl (
      And.intro rfl (
      And.intro rfl (
      And.intro rfl (
      And.intro rfl (
      And.intro (Or.inr rfl) (
      congrArg mx_rB (show (1, (mx_sf (mx_sf (mx_sf (mx_sf (mx_sf (mx_sf u 0 0 0) 0 6 0) 0 9 0) 0 13 0) 0 17 0) 0 7 a1)) = RES from ((if_neg h6).trans (if_pos h14)).symm.trans hRES.symm)))))))) (fun h14 => 
      And.intro (Or.inl rfl) (
      congrArg mx_rB (show (0, (mx_sf u 0 0 0)) = RES from ((if_neg h6).trans (if_neg h14)).symm.trans hRES.symm))))))
/-! WideMachineModel.lands()I -/
noncomputable def mm_lands_l76 : Nat → Int32 → Int32 → mx_S → (Int32 × mx_S)
  | 0, _, _, u => (0, u)
  | n + 1, v1, v2, u =>
    if (mx_gf u 0 13) ≤ v2 then
     (0, (mx_sf u 0 13 v1))
    else
     if (mx_ga u 6 (v2).toNatClampNeg) = (mx_gf u 0 8) then
      mm_lands_l76 n v1 (v2 + 1) (mx_sa u 3 ((mx_ga u 4 (v2).toNatClampNeg)).toNatClampNeg (mx_ga u 5 (v2).toNatClampNeg))
     else
      mm_lands_l76 n (v1 + 1) (v2 + 1) (mx_sa (mx_sa (mx_sa u 4 (v1).toNatClampNeg (mx_ga u 4 (v2).toNatClampNeg)) 5 (v1).toNatClampNeg (mx_ga (mx_sa u 4 (v1).toNatClampNeg (mx_ga u 4 (v2).toNatClampNeg)) 5 (v2).toNatClampNeg)) 6 (v1).toNatClampNeg (mx_ga (mx_sa (mx_sa u 4 (v1).toNatClampNeg (mx_ga u 4 (v2).toNatClampNeg)) 5 (v1).toNatClampNeg (mx_ga (mx_sa u 4 (v1).toNatClampNeg (mx_ga u 4 (v2).toNatClampNeg)) 5 (v2).toNatClampNeg)) 6 (v2).toNatClampNeg))
def q_mm_lands_l76 : Nat → Int32 → Int32 → mx_S → Prop
  | 0, _, _, _ => False
  | n + 1, v1, v2, u =>
    (((mx_gf u 0 13) ≤ v2) → 
     True) ∧ ((¬ ((mx_gf u 0 13) ≤ v2)) → 
     (vp_in v2 64) ∧ (
      ((¬ ((mx_ga u 6 (v2).toNatClampNeg) = (mx_gf u 0 8))) → 
       (vp_in v2 64) ∧ (
        (vp_in v1 64) ∧ (
         (vp_in v2 64) ∧ (
          (vp_in v1 64) ∧ (
           (vp_in v2 64) ∧ (
            (vp_in v1 64) ∧ (
             q_mm_lands_l76 n (v1 + 1) (v2 + 1) (mx_sa (mx_sa (mx_sa u 4 (v1).toNatClampNeg (mx_ga u 4 (v2).toNatClampNeg)) 5 (v1).toNatClampNeg (mx_ga (mx_sa u 4 (v1).toNatClampNeg (mx_ga u 4 (v2).toNatClampNeg)) 5 (v2).toNatClampNeg)) 6 (v1).toNatClampNeg (mx_ga (mx_sa (mx_sa u 4 (v1).toNatClampNeg (mx_ga u 4 (v2).toNatClampNeg)) 5 (v1).toNatClampNeg (mx_ga (mx_sa u 4 (v1).toNatClampNeg (mx_ga u 4 (v2).toNatClampNeg)) 5 (v2).toNatClampNeg)) 6 (v2).toNatClampNeg))))))))) ∧ (((mx_ga u 6 (v2).toNatClampNeg) = (mx_gf u 0 8)) → 
       (vp_in v2 64) ∧ (
        (vp_in v2 64) ∧ (
         (vp_in (mx_ga u 4 (v2).toNatClampNeg) 32) ∧ (
          q_mm_lands_l76 n v1 (v2 + 1) (mx_sa u 3 ((mx_ga u 4 (v2).toNatClampNeg)).toNatClampNeg (mx_ga u 5 (v2).toNatClampNeg))))))))
noncomputable def mm_lands_l12 (K2 : Int32 → mx_S → (Int32 × mx_S)) : Nat → Int32 → Int32 → mx_S → (Int32 × mx_S)
  | 0, _, _, u => (0, u)
  | n + 1, v1, v2, u =>
    if v1 ≤ v2 then
     K2 (v1 + 1) u
    else
     if (mx_ga u 6 (v1).toNatClampNeg) = (mx_gf u 0 8) then
      if (mx_ga u 6 (v2).toNatClampNeg) = (mx_gf u 0 8) then
       if (mx_ga u 4 (v1).toNatClampNeg) = (mx_ga u 4 (v2).toNatClampNeg) then
        (5, u)
       else
        mm_lands_l12 K2 n v1 (v2 + 1) u
      else
       mm_lands_l12 K2 n v1 (v2 + 1) u
     else
      mm_lands_l12 K2 n v1 (v2 + 1) u
def q_mm_lands_l12 (K2 : Int32 → mx_S → (Int32 × mx_S)) (Q2 : Int32 → mx_S → Prop) : Nat → Int32 → Int32 → mx_S → Prop
  | 0, _, _, _ => False
  | n + 1, v1, v2, u =>
    ((v1 ≤ v2) → 
     Q2 (v1 + 1) u) ∧ ((¬ (v1 ≤ v2)) → 
     (vp_in v1 64) ∧ (
      ((¬ ((mx_ga u 6 (v1).toNatClampNeg) = (mx_gf u 0 8))) → 
       q_mm_lands_l12 K2 Q2 n v1 (v2 + 1) u) ∧ (((mx_ga u 6 (v1).toNatClampNeg) = (mx_gf u 0 8)) → 
       (vp_in v2 64) ∧ (
        ((¬ ((mx_ga u 6 (v2).toNatClampNeg) = (mx_gf u 0 8))) → 
         q_mm_lands_l12 K2 Q2 n v1 (v2 + 1) u) ∧ (((mx_ga u 6 (v2).toNatClampNeg) = (mx_gf u 0 8)) → 
         (vp_in v1 64) ∧ (
          (vp_in v2 64) ∧ (
           ((¬ ((mx_ga u 4 (v1).toNatClampNeg) = (mx_ga u 4 (v2).toNatClampNeg))) → 
            q_mm_lands_l12 K2 Q2 n v1 (v2 + 1) u) ∧ (((mx_ga u 4 (v1).toNatClampNeg) = (mx_ga u 4 (v2).toNatClampNeg)) → 
            True))))))))
noncomputable def mm_lands_l2 : Nat → Int32 → mx_S → (Int32 × mx_S)
  | 0, _, u => (0, u)
  | n + 1, v1, u =>
    if (mx_gf u 0 13) ≤ v1 then
     mm_lands_l76 20 0 0 u
    else
     mm_lands_l12 (fun v1' u' => mm_lands_l2 n v1' u') 20 v1 0 u
def q_mm_lands_l2 : Nat → Int32 → mx_S → Prop
  | 0, _, _ => False
  | n + 1, v1, u =>
    (((mx_gf u 0 13) ≤ v1) → 
     q_mm_lands_l76 20 0 0 u) ∧ ((¬ ((mx_gf u 0 13) ≤ v1)) → 
     q_mm_lands_l12 (fun v1' u' => mm_lands_l2 n v1' u') (fun v1' u' => q_mm_lands_l2 n v1' u') 20 v1 0 u)
noncomputable def mm_lands_b (u : mx_S) : Int32 × mx_S :=
  mm_lands_l2 20 0 u
theorem mm_lands_ex : ∃ f : mx_S → Int32, f = (fun u => (mm_lands_b u).1) := ⟨_, rfl⟩
noncomputable def mm_lands : mx_S → Int32 := Classical.choose mm_lands_ex
theorem mm_lands_eq (u : mx_S) : (mm_lands u) = (mm_lands_b u).1 := by rw [show mm_lands = (fun u => (mm_lands_b u).1) from Classical.choose_spec mm_lands_ex]
theorem mm_lands_s_ex : ∃ f : mx_S → mx_S, f = (fun u => (mm_lands_b u).2) := ⟨_, rfl⟩
noncomputable def mm_lands_s : mx_S → mx_S := Classical.choose mm_lands_s_ex
theorem mm_lands_s_eq (u : mx_S) : (mm_lands_s u) = (mm_lands_b u).2 := by rw [show mm_lands_s = (fun u => (mm_lands_b u).2) from Classical.choose_spec mm_lands_s_ex]
def q_mm_lands (u : mx_S) : Prop :=
  q_mm_lands_l2 20 0 u
def pre_mm_lands : List mx_V → mx_S → Prop := fun as u => as = [.inr (.inr 0)] ∧ q_mm_lands u
noncomputable def fn_mm_lands : mx_F := fun as u => match as with
  | [_] => (some (.inl (mm_lands u)), (mm_lands_s u))
  | _ => (none, u)
noncomputable def tb_mm_lands : List (Nat × mx_T) := [
  (0, mx_iconst 0 0),
  (1, mx_istore_n 1 1),
  (2, mx_iload_n 1 2),
  (3, mx_aload_n 0 3),
  (4, mx_getf km 3 13 4),
  (7, mx_icmp_ge 72 7),
  (10, mx_iconst 0 10),
  (11, mx_istore_n 2 11),
  (12, mx_iload_n 2 12),
  (13, mx_iload_n 1 13),
  (14, mx_icmp_ge 66 14),
  (17, mx_aload_n 0 17),
  (18, mx_getf km 3 16 18),
  (21, mx_iload_n 1 21),
  (22, mx_iald km 22),
  (23, mx_aload_n 0 23),
  (24, mx_getf km 3 8 24),
  (27, mx_icmp_ne 60 27),
  (30, mx_aload_n 0 30),
  (31, mx_getf km 3 16 31),
  (34, mx_iload_n 2 34),
  (35, mx_iald km 35),
  (36, mx_aload_n 0 36),
  (37, mx_getf km 3 8 37),
  (40, mx_icmp_ne 60 40),
  (43, mx_aload_n 0 43),
  (44, mx_getf km 3 14 44),
  (47, mx_iload_n 1 47),
  (48, mx_iald km 48),
  (49, mx_aload_n 0 49),
  (50, mx_getf km 3 14 50),
  (53, mx_iload_n 2 53),
  (54, mx_iald km 54),
  (55, mx_icmp_ne 60 55),
  (58, mx_iconst 5 58),
  (59, mx_iret 59),
  (60, mx_iinc 2 1 60),
  (63, mx_goto 12 63),
  (66, mx_iinc 1 1 66),
  (69, mx_goto 2 69),
  (72, mx_iconst 0 72),
  (73, mx_istore_n 1 73),
  (74, mx_iconst 0 74),
  (75, mx_istore_n 2 75),
  (76, mx_iload_n 2 76),
  (77, mx_aload_n 0 77),
  (78, mx_getf km 3 13 78),
  (81, mx_icmp_ge 162 81),
  (84, mx_aload_n 0 84),
  (85, mx_getf km 3 16 85),
  (88, mx_iload_n 2 88),
  (89, mx_iald km 89),
  (90, mx_aload_n 0 90),
  (91, mx_getf km 3 8 91),
  (94, mx_icmp_ne 117 94),
  (97, mx_aload_n 0 97),
  (98, mx_getf km 3 5 98),
  (101, mx_aload_n 0 101),
  (102, mx_getf km 3 14 102),
  (105, mx_iload_n 2 105),
  (106, mx_iald km 106),
  (107, mx_aload_n 0 107),
  (108, mx_getf km 3 15 108),
  (111, mx_iload_n 2 111),
  (112, mx_iald km 112),
  (113, mx_iast km 113),
  (114, mx_goto 156 114),
  (117, mx_aload_n 0 117),
  (118, mx_getf km 3 14 118),
  (121, mx_iload_n 1 121),
  (122, mx_aload_n 0 122),
  (123, mx_getf km 3 14 123),
  (126, mx_iload_n 2 126),
  (127, mx_iald km 127),
  (128, mx_iast km 128),
  (129, mx_aload_n 0 129),
  (130, mx_getf km 3 15 130),
  (133, mx_iload_n 1 133),
  (134, mx_aload_n 0 134),
  (135, mx_getf km 3 15 135),
  (138, mx_iload_n 2 138),
  (139, mx_iald km 139),
  (140, mx_iast km 140),
  (141, mx_aload_n 0 141),
  (142, mx_getf km 3 16 142),
  (145, mx_iload_n 1 145),
  (146, mx_aload_n 0 146),
  (147, mx_getf km 3 16 147),
  (150, mx_iload_n 2 150),
  (151, mx_iald km 151),
  (152, mx_iast km 152),
  (153, mx_iinc 1 1 153),
  (156, mx_iinc 2 1 156),
  (159, mx_goto 76 159),
  (162, mx_aload_n 0 162),
  (163, mx_iload_n 1 163),
  (164, mx_putf km 3 13 164),
  (167, mx_iconst 0 167),
  (168, mx_iret 168)]
set_option maxRecDepth 100000 in
set_option maxHeartbeats 4000000 in
theorem ok_mm_lands (l : Launch) : ∀ q ∈ tb_mm_lands , mx_Ok l ({ frames := 0, cells := 0, slots := 0, locals := 0 } : Room) b_mm_lands 3 "WideMachineModel" (some .int) vw_T vw_cl km q.1 q.2 := by
  refine List.forall_mem_cons.mpr ⟨mx_ok_iconst (show decode b_mm_lands 0 = .ok (.iconst 0, 1) by decide +kernel) (by decide), ?_⟩
  refine List.forall_mem_cons.mpr ⟨mx_ok_istore_n (show decode b_mm_lands 1 = .ok (.istore_n 1, 1) by decide +kernel) rfl (by decide), ?_⟩
  refine List.forall_mem_cons.mpr ⟨mx_ok_iload_n (show decode b_mm_lands 2 = .ok (.iload_n 1, 1) by decide +kernel) rfl, ?_⟩
  refine List.forall_mem_cons.mpr ⟨mx_ok_aload_n (show decode b_mm_lands 3 = .ok (.aload_n 0, 1) by decide +kernel) rfl, ?_⟩
  refine List.forall_mem_cons.mpr ⟨mx_ok_getf fd_mm_59 (show decode b_mm_lands 4 = .ok (.getfield 59, 3) by decide +kernel), ?_⟩
  refine List.forall_mem_cons.mpr ⟨mx_ok_icmp_ge (show decode b_mm_lands 7 = .ok (.if_icmp .ge 65, 3) by decide +kernel) (by decide), ?_⟩
  refine List.forall_mem_cons.mpr ⟨mx_ok_iconst (show decode b_mm_lands 10 = .ok (.iconst 0, 1) by decide +kernel) (by decide), ?_⟩
  refine List.forall_mem_cons.mpr ⟨mx_ok_istore_n (show decode b_mm_lands 11 = .ok (.istore_n 2, 1) by decide +kernel) rfl (by decide), ?_⟩
  refine List.forall_mem_cons.mpr ⟨mx_ok_iload_n (show decode b_mm_lands 12 = .ok (.iload_n 2, 1) by decide +kernel) rfl, ?_⟩
  refine List.forall_mem_cons.mpr ⟨mx_ok_iload_n (show decode b_mm_lands 13 = .ok (.iload_n 1, 1) by decide +kernel) rfl, ?_⟩
  refine List.forall_mem_cons.mpr ⟨mx_ok_icmp_ge (show decode b_mm_lands 14 = .ok (.if_icmp .ge 52, 3) by decide +kernel) (by decide), ?_⟩
  refine List.forall_mem_cons.mpr ⟨mx_ok_aload_n (show decode b_mm_lands 17 = .ok (.aload_n 0, 1) by decide +kernel) rfl, ?_⟩
  refine List.forall_mem_cons.mpr ⟨mx_ok_getf fd_mm_25 (show decode b_mm_lands 18 = .ok (.getfield 25, 3) by decide +kernel), ?_⟩
  refine List.forall_mem_cons.mpr ⟨mx_ok_iload_n (show decode b_mm_lands 21 = .ok (.iload_n 1, 1) by decide +kernel) rfl, ?_⟩
  refine List.forall_mem_cons.mpr ⟨mx_ok_iald (show decode b_mm_lands 22 = .ok (.iaload, 1) by decide +kernel), ?_⟩
  refine List.forall_mem_cons.mpr ⟨mx_ok_aload_n (show decode b_mm_lands 23 = .ok (.aload_n 0, 1) by decide +kernel) rfl, ?_⟩
  refine List.forall_mem_cons.mpr ⟨mx_ok_getf fd_mm_56 (show decode b_mm_lands 24 = .ok (.getfield 56, 3) by decide +kernel), ?_⟩
  refine List.forall_mem_cons.mpr ⟨mx_ok_icmp_ne (show decode b_mm_lands 27 = .ok (.if_icmp .ne 33, 3) by decide +kernel) (by decide), ?_⟩
  refine List.forall_mem_cons.mpr ⟨mx_ok_aload_n (show decode b_mm_lands 30 = .ok (.aload_n 0, 1) by decide +kernel) rfl, ?_⟩
  refine List.forall_mem_cons.mpr ⟨mx_ok_getf fd_mm_25 (show decode b_mm_lands 31 = .ok (.getfield 25, 3) by decide +kernel), ?_⟩
  refine List.forall_mem_cons.mpr ⟨mx_ok_iload_n (show decode b_mm_lands 34 = .ok (.iload_n 2, 1) by decide +kernel) rfl, ?_⟩
  refine List.forall_mem_cons.mpr ⟨mx_ok_iald (show decode b_mm_lands 35 = .ok (.iaload, 1) by decide +kernel), ?_⟩
  refine List.forall_mem_cons.mpr ⟨mx_ok_aload_n (show decode b_mm_lands 36 = .ok (.aload_n 0, 1) by decide +kernel) rfl, ?_⟩
  refine List.forall_mem_cons.mpr ⟨mx_ok_getf fd_mm_56 (show decode b_mm_lands 37 = .ok (.getfield 56, 3) by decide +kernel), ?_⟩
  refine List.forall_mem_cons.mpr ⟨mx_ok_icmp_ne (show decode b_mm_lands 40 = .ok (.if_icmp .ne 20, 3) by decide +kernel) (by decide), ?_⟩
  refine List.forall_mem_cons.mpr ⟨mx_ok_aload_n (show decode b_mm_lands 43 = .ok (.aload_n 0, 1) by decide +kernel) rfl, ?_⟩
  refine List.forall_mem_cons.mpr ⟨mx_ok_getf fd_mm_19 (show decode b_mm_lands 44 = .ok (.getfield 19, 3) by decide +kernel), ?_⟩
  refine List.forall_mem_cons.mpr ⟨mx_ok_iload_n (show decode b_mm_lands 47 = .ok (.iload_n 1, 1) by decide +kernel) rfl, ?_⟩
  refine List.forall_mem_cons.mpr ⟨mx_ok_iald (show decode b_mm_lands 48 = .ok (.iaload, 1) by decide +kernel), ?_⟩
  refine List.forall_mem_cons.mpr ⟨mx_ok_aload_n (show decode b_mm_lands 49 = .ok (.aload_n 0, 1) by decide +kernel) rfl, ?_⟩
  refine List.forall_mem_cons.mpr ⟨mx_ok_getf fd_mm_19 (show decode b_mm_lands 50 = .ok (.getfield 19, 3) by decide +kernel), ?_⟩
  refine List.forall_mem_cons.mpr ⟨mx_ok_iload_n (show decode b_mm_lands 53 = .ok (.iload_n 2, 1) by decide +kernel) rfl, ?_⟩
  refine List.forall_mem_cons.mpr ⟨mx_ok_iald (show decode b_mm_lands 54 = .ok (.iaload, 1) by decide +kernel), ?_⟩
  refine List.forall_mem_cons.mpr ⟨mx_ok_icmp_ne (show decode b_mm_lands 55 = .ok (.if_icmp .ne 5, 3) by decide +kernel) (by decide), ?_⟩
  refine List.forall_mem_cons.mpr ⟨mx_ok_iconst (show decode b_mm_lands 58 = .ok (.iconst 5, 1) by decide +kernel) (by decide), ?_⟩
  refine List.forall_mem_cons.mpr ⟨mx_ok_iret (show decode b_mm_lands 59 = .ok (.ireturn, 1) by decide +kernel) rfl, ?_⟩
  refine List.forall_mem_cons.mpr ⟨mx_ok_iinc (show decode b_mm_lands 60 = .ok (.iinc 2 1, 3) by decide +kernel) (by decide) (by decide), ?_⟩
  refine List.forall_mem_cons.mpr ⟨mx_ok_goto (show decode b_mm_lands 63 = .ok (.goto (-51), 3) by decide +kernel) (by decide), ?_⟩
  refine List.forall_mem_cons.mpr ⟨mx_ok_iinc (show decode b_mm_lands 66 = .ok (.iinc 1 1, 3) by decide +kernel) (by decide) (by decide), ?_⟩
  refine List.forall_mem_cons.mpr ⟨mx_ok_goto (show decode b_mm_lands 69 = .ok (.goto (-67), 3) by decide +kernel) (by decide), ?_⟩
  refine List.forall_mem_cons.mpr ⟨mx_ok_iconst (show decode b_mm_lands 72 = .ok (.iconst 0, 1) by decide +kernel) (by decide), ?_⟩
  refine List.forall_mem_cons.mpr ⟨mx_ok_istore_n (show decode b_mm_lands 73 = .ok (.istore_n 1, 1) by decide +kernel) rfl (by decide), ?_⟩
  refine List.forall_mem_cons.mpr ⟨mx_ok_iconst (show decode b_mm_lands 74 = .ok (.iconst 0, 1) by decide +kernel) (by decide), ?_⟩
  refine List.forall_mem_cons.mpr ⟨mx_ok_istore_n (show decode b_mm_lands 75 = .ok (.istore_n 2, 1) by decide +kernel) rfl (by decide), ?_⟩
  refine List.forall_mem_cons.mpr ⟨mx_ok_iload_n (show decode b_mm_lands 76 = .ok (.iload_n 2, 1) by decide +kernel) rfl, ?_⟩
  refine List.forall_mem_cons.mpr ⟨mx_ok_aload_n (show decode b_mm_lands 77 = .ok (.aload_n 0, 1) by decide +kernel) rfl, ?_⟩
  refine List.forall_mem_cons.mpr ⟨mx_ok_getf fd_mm_59 (show decode b_mm_lands 78 = .ok (.getfield 59, 3) by decide +kernel), ?_⟩
  refine List.forall_mem_cons.mpr ⟨mx_ok_icmp_ge (show decode b_mm_lands 81 = .ok (.if_icmp .ge 81, 3) by decide +kernel) (by decide), ?_⟩
  refine List.forall_mem_cons.mpr ⟨mx_ok_aload_n (show decode b_mm_lands 84 = .ok (.aload_n 0, 1) by decide +kernel) rfl, ?_⟩
  refine List.forall_mem_cons.mpr ⟨mx_ok_getf fd_mm_25 (show decode b_mm_lands 85 = .ok (.getfield 25, 3) by decide +kernel), ?_⟩
  refine List.forall_mem_cons.mpr ⟨mx_ok_iload_n (show decode b_mm_lands 88 = .ok (.iload_n 2, 1) by decide +kernel) rfl, ?_⟩
  refine List.forall_mem_cons.mpr ⟨mx_ok_iald (show decode b_mm_lands 89 = .ok (.iaload, 1) by decide +kernel), ?_⟩
  refine List.forall_mem_cons.mpr ⟨mx_ok_aload_n (show decode b_mm_lands 90 = .ok (.aload_n 0, 1) by decide +kernel) rfl, ?_⟩
  refine List.forall_mem_cons.mpr ⟨mx_ok_getf fd_mm_56 (show decode b_mm_lands 91 = .ok (.getfield 56, 3) by decide +kernel), ?_⟩
  refine List.forall_mem_cons.mpr ⟨mx_ok_icmp_ne (show decode b_mm_lands 94 = .ok (.if_icmp .ne 23, 3) by decide +kernel) (by decide), ?_⟩
  refine List.forall_mem_cons.mpr ⟨mx_ok_aload_n (show decode b_mm_lands 97 = .ok (.aload_n 0, 1) by decide +kernel) rfl, ?_⟩
  refine List.forall_mem_cons.mpr ⟨mx_ok_getf fd_mm_16 (show decode b_mm_lands 98 = .ok (.getfield 16, 3) by decide +kernel), ?_⟩
  refine List.forall_mem_cons.mpr ⟨mx_ok_aload_n (show decode b_mm_lands 101 = .ok (.aload_n 0, 1) by decide +kernel) rfl, ?_⟩
  refine List.forall_mem_cons.mpr ⟨mx_ok_getf fd_mm_19 (show decode b_mm_lands 102 = .ok (.getfield 19, 3) by decide +kernel), ?_⟩
  refine List.forall_mem_cons.mpr ⟨mx_ok_iload_n (show decode b_mm_lands 105 = .ok (.iload_n 2, 1) by decide +kernel) rfl, ?_⟩
  refine List.forall_mem_cons.mpr ⟨mx_ok_iald (show decode b_mm_lands 106 = .ok (.iaload, 1) by decide +kernel), ?_⟩
  refine List.forall_mem_cons.mpr ⟨mx_ok_aload_n (show decode b_mm_lands 107 = .ok (.aload_n 0, 1) by decide +kernel) rfl, ?_⟩
  refine List.forall_mem_cons.mpr ⟨mx_ok_getf fd_mm_22 (show decode b_mm_lands 108 = .ok (.getfield 22, 3) by decide +kernel), ?_⟩
  refine List.forall_mem_cons.mpr ⟨mx_ok_iload_n (show decode b_mm_lands 111 = .ok (.iload_n 2, 1) by decide +kernel) rfl, ?_⟩
  refine List.forall_mem_cons.mpr ⟨mx_ok_iald (show decode b_mm_lands 112 = .ok (.iaload, 1) by decide +kernel), ?_⟩
  refine List.forall_mem_cons.mpr ⟨mx_ok_iast (show decode b_mm_lands 113 = .ok (.iastore, 1) by decide +kernel), ?_⟩
  refine List.forall_mem_cons.mpr ⟨mx_ok_goto (show decode b_mm_lands 114 = .ok (.goto 42, 3) by decide +kernel) (by decide), ?_⟩
  refine List.forall_mem_cons.mpr ⟨mx_ok_aload_n (show decode b_mm_lands 117 = .ok (.aload_n 0, 1) by decide +kernel) rfl, ?_⟩
  refine List.forall_mem_cons.mpr ⟨mx_ok_getf fd_mm_19 (show decode b_mm_lands 118 = .ok (.getfield 19, 3) by decide +kernel), ?_⟩
  refine List.forall_mem_cons.mpr ⟨mx_ok_iload_n (show decode b_mm_lands 121 = .ok (.iload_n 1, 1) by decide +kernel) rfl, ?_⟩
  refine List.forall_mem_cons.mpr ⟨mx_ok_aload_n (show decode b_mm_lands 122 = .ok (.aload_n 0, 1) by decide +kernel) rfl, ?_⟩
  refine List.forall_mem_cons.mpr ⟨mx_ok_getf fd_mm_19 (show decode b_mm_lands 123 = .ok (.getfield 19, 3) by decide +kernel), ?_⟩
  refine List.forall_mem_cons.mpr ⟨mx_ok_iload_n (show decode b_mm_lands 126 = .ok (.iload_n 2, 1) by decide +kernel) rfl, ?_⟩
  refine List.forall_mem_cons.mpr ⟨mx_ok_iald (show decode b_mm_lands 127 = .ok (.iaload, 1) by decide +kernel), ?_⟩
  refine List.forall_mem_cons.mpr ⟨mx_ok_iast (show decode b_mm_lands 128 = .ok (.iastore, 1) by decide +kernel), ?_⟩
  refine List.forall_mem_cons.mpr ⟨mx_ok_aload_n (show decode b_mm_lands 129 = .ok (.aload_n 0, 1) by decide +kernel) rfl, ?_⟩
  refine List.forall_mem_cons.mpr ⟨mx_ok_getf fd_mm_22 (show decode b_mm_lands 130 = .ok (.getfield 22, 3) by decide +kernel), ?_⟩
  refine List.forall_mem_cons.mpr ⟨mx_ok_iload_n (show decode b_mm_lands 133 = .ok (.iload_n 1, 1) by decide +kernel) rfl, ?_⟩
  refine List.forall_mem_cons.mpr ⟨mx_ok_aload_n (show decode b_mm_lands 134 = .ok (.aload_n 0, 1) by decide +kernel) rfl, ?_⟩
  refine List.forall_mem_cons.mpr ⟨mx_ok_getf fd_mm_22 (show decode b_mm_lands 135 = .ok (.getfield 22, 3) by decide +kernel), ?_⟩
  refine List.forall_mem_cons.mpr ⟨mx_ok_iload_n (show decode b_mm_lands 138 = .ok (.iload_n 2, 1) by decide +kernel) rfl, ?_⟩
  refine List.forall_mem_cons.mpr ⟨mx_ok_iald (show decode b_mm_lands 139 = .ok (.iaload, 1) by decide +kernel), ?_⟩
  refine List.forall_mem_cons.mpr ⟨mx_ok_iast (show decode b_mm_lands 140 = .ok (.iastore, 1) by decide +kernel), ?_⟩
  refine List.forall_mem_cons.mpr ⟨mx_ok_aload_n (show decode b_mm_lands 141 = .ok (.aload_n 0, 1) by decide +kernel) rfl, ?_⟩
  refine List.forall_mem_cons.mpr ⟨mx_ok_getf fd_mm_25 (show decode b_mm_lands 142 = .ok (.getfield 25, 3) by decide +kernel), ?_⟩
  refine List.forall_mem_cons.mpr ⟨mx_ok_iload_n (show decode b_mm_lands 145 = .ok (.iload_n 1, 1) by decide +kernel) rfl, ?_⟩
  refine List.forall_mem_cons.mpr ⟨mx_ok_aload_n (show decode b_mm_lands 146 = .ok (.aload_n 0, 1) by decide +kernel) rfl, ?_⟩
  refine List.forall_mem_cons.mpr ⟨mx_ok_getf fd_mm_25 (show decode b_mm_lands 147 = .ok (.getfield 25, 3) by decide +kernel), ?_⟩
  refine List.forall_mem_cons.mpr ⟨mx_ok_iload_n (show decode b_mm_lands 150 = .ok (.iload_n 2, 1) by decide +kernel) rfl, ?_⟩
  refine List.forall_mem_cons.mpr ⟨mx_ok_iald (show decode b_mm_lands 151 = .ok (.iaload, 1) by decide +kernel), ?_⟩
  refine List.forall_mem_cons.mpr ⟨mx_ok_iast (show decode b_mm_lands 152 = .ok (.iastore, 1) by decide +kernel), ?_⟩
  refine List.forall_mem_cons.mpr ⟨mx_ok_iinc (show decode b_mm_lands 153 = .ok (.iinc 1 1, 3) by decide +kernel) (by decide) (by decide), ?_⟩
  refine List.forall_mem_cons.mpr ⟨mx_ok_iinc (show decode b_mm_lands 156 = .ok (.iinc 2 1, 3) by decide +kernel) (by decide) (by decide), ?_⟩
  refine List.forall_mem_cons.mpr ⟨mx_ok_goto (show decode b_mm_lands 159 = .ok (.goto (-83), 3) by decide +kernel) (by decide), ?_⟩
  refine List.forall_mem_cons.mpr ⟨mx_ok_aload_n (show decode b_mm_lands 162 = .ok (.aload_n 0, 1) by decide +kernel) rfl, ?_⟩
  refine List.forall_mem_cons.mpr ⟨mx_ok_iload_n (show decode b_mm_lands 163 = .ok (.iload_n 1, 1) by decide +kernel) rfl, ?_⟩
  refine List.forall_mem_cons.mpr ⟨mx_ok_putf fd_mm_59 fw_3_13 (show decode b_mm_lands 164 = .ok (.putfield 59, 3) by decide +kernel), ?_⟩
  refine List.forall_mem_cons.mpr ⟨mx_ok_iconst (show decode b_mm_lands 167 = .ok (.iconst 0, 1) by decide +kernel) (by decide), ?_⟩
  refine List.forall_mem_cons.mpr ⟨mx_ok_iret (show decode b_mm_lands 168 = .ok (.ireturn, 1) by decide +kernel) rfl, ?_⟩
  exact fun _ h => absurd h List.not_mem_nil
set_option maxRecDepth 100000 in
set_option maxHeartbeats 4000000 in
theorem ct_mm_lands (l : Launch) : mx_Ct l vw_T vw_cl km { frames := 0, cells := 0, slots := 0, locals := 0 } y_mm_lands b_mm_lands 3 (some .int) pre_mm_lands fn_mm_lands := by
  refine mx_ct_of (tb_mm_lands ) (by decide) (ok_mm_lands l ) (fun as u h => by obtain ⟨rfl, -⟩ := h; exact Nat.le_of_ble_eq_true rfl) ?_
  intro as u hpre At hc hw
  obtain ⟨rfl, hp⟩ := hpre
  obtain ⟨RES, hRES⟩ : ∃ z, z = (mm_lands_b u) := ⟨_, rfl⟩
  have hfn : fn_mm_lands [.inr (.inr 0)] u = mx_rB RES := by
    show ((some (.inl (mm_lands u)), (mm_lands_s u)) : Option mx_V × mx_S) = _
    rw [hRES, mm_lands_eq, mm_lands_s_eq]
    rfl
  rw [hfn] at hc
  have lp76 : ∀ (n76 : Nat) (v1 : Int32) (v2 : Int32) (u : mx_S), q_mm_lands_l76 n76 v1 v2 u → mm_lands_l76 n76 v1 v2 u = RES → At 76 [(1, .inl v1), (2, .inl v2), (0, .inr (.inr 0))] [] u := by
    intro n76
    induction n76 with
    | zero =>
      intro v1 v2 u hi he
      exact hi.elim
    | succ n76 ih76 =>
      intro v1 v2 u hi76 he76
      exact hc 200 [2, 12, 76] _ _ _ _ (
        And.intro (fun h81 => 
         And.intro rfl (
         congrArg mx_rB (show (0, (mx_sf u 0 13 v1)) = RES from (if_pos h81).symm.trans he76))) (fun h81 => 
         And.intro ((hi76.2 h81).1) (
         And.intro (fun h94 => 
          And.intro (((hi76.2 h81).2.1 h94).1) (
          And.intro (((hi76.2 h81).2.1 h94).2.1) (
          And.intro (((hi76.2 h81).2.1 h94).2.2.1) (
          And.intro (((hi76.2 h81).2.1 h94).2.2.2.1) (
          And.intro (((hi76.2 h81).2.1 h94).2.2.2.2.1) (
          And.intro (((hi76.2 h81).2.1 h94).2.2.2.2.2.1) (
          hw [1, 0, 2] 76 _ [] _ (ih76 (v1 + 1) (v2 + 1) (mx_sa (mx_sa (mx_sa u 4 (v1).toNatClampNeg (mx_ga u 4 (v2).toNatClampNeg)) 5 (v1).toNatClampNeg (mx_ga (mx_sa u 4 (v1).toNatClampNeg (mx_ga u 4 (v2).toNatClampNeg)) 5 (v2).toNatClampNeg)) 6 (v1).toNatClampNeg (mx_ga (mx_sa (mx_sa u 4 (v1).toNatClampNeg (mx_ga u 4 (v2).toNatClampNeg)) 5 (v1).toNatClampNeg (mx_ga (mx_sa u 4 (v1).toNatClampNeg (mx_ga u 4 (v2).toNatClampNeg)) 5 (v2).toNatClampNeg)) 6 (v2).toNatClampNeg)) ((hi76.2 h81).2.1 h94).2.2.2.2.2.2 (((if_neg h81).trans (if_neg h94)).symm.trans he76))))))))) (fun h94 => 
          And.intro (((hi76.2 h81).2.2 h94).1) (
          And.intro (((hi76.2 h81).2.2 h94).2.1) (
          And.intro (((hi76.2 h81).2.2 h94).2.2.1) (
          hw [1, 0, 2] 76 _ [] _ (ih76 v1 (v2 + 1) (mx_sa u 3 ((mx_ga u 4 (v2).toNatClampNeg)).toNatClampNeg (mx_ga u 5 (v2).toNatClampNeg)) ((hi76.2 h81).2.2 h94).2.2.2 (((if_neg h81).trans (if_pos h94)).symm.trans he76)))))))))
  have lp2 : ∀ (n2 : Nat) (v1 : Int32) (u : mx_S), q_mm_lands_l2 n2 v1 u → mm_lands_l2 n2 v1 u = RES → At 2 [(1, .inl v1), (0, .inr (.inr 0))] [] u := by
    intro n2
    induction n2 with
    | zero =>
      intro v1 u hi he
      exact hi.elim
    | succ n2 ih2 =>
      intro v1 u hi2 he2
      have lp12 : ∀ (n12 : Nat) (v1 : Int32) (v2 : Int32) (u : mx_S), q_mm_lands_l12 (fun v1' u' => mm_lands_l2 n2 v1' u') (fun v1' u' => q_mm_lands_l2 n2 v1' u') n12 v1 v2 u → mm_lands_l12 (fun v1' u' => mm_lands_l2 n2 v1' u') n12 v1 v2 u = RES → At 12 [(1, .inl v1), (2, .inl v2), (0, .inr (.inr 0))] [] u := by
        intro n12
        induction n12 with
        | zero =>
          intro v1 v2 u hi he
          exact hi.elim
        | succ n12 ih12 =>
          intro v1 v2 u hi12 he12
          exact hc 200 [2, 12, 76] _ _ _ _ (
            And.intro (fun h14 => 
             hw [0, 2] 2 _ [] _ (ih2 (v1 + 1) u (hi12.1 h14) ((if_pos h14).symm.trans he12))) (fun h14 => 
             And.intro ((hi12.2 h14).1) (
             And.intro (fun h27 => 
              hw [1, 0, 2] 12 _ [] _ (ih12 v1 (v2 + 1) u ((hi12.2 h14).2.1 h27) (((if_neg h14).trans (if_neg h27)).symm.trans he12))) (fun h27 => 
              And.intro (((hi12.2 h14).2.2 h27).1) (
              And.intro (fun h40 => 
               hw [1, 0, 2] 12 _ [] _ (ih12 v1 (v2 + 1) u (((hi12.2 h14).2.2 h27).2.1 h40) (((if_neg h14).trans ((if_pos h27).trans (if_neg h40))).symm.trans he12))) (fun h40 => 
               And.intro ((((hi12.2 h14).2.2 h27).2.2 h40).1) (
               And.intro ((((hi12.2 h14).2.2 h27).2.2 h40).2.1) (
               And.intro (fun h55 => 
                hw [1, 0, 2] 12 _ [] _ (ih12 v1 (v2 + 1) u ((((hi12.2 h14).2.2 h27).2.2 h40).2.2.1 h55) (((if_neg h14).trans ((if_pos h27).trans ((if_pos h40).trans (if_neg h55)))).symm.trans he12))) (fun h55 => 
                congrArg mx_rB (show (5, u) = RES from ((if_neg h14).trans ((if_pos h27).trans ((if_pos h40).trans (if_pos h55)))).symm.trans he12))))))))))
      exact hc 200 [2, 12, 76] _ _ _ _ (
        And.intro (fun h7 => 
         hw [1, 0, 2] 76 _ [] _ (lp76 20 0 0 u (hi2.1 h7) ((if_pos h7).symm.trans he2))) (fun h7 => 
         hw [1, 0, 2] 12 _ [] _ (lp12 20 v1 0 u (hi2.2 h7) ((if_neg h7).symm.trans he2))))
  exact hc 200 [2, 12, 76] _ _ _ _ (
    hw [0, 1] 2 _ [] _ (lp2 20 0 u hp ((rfl).symm.trans hRES.symm)))
/-! WideMachineModel.arrives()I -/
noncomputable def mm_arrives_l70 : Nat → Int32 → mx_S → (Int32 × mx_S)
  | 0, _, u => (0, u)
  | n + 1, v2, u =>
    if (mx_gf u 0 17) ≤ v2 then
     (0, u)
    else
     mm_arrives_l70 n (v2 + 1) (mx_sa (mx_sa u 7 (v2).toNatClampNeg (mx_ga u 7 ((v2 + (1 : Int32))).toNatClampNeg)) 8 (v2).toNatClampNeg (mx_ga (mx_sa u 7 (v2).toNatClampNeg (mx_ga u 7 ((v2 + (1 : Int32))).toNatClampNeg)) 8 ((v2 + (1 : Int32))).toNatClampNeg))
def q_mm_arrives_l70 : Nat → Int32 → mx_S → Prop
  | 0, _, _ => False
  | n + 1, v2, u =>
    (((mx_gf u 0 17) ≤ v2) → 
     True) ∧ ((¬ ((mx_gf u 0 17) ≤ v2)) → 
     (vp_in (v2 + (1 : Int32)) 32) ∧ (
      (vp_in v2 32) ∧ (
       (vp_in (v2 + (1 : Int32)) 32) ∧ (
        (vp_in v2 32) ∧ (
         q_mm_arrives_l70 n (v2 + 1) (mx_sa (mx_sa u 7 (v2).toNatClampNeg (mx_ga u 7 ((v2 + (1 : Int32))).toNatClampNeg)) 8 (v2).toNatClampNeg (mx_ga (mx_sa u 7 (v2).toNatClampNeg (mx_ga u 7 ((v2 + (1 : Int32))).toNatClampNeg)) 8 ((v2 + (1 : Int32))).toNatClampNeg)))))))
noncomputable def mm_arrives_l4 : Nat → Int32 → Int32 → mx_S → (Int32 × mx_S)
  | 0, _, _, u => (0, u)
  | n + 1, v1, v2, u =>
    if (mx_gf u 0 17) ≤ v2 then
     if v1 = (-1) then
      (0, u)
     else
      mm_arrives_l70 20 v1 (mx_sf (mx_sf u 0 7 (mx_ga u 7 (v1).toNatClampNeg)) 0 17 ((mx_gf (mx_sf u 0 7 (mx_ga u 7 (v1).toNatClampNeg)) 0 17) - (1 : Int32)))
    else
     if (mx_ga u 8 (v2).toNatClampNeg) = (mx_gf u 0 8) then
      if v1 = (-1) then
       mm_arrives_l4 n v2 (v2 + 1) u
      else
       (6, u)
     else
      mm_arrives_l4 n v1 (v2 + 1) u
def q_mm_arrives_l4 : Nat → Int32 → Int32 → mx_S → Prop
  | 0, _, _, _ => False
  | n + 1, v1, v2, u =>
    (((mx_gf u 0 17) ≤ v2) → 
     ((¬ (v1 = (-1))) → 
      (vp_in v1 32) ∧ (
       q_mm_arrives_l70 20 v1 (mx_sf (mx_sf u 0 7 (mx_ga u 7 (v1).toNatClampNeg)) 0 17 ((mx_gf (mx_sf u 0 7 (mx_ga u 7 (v1).toNatClampNeg)) 0 17) - (1 : Int32))))) ∧ ((v1 = (-1)) → 
      True)) ∧ ((¬ ((mx_gf u 0 17) ≤ v2)) → 
     (vp_in v2 32) ∧ (
      ((¬ ((mx_ga u 8 (v2).toNatClampNeg) = (mx_gf u 0 8))) → 
       q_mm_arrives_l4 n v1 (v2 + 1) u) ∧ (((mx_ga u 8 (v2).toNatClampNeg) = (mx_gf u 0 8)) → 
       ((v1 = (-1)) → 
        q_mm_arrives_l4 n v2 (v2 + 1) u) ∧ ((¬ (v1 = (-1))) → 
        True))))
noncomputable def mm_arrives_b (u : mx_S) : Int32 × mx_S :=
  mm_arrives_l4 20 (-1) 0 u
theorem mm_arrives_ex : ∃ f : mx_S → Int32, f = (fun u => (mm_arrives_b u).1) := ⟨_, rfl⟩
noncomputable def mm_arrives : mx_S → Int32 := Classical.choose mm_arrives_ex
theorem mm_arrives_eq (u : mx_S) : (mm_arrives u) = (mm_arrives_b u).1 := by rw [show mm_arrives = (fun u => (mm_arrives_b u).1) from Classical.choose_spec mm_arrives_ex]
theorem mm_arrives_s_ex : ∃ f : mx_S → mx_S, f = (fun u => (mm_arrives_b u).2) := ⟨_, rfl⟩
noncomputable def mm_arrives_s : mx_S → mx_S := Classical.choose mm_arrives_s_ex
theorem mm_arrives_s_eq (u : mx_S) : (mm_arrives_s u) = (mm_arrives_b u).2 := by rw [show mm_arrives_s = (fun u => (mm_arrives_b u).2) from Classical.choose_spec mm_arrives_s_ex]
def q_mm_arrives (u : mx_S) : Prop :=
  q_mm_arrives_l4 20 (-1) 0 u
def pre_mm_arrives : List mx_V → mx_S → Prop := fun as u => as = [.inr (.inr 0)] ∧ q_mm_arrives u
noncomputable def fn_mm_arrives : mx_F := fun as u => match as with
  | [_] => (some (.inl (mm_arrives u)), (mm_arrives_s u))
  | _ => (none, u)
noncomputable def tb_mm_arrives : List (Nat × mx_T) := [
  (0, mx_iconst (-1) 0),
  (1, mx_istore_n 1 1),
  (2, mx_iconst 0 2),
  (3, mx_istore_n 2 3),
  (4, mx_iload_n 2 4),
  (5, mx_aload_n 0 5),
  (6, mx_getf km 3 17 6),
  (9, mx_icmp_ge 41 9),
  (12, mx_aload_n 0 12),
  (13, mx_getf km 3 19 13),
  (16, mx_iload_n 2 16),
  (17, mx_iald km 17),
  (18, mx_aload_n 0 18),
  (19, mx_getf km 3 8 19),
  (22, mx_icmp_ne 35 22),
  (25, mx_iload_n 1 25),
  (26, mx_iconst (-1) 26),
  (27, mx_icmp_eq 33 27),
  (30, mx_bipush 6 30),
  (32, mx_iret 32),
  (33, mx_iload_n 2 33),
  (34, mx_istore_n 1 34),
  (35, mx_iinc 2 1 35),
  (38, mx_goto 4 38),
  (41, mx_iload_n 1 41),
  (42, mx_iconst (-1) 42),
  (43, mx_icmp_ne 48 43),
  (46, mx_iconst 0 46),
  (47, mx_iret 47),
  (48, mx_aload_n 0 48),
  (49, mx_aload_n 0 49),
  (50, mx_getf km 3 18 50),
  (53, mx_iload_n 1 53),
  (54, mx_iald km 54),
  (55, mx_putf km 3 7 55),
  (58, mx_aload_n 0 58),
  (59, mx_dup 59),
  (60, mx_getf km 3 17 60),
  (63, mx_iconst 1 63),
  (64, mx_isub 64),
  (65, mx_putf km 3 17 65),
  (68, mx_iload_n 1 68),
  (69, mx_istore_n 2 69),
  (70, mx_iload_n 2 70),
  (71, mx_aload_n 0 71),
  (72, mx_getf km 3 17 72),
  (75, mx_icmp_ge 112 75),
  (78, mx_aload_n 0 78),
  (79, mx_getf km 3 18 79),
  (82, mx_iload_n 2 82),
  (83, mx_aload_n 0 83),
  (84, mx_getf km 3 18 84),
  (87, mx_iload_n 2 87),
  (88, mx_iconst 1 88),
  (89, mx_iadd 89),
  (90, mx_iald km 90),
  (91, mx_iast km 91),
  (92, mx_aload_n 0 92),
  (93, mx_getf km 3 19 93),
  (96, mx_iload_n 2 96),
  (97, mx_aload_n 0 97),
  (98, mx_getf km 3 19 98),
  (101, mx_iload_n 2 101),
  (102, mx_iconst 1 102),
  (103, mx_iadd 103),
  (104, mx_iald km 104),
  (105, mx_iast km 105),
  (106, mx_iinc 2 1 106),
  (109, mx_goto 70 109),
  (112, mx_iconst 0 112),
  (113, mx_iret 113)]
set_option maxRecDepth 100000 in
set_option maxHeartbeats 4000000 in
theorem ok_mm_arrives (l : Launch) : ∀ q ∈ tb_mm_arrives , mx_Ok l ({ frames := 0, cells := 0, slots := 0, locals := 0 } : Room) b_mm_arrives 3 "WideMachineModel" (some .int) vw_T vw_cl km q.1 q.2 := by
  refine List.forall_mem_cons.mpr ⟨mx_ok_iconst (show decode b_mm_arrives 0 = .ok (.iconst (-1), 1) by decide +kernel) (by decide), ?_⟩
  refine List.forall_mem_cons.mpr ⟨mx_ok_istore_n (show decode b_mm_arrives 1 = .ok (.istore_n 1, 1) by decide +kernel) rfl (by decide), ?_⟩
  refine List.forall_mem_cons.mpr ⟨mx_ok_iconst (show decode b_mm_arrives 2 = .ok (.iconst 0, 1) by decide +kernel) (by decide), ?_⟩
  refine List.forall_mem_cons.mpr ⟨mx_ok_istore_n (show decode b_mm_arrives 3 = .ok (.istore_n 2, 1) by decide +kernel) rfl (by decide), ?_⟩
  refine List.forall_mem_cons.mpr ⟨mx_ok_iload_n (show decode b_mm_arrives 4 = .ok (.iload_n 2, 1) by decide +kernel) rfl, ?_⟩
  refine List.forall_mem_cons.mpr ⟨mx_ok_aload_n (show decode b_mm_arrives 5 = .ok (.aload_n 0, 1) by decide +kernel) rfl, ?_⟩
  refine List.forall_mem_cons.mpr ⟨mx_ok_getf fd_mm_62 (show decode b_mm_arrives 6 = .ok (.getfield 62, 3) by decide +kernel), ?_⟩
  refine List.forall_mem_cons.mpr ⟨mx_ok_icmp_ge (show decode b_mm_arrives 9 = .ok (.if_icmp .ge 32, 3) by decide +kernel) (by decide), ?_⟩
  refine List.forall_mem_cons.mpr ⟨mx_ok_aload_n (show decode b_mm_arrives 12 = .ok (.aload_n 0, 1) by decide +kernel) rfl, ?_⟩
  refine List.forall_mem_cons.mpr ⟨mx_ok_getf fd_mm_31 (show decode b_mm_arrives 13 = .ok (.getfield 31, 3) by decide +kernel), ?_⟩
  refine List.forall_mem_cons.mpr ⟨mx_ok_iload_n (show decode b_mm_arrives 16 = .ok (.iload_n 2, 1) by decide +kernel) rfl, ?_⟩
  refine List.forall_mem_cons.mpr ⟨mx_ok_iald (show decode b_mm_arrives 17 = .ok (.iaload, 1) by decide +kernel), ?_⟩
  refine List.forall_mem_cons.mpr ⟨mx_ok_aload_n (show decode b_mm_arrives 18 = .ok (.aload_n 0, 1) by decide +kernel) rfl, ?_⟩
  refine List.forall_mem_cons.mpr ⟨mx_ok_getf fd_mm_56 (show decode b_mm_arrives 19 = .ok (.getfield 56, 3) by decide +kernel), ?_⟩
  refine List.forall_mem_cons.mpr ⟨mx_ok_icmp_ne (show decode b_mm_arrives 22 = .ok (.if_icmp .ne 13, 3) by decide +kernel) (by decide), ?_⟩
  refine List.forall_mem_cons.mpr ⟨mx_ok_iload_n (show decode b_mm_arrives 25 = .ok (.iload_n 1, 1) by decide +kernel) rfl, ?_⟩
  refine List.forall_mem_cons.mpr ⟨mx_ok_iconst (show decode b_mm_arrives 26 = .ok (.iconst (-1), 1) by decide +kernel) (by decide), ?_⟩
  refine List.forall_mem_cons.mpr ⟨mx_ok_icmp_eq (show decode b_mm_arrives 27 = .ok (.if_icmp .eq 6, 3) by decide +kernel) (by decide), ?_⟩
  refine List.forall_mem_cons.mpr ⟨mx_ok_bipush (show decode b_mm_arrives 30 = .ok (.bipush 6, 2) by decide +kernel) (by decide), ?_⟩
  refine List.forall_mem_cons.mpr ⟨mx_ok_iret (show decode b_mm_arrives 32 = .ok (.ireturn, 1) by decide +kernel) rfl, ?_⟩
  refine List.forall_mem_cons.mpr ⟨mx_ok_iload_n (show decode b_mm_arrives 33 = .ok (.iload_n 2, 1) by decide +kernel) rfl, ?_⟩
  refine List.forall_mem_cons.mpr ⟨mx_ok_istore_n (show decode b_mm_arrives 34 = .ok (.istore_n 1, 1) by decide +kernel) rfl (by decide), ?_⟩
  refine List.forall_mem_cons.mpr ⟨mx_ok_iinc (show decode b_mm_arrives 35 = .ok (.iinc 2 1, 3) by decide +kernel) (by decide) (by decide), ?_⟩
  refine List.forall_mem_cons.mpr ⟨mx_ok_goto (show decode b_mm_arrives 38 = .ok (.goto (-34), 3) by decide +kernel) (by decide), ?_⟩
  refine List.forall_mem_cons.mpr ⟨mx_ok_iload_n (show decode b_mm_arrives 41 = .ok (.iload_n 1, 1) by decide +kernel) rfl, ?_⟩
  refine List.forall_mem_cons.mpr ⟨mx_ok_iconst (show decode b_mm_arrives 42 = .ok (.iconst (-1), 1) by decide +kernel) (by decide), ?_⟩
  refine List.forall_mem_cons.mpr ⟨mx_ok_icmp_ne (show decode b_mm_arrives 43 = .ok (.if_icmp .ne 5, 3) by decide +kernel) (by decide), ?_⟩
  refine List.forall_mem_cons.mpr ⟨mx_ok_iconst (show decode b_mm_arrives 46 = .ok (.iconst 0, 1) by decide +kernel) (by decide), ?_⟩
  refine List.forall_mem_cons.mpr ⟨mx_ok_iret (show decode b_mm_arrives 47 = .ok (.ireturn, 1) by decide +kernel) rfl, ?_⟩
  refine List.forall_mem_cons.mpr ⟨mx_ok_aload_n (show decode b_mm_arrives 48 = .ok (.aload_n 0, 1) by decide +kernel) rfl, ?_⟩
  refine List.forall_mem_cons.mpr ⟨mx_ok_aload_n (show decode b_mm_arrives 49 = .ok (.aload_n 0, 1) by decide +kernel) rfl, ?_⟩
  refine List.forall_mem_cons.mpr ⟨mx_ok_getf fd_mm_28 (show decode b_mm_arrives 50 = .ok (.getfield 28, 3) by decide +kernel), ?_⟩
  refine List.forall_mem_cons.mpr ⟨mx_ok_iload_n (show decode b_mm_arrives 53 = .ok (.iload_n 1, 1) by decide +kernel) rfl, ?_⟩
  refine List.forall_mem_cons.mpr ⟨mx_ok_iald (show decode b_mm_arrives 54 = .ok (.iaload, 1) by decide +kernel), ?_⟩
  refine List.forall_mem_cons.mpr ⟨mx_ok_putf fd_mm_53 fw_3_7 (show decode b_mm_arrives 55 = .ok (.putfield 53, 3) by decide +kernel), ?_⟩
  refine List.forall_mem_cons.mpr ⟨mx_ok_aload_n (show decode b_mm_arrives 58 = .ok (.aload_n 0, 1) by decide +kernel) rfl, ?_⟩
  refine List.forall_mem_cons.mpr ⟨mx_ok_dup (show decode b_mm_arrives 59 = .ok (.dup, 1) by decide +kernel), ?_⟩
  refine List.forall_mem_cons.mpr ⟨mx_ok_getf fd_mm_62 (show decode b_mm_arrives 60 = .ok (.getfield 62, 3) by decide +kernel), ?_⟩
  refine List.forall_mem_cons.mpr ⟨mx_ok_iconst (show decode b_mm_arrives 63 = .ok (.iconst 1, 1) by decide +kernel) (by decide), ?_⟩
  refine List.forall_mem_cons.mpr ⟨mx_ok_isub (show decode b_mm_arrives 64 = .ok (.isub, 1) by decide +kernel), ?_⟩
  refine List.forall_mem_cons.mpr ⟨mx_ok_putf fd_mm_62 fw_3_17 (show decode b_mm_arrives 65 = .ok (.putfield 62, 3) by decide +kernel), ?_⟩
  refine List.forall_mem_cons.mpr ⟨mx_ok_iload_n (show decode b_mm_arrives 68 = .ok (.iload_n 1, 1) by decide +kernel) rfl, ?_⟩
  refine List.forall_mem_cons.mpr ⟨mx_ok_istore_n (show decode b_mm_arrives 69 = .ok (.istore_n 2, 1) by decide +kernel) rfl (by decide), ?_⟩
  refine List.forall_mem_cons.mpr ⟨mx_ok_iload_n (show decode b_mm_arrives 70 = .ok (.iload_n 2, 1) by decide +kernel) rfl, ?_⟩
  refine List.forall_mem_cons.mpr ⟨mx_ok_aload_n (show decode b_mm_arrives 71 = .ok (.aload_n 0, 1) by decide +kernel) rfl, ?_⟩
  refine List.forall_mem_cons.mpr ⟨mx_ok_getf fd_mm_62 (show decode b_mm_arrives 72 = .ok (.getfield 62, 3) by decide +kernel), ?_⟩
  refine List.forall_mem_cons.mpr ⟨mx_ok_icmp_ge (show decode b_mm_arrives 75 = .ok (.if_icmp .ge 37, 3) by decide +kernel) (by decide), ?_⟩
  refine List.forall_mem_cons.mpr ⟨mx_ok_aload_n (show decode b_mm_arrives 78 = .ok (.aload_n 0, 1) by decide +kernel) rfl, ?_⟩
  refine List.forall_mem_cons.mpr ⟨mx_ok_getf fd_mm_28 (show decode b_mm_arrives 79 = .ok (.getfield 28, 3) by decide +kernel), ?_⟩
  refine List.forall_mem_cons.mpr ⟨mx_ok_iload_n (show decode b_mm_arrives 82 = .ok (.iload_n 2, 1) by decide +kernel) rfl, ?_⟩
  refine List.forall_mem_cons.mpr ⟨mx_ok_aload_n (show decode b_mm_arrives 83 = .ok (.aload_n 0, 1) by decide +kernel) rfl, ?_⟩
  refine List.forall_mem_cons.mpr ⟨mx_ok_getf fd_mm_28 (show decode b_mm_arrives 84 = .ok (.getfield 28, 3) by decide +kernel), ?_⟩
  refine List.forall_mem_cons.mpr ⟨mx_ok_iload_n (show decode b_mm_arrives 87 = .ok (.iload_n 2, 1) by decide +kernel) rfl, ?_⟩
  refine List.forall_mem_cons.mpr ⟨mx_ok_iconst (show decode b_mm_arrives 88 = .ok (.iconst 1, 1) by decide +kernel) (by decide), ?_⟩
  refine List.forall_mem_cons.mpr ⟨mx_ok_iadd (show decode b_mm_arrives 89 = .ok (.iadd, 1) by decide +kernel), ?_⟩
  refine List.forall_mem_cons.mpr ⟨mx_ok_iald (show decode b_mm_arrives 90 = .ok (.iaload, 1) by decide +kernel), ?_⟩
  refine List.forall_mem_cons.mpr ⟨mx_ok_iast (show decode b_mm_arrives 91 = .ok (.iastore, 1) by decide +kernel), ?_⟩
  refine List.forall_mem_cons.mpr ⟨mx_ok_aload_n (show decode b_mm_arrives 92 = .ok (.aload_n 0, 1) by decide +kernel) rfl, ?_⟩
  refine List.forall_mem_cons.mpr ⟨mx_ok_getf fd_mm_31 (show decode b_mm_arrives 93 = .ok (.getfield 31, 3) by decide +kernel), ?_⟩
  refine List.forall_mem_cons.mpr ⟨mx_ok_iload_n (show decode b_mm_arrives 96 = .ok (.iload_n 2, 1) by decide +kernel) rfl, ?_⟩
  refine List.forall_mem_cons.mpr ⟨mx_ok_aload_n (show decode b_mm_arrives 97 = .ok (.aload_n 0, 1) by decide +kernel) rfl, ?_⟩
  refine List.forall_mem_cons.mpr ⟨mx_ok_getf fd_mm_31 (show decode b_mm_arrives 98 = .ok (.getfield 31, 3) by decide +kernel), ?_⟩
  refine List.forall_mem_cons.mpr ⟨mx_ok_iload_n (show decode b_mm_arrives 101 = .ok (.iload_n 2, 1) by decide +kernel) rfl, ?_⟩
  refine List.forall_mem_cons.mpr ⟨mx_ok_iconst (show decode b_mm_arrives 102 = .ok (.iconst 1, 1) by decide +kernel) (by decide), ?_⟩
  refine List.forall_mem_cons.mpr ⟨mx_ok_iadd (show decode b_mm_arrives 103 = .ok (.iadd, 1) by decide +kernel), ?_⟩
  refine List.forall_mem_cons.mpr ⟨mx_ok_iald (show decode b_mm_arrives 104 = .ok (.iaload, 1) by decide +kernel), ?_⟩
  refine List.forall_mem_cons.mpr ⟨mx_ok_iast (show decode b_mm_arrives 105 = .ok (.iastore, 1) by decide +kernel), ?_⟩
  refine List.forall_mem_cons.mpr ⟨mx_ok_iinc (show decode b_mm_arrives 106 = .ok (.iinc 2 1, 3) by decide +kernel) (by decide) (by decide), ?_⟩
  refine List.forall_mem_cons.mpr ⟨mx_ok_goto (show decode b_mm_arrives 109 = .ok (.goto (-39), 3) by decide +kernel) (by decide), ?_⟩
  refine List.forall_mem_cons.mpr ⟨mx_ok_iconst (show decode b_mm_arrives 112 = .ok (.iconst 0, 1) by decide +kernel) (by decide), ?_⟩
  refine List.forall_mem_cons.mpr ⟨mx_ok_iret (show decode b_mm_arrives 113 = .ok (.ireturn, 1) by decide +kernel) rfl, ?_⟩
  exact fun _ h => absurd h List.not_mem_nil
set_option maxRecDepth 100000 in
set_option maxHeartbeats 4000000 in
theorem ct_mm_arrives (l : Launch) : mx_Ct l vw_T vw_cl km { frames := 0, cells := 0, slots := 0, locals := 0 } y_mm_arrives b_mm_arrives 3 (some .int) pre_mm_arrives fn_mm_arrives := by
  refine mx_ct_of (tb_mm_arrives ) (by decide) (ok_mm_arrives l ) (fun as u h => by obtain ⟨rfl, -⟩ := h; exact Nat.le_of_ble_eq_true rfl) ?_
  intro as u hpre At hc hw
  obtain ⟨rfl, hp⟩ := hpre
  obtain ⟨RES, hRES⟩ : ∃ z, z = (mm_arrives_b u) := ⟨_, rfl⟩
  have hfn : fn_mm_arrives [.inr (.inr 0)] u = mx_rB RES := by
    show ((some (.inl (mm_arrives u)), (mm_arrives_s u)) : Option mx_V × mx_S) = _
    rw [hRES, mm_arrives_eq, mm_arrives_s_eq]
    rfl
  rw [hfn] at hc
  have lp70 : ∀ (n70 : Nat) (v2 : Int32) (u : mx_S), q_mm_arrives_l70 n70 v2 u → mm_arrives_l70 n70 v2 u = RES → At 70 [(2, .inl v2), (0, .inr (.inr 0))] [] u := by
    intro n70
    induction n70 with
    | zero =>
      intro v2 u hi he
      exact hi.elim
    | succ n70 ih70 =>
      intro v2 u hi70 he70
      exact hc 200 [4, 70] _ _ _ _ (
        And.intro (fun h75 => 
         congrArg mx_rB (show (0, u) = RES from (if_pos h75).symm.trans he70)) (fun h75 => 
         And.intro ((hi70.2 h75).1) (
         And.intro ((hi70.2 h75).2.1) (
         And.intro ((hi70.2 h75).2.2.1) (
         And.intro ((hi70.2 h75).2.2.2.1) (
         hw [0, 1] 70 _ [] _ (ih70 (v2 + 1) (mx_sa (mx_sa u 7 (v2).toNatClampNeg (mx_ga u 7 ((v2 + (1 : Int32))).toNatClampNeg)) 8 (v2).toNatClampNeg (mx_ga (mx_sa u 7 (v2).toNatClampNeg (mx_ga u 7 ((v2 + (1 : Int32))).toNatClampNeg)) 8 ((v2 + (1 : Int32))).toNatClampNeg)) (hi70.2 h75).2.2.2.2 ((if_neg h75).symm.trans he70))))))))
  have lp4 : ∀ (n4 : Nat) (v1 : Int32) (v2 : Int32) (u : mx_S), q_mm_arrives_l4 n4 v1 v2 u → mm_arrives_l4 n4 v1 v2 u = RES → At 4 [(1, .inl v1), (2, .inl v2), (0, .inr (.inr 0))] [] u := by
    intro n4
    induction n4 with
    | zero =>
      intro v1 v2 u hi he
      exact hi.elim
    | succ n4 ih4 =>
      intro v1 v2 u hi4 he4
      exact hc 200 [4, 70] _ _ _ _ (
        And.intro (fun h9 => 
         And.intro (fun h43 => 
          And.intro (((hi4.1 h9).1 h43).1) (
          And.intro rfl (
          And.intro rfl (
          hw [0, 2] 70 _ [] _ (lp70 20 v1 (mx_sf (mx_sf u 0 7 (mx_ga u 7 (v1).toNatClampNeg)) 0 17 ((mx_gf (mx_sf u 0 7 (mx_ga u 7 (v1).toNatClampNeg)) 0 17) - (1 : Int32))) ((hi4.1 h9).1 h43).2 (((if_pos h9).trans (if_neg h43)).symm.trans he4)))))) (fun h43 => 
          congrArg mx_rB (show (0, u) = RES from ((if_pos h9).trans (if_pos h43)).symm.trans he4))) (fun h9 => 
         And.intro ((hi4.2 h9).1) (
         And.intro (fun h22 => 
          hw [1, 0, 2] 4 _ [] _ (ih4 v1 (v2 + 1) u ((hi4.2 h9).2.1 h22) (((if_neg h9).trans (if_neg h22)).symm.trans he4))) (fun h22 => 
          And.intro (fun h27 => 
           hw [1, 0, 2] 4 _ [] _ (ih4 v2 (v2 + 1) u (((hi4.2 h9).2.2 h22).1 h27) (((if_neg h9).trans ((if_pos h22).trans (if_pos h27))).symm.trans he4))) (fun h27 => 
           congrArg mx_rB (show (6, u) = RES from ((if_neg h9).trans ((if_pos h22).trans (if_neg h27))).symm.trans he4))))))
  exact hc 200 [4, 70] _ _ _ _ (
    hw [1, 0, 2] 4 _ [] _ (lp4 20 (-1) 0 u hp ((rfl).symm.trans hRES.symm)))
/-! WideMachineModel.interrupts()V -/
noncomputable def mm_interrupts_l24 : Nat → Int32 → mx_S → (mx_S)
  | 0, _, u => u
  | n + 1, v1, u =>
    if (((mx_gf u 0 12) >>> (v1 &&& 31)) &&& (1 : Int32)) = 0 then
     mm_interrupts_l24 n (v1 + 1) u
    else
     (mx_sf (mx_sf (mx_sf (mx_sf u 0 12 ((mx_gf u 0 12) &&& (((1 : Int32) <<< (v1 &&& 31)) ^^^ ((-1) : Int32)))) 0 11 0) 0 10 (mx_gf (mx_sf (mx_sf u 0 12 ((mx_gf u 0 12) &&& (((1 : Int32) <<< (v1 &&& 31)) ^^^ ((-1) : Int32)))) 0 11 0) 0 7)) 0 7 (((8 : Int32) * v1) + (8 : Int32)))
def q_mm_interrupts_l24 : Nat → Int32 → mx_S → Prop
  | 0, _, _ => False
  | n + 1, v1, u =>
    ((¬ ((((mx_gf u 0 12) >>> (v1 &&& 31)) &&& (1 : Int32)) = 0)) → 
     True) ∧ (((((mx_gf u 0 12) >>> (v1 &&& 31)) &&& (1 : Int32)) = 0) → 
     q_mm_interrupts_l24 n (v1 + 1) u)
noncomputable def mm_interrupts_b (u : mx_S) : mx_S :=
  if (mx_gf u 0 11) = 0 then
   u
  else
   if (mx_gf u 0 12) = 0 then
    u
   else
    if (mx_gf u 0 17) ≤ 0 then
     mm_interrupts_l24 20 0 u
    else
     u
theorem mm_interrupts_ex : ∃ f : mx_S → (mx_S), f = mm_interrupts_b := ⟨_, rfl⟩
noncomputable def mm_interrupts : mx_S → (mx_S) := Classical.choose mm_interrupts_ex
theorem mm_interrupts_eq (u : mx_S) : (mm_interrupts u) = (mm_interrupts_b u) := by rw [show mm_interrupts = mm_interrupts_b from Classical.choose_spec mm_interrupts_ex]
def q_mm_interrupts (u : mx_S) : Prop :=
  (((mx_gf u 0 11) = 0) → 
   True) ∧ ((¬ ((mx_gf u 0 11) = 0)) → 
   (((mx_gf u 0 12) = 0) → 
    True) ∧ ((¬ ((mx_gf u 0 12) = 0)) → 
    (((mx_gf u 0 17) ≤ 0) → 
     q_mm_interrupts_l24 20 0 u) ∧ ((¬ ((mx_gf u 0 17) ≤ 0)) → 
     True)))
def pre_mm_interrupts : List mx_V → mx_S → Prop := fun as u => as = [.inr (.inr 0)] ∧ q_mm_interrupts u
noncomputable def fn_mm_interrupts : mx_F := fun as u => match as with
  | [_] => (none, (mm_interrupts u))
  | _ => (none, u)
noncomputable def tb_mm_interrupts : List (Nat × mx_T) := [
  (0, mx_aload_n 0 0),
  (1, mx_getf km 3 11 1),
  (4, mx_if_eq 21 4),
  (7, mx_aload_n 0 7),
  (8, mx_getf km 3 12 8),
  (11, mx_if_eq 21 11),
  (14, mx_aload_n 0 14),
  (15, mx_getf km 3 17 15),
  (18, mx_if_le 22 18),
  (21, mx_vret 21),
  (22, mx_iconst 0 22),
  (23, mx_istore_n 1 23),
  (24, mx_aload_n 0 24),
  (25, mx_getf km 3 12 25),
  (28, mx_iload_n 1 28),
  (29, mx_ishr 29),
  (30, mx_iconst 1 30),
  (31, mx_iand 31),
  (32, mx_if_ne 41 32),
  (35, mx_iinc 1 1 35),
  (38, mx_goto 24 38),
  (41, mx_aload_n 0 41),
  (42, mx_dup 42),
  (43, mx_getf km 3 12 43),
  (46, mx_iconst 1 46),
  (47, mx_iload_n 1 47),
  (48, mx_ishl 48),
  (49, mx_iconst (-1) 49),
  (50, mx_ixor 50),
  (51, mx_iand 51),
  (52, mx_putf km 3 12 52),
  (55, mx_aload_n 0 55),
  (56, mx_iconst 0 56),
  (57, mx_putz km 3 11 57),
  (60, mx_aload_n 0 60),
  (61, mx_aload_n 0 61),
  (62, mx_getf km 3 7 62),
  (65, mx_putf km 3 10 65),
  (68, mx_aload_n 0 68),
  (69, mx_bipush 8 69),
  (71, mx_iload_n 1 71),
  (72, mx_imul 72),
  (73, mx_bipush 8 73),
  (75, mx_iadd 75),
  (76, mx_putf km 3 7 76),
  (79, mx_vret 79)]
set_option maxRecDepth 100000 in
set_option maxHeartbeats 4000000 in
theorem ok_mm_interrupts (l : Launch) : ∀ q ∈ tb_mm_interrupts , mx_Ok l ({ frames := 0, cells := 0, slots := 0, locals := 0 } : Room) b_mm_interrupts 2 "WideMachineModel" none vw_T vw_cl km q.1 q.2 := by
  refine List.forall_mem_cons.mpr ⟨mx_ok_aload_n (show decode b_mm_interrupts 0 = .ok (.aload_n 0, 1) by decide +kernel) rfl, ?_⟩
  refine List.forall_mem_cons.mpr ⟨mx_ok_getf fd_mm_71 (show decode b_mm_interrupts 1 = .ok (.getfield 71, 3) by decide +kernel), ?_⟩
  refine List.forall_mem_cons.mpr ⟨mx_ok_if_eq (show decode b_mm_interrupts 4 = .ok (.ifCond .eq 17, 3) by decide +kernel) (by decide), ?_⟩
  refine List.forall_mem_cons.mpr ⟨mx_ok_aload_n (show decode b_mm_interrupts 7 = .ok (.aload_n 0, 1) by decide +kernel) rfl, ?_⟩
  refine List.forall_mem_cons.mpr ⟨mx_ok_getf fd_mm_75 (show decode b_mm_interrupts 8 = .ok (.getfield 75, 3) by decide +kernel), ?_⟩
  refine List.forall_mem_cons.mpr ⟨mx_ok_if_eq (show decode b_mm_interrupts 11 = .ok (.ifCond .eq 10, 3) by decide +kernel) (by decide), ?_⟩
  refine List.forall_mem_cons.mpr ⟨mx_ok_aload_n (show decode b_mm_interrupts 14 = .ok (.aload_n 0, 1) by decide +kernel) rfl, ?_⟩
  refine List.forall_mem_cons.mpr ⟨mx_ok_getf fd_mm_62 (show decode b_mm_interrupts 15 = .ok (.getfield 62, 3) by decide +kernel), ?_⟩
  refine List.forall_mem_cons.mpr ⟨mx_ok_if_le (show decode b_mm_interrupts 18 = .ok (.ifCond .le 4, 3) by decide +kernel) (by decide), ?_⟩
  refine List.forall_mem_cons.mpr ⟨mx_ok_vret (show decode b_mm_interrupts 21 = .ok (.return_, 1) by decide +kernel) rfl, ?_⟩
  refine List.forall_mem_cons.mpr ⟨mx_ok_iconst (show decode b_mm_interrupts 22 = .ok (.iconst 0, 1) by decide +kernel) (by decide), ?_⟩
  refine List.forall_mem_cons.mpr ⟨mx_ok_istore_n (show decode b_mm_interrupts 23 = .ok (.istore_n 1, 1) by decide +kernel) rfl (by decide), ?_⟩
  refine List.forall_mem_cons.mpr ⟨mx_ok_aload_n (show decode b_mm_interrupts 24 = .ok (.aload_n 0, 1) by decide +kernel) rfl, ?_⟩
  refine List.forall_mem_cons.mpr ⟨mx_ok_getf fd_mm_75 (show decode b_mm_interrupts 25 = .ok (.getfield 75, 3) by decide +kernel), ?_⟩
  refine List.forall_mem_cons.mpr ⟨mx_ok_iload_n (show decode b_mm_interrupts 28 = .ok (.iload_n 1, 1) by decide +kernel) rfl, ?_⟩
  refine List.forall_mem_cons.mpr ⟨mx_ok_ishr (show decode b_mm_interrupts 29 = .ok (.ishr, 1) by decide +kernel), ?_⟩
  refine List.forall_mem_cons.mpr ⟨mx_ok_iconst (show decode b_mm_interrupts 30 = .ok (.iconst 1, 1) by decide +kernel) (by decide), ?_⟩
  refine List.forall_mem_cons.mpr ⟨mx_ok_iand (show decode b_mm_interrupts 31 = .ok (.iand, 1) by decide +kernel), ?_⟩
  refine List.forall_mem_cons.mpr ⟨mx_ok_if_ne (show decode b_mm_interrupts 32 = .ok (.ifCond .ne 9, 3) by decide +kernel) (by decide), ?_⟩
  refine List.forall_mem_cons.mpr ⟨mx_ok_iinc (show decode b_mm_interrupts 35 = .ok (.iinc 1 1, 3) by decide +kernel) (by decide) (by decide), ?_⟩
  refine List.forall_mem_cons.mpr ⟨mx_ok_goto (show decode b_mm_interrupts 38 = .ok (.goto (-14), 3) by decide +kernel) (by decide), ?_⟩
  refine List.forall_mem_cons.mpr ⟨mx_ok_aload_n (show decode b_mm_interrupts 41 = .ok (.aload_n 0, 1) by decide +kernel) rfl, ?_⟩
  refine List.forall_mem_cons.mpr ⟨mx_ok_dup (show decode b_mm_interrupts 42 = .ok (.dup, 1) by decide +kernel), ?_⟩
  refine List.forall_mem_cons.mpr ⟨mx_ok_getf fd_mm_75 (show decode b_mm_interrupts 43 = .ok (.getfield 75, 3) by decide +kernel), ?_⟩
  refine List.forall_mem_cons.mpr ⟨mx_ok_iconst (show decode b_mm_interrupts 46 = .ok (.iconst 1, 1) by decide +kernel) (by decide), ?_⟩
  refine List.forall_mem_cons.mpr ⟨mx_ok_iload_n (show decode b_mm_interrupts 47 = .ok (.iload_n 1, 1) by decide +kernel) rfl, ?_⟩
  refine List.forall_mem_cons.mpr ⟨mx_ok_ishl (show decode b_mm_interrupts 48 = .ok (.ishl, 1) by decide +kernel), ?_⟩
  refine List.forall_mem_cons.mpr ⟨mx_ok_iconst (show decode b_mm_interrupts 49 = .ok (.iconst (-1), 1) by decide +kernel) (by decide), ?_⟩
  refine List.forall_mem_cons.mpr ⟨mx_ok_ixor (show decode b_mm_interrupts 50 = .ok (.ixor, 1) by decide +kernel), ?_⟩
  refine List.forall_mem_cons.mpr ⟨mx_ok_iand (show decode b_mm_interrupts 51 = .ok (.iand, 1) by decide +kernel), ?_⟩
  refine List.forall_mem_cons.mpr ⟨mx_ok_putf fd_mm_75 fw_3_12 (show decode b_mm_interrupts 52 = .ok (.putfield 75, 3) by decide +kernel), ?_⟩
  refine List.forall_mem_cons.mpr ⟨mx_ok_aload_n (show decode b_mm_interrupts 55 = .ok (.aload_n 0, 1) by decide +kernel) rfl, ?_⟩
  refine List.forall_mem_cons.mpr ⟨mx_ok_iconst (show decode b_mm_interrupts 56 = .ok (.iconst 0, 1) by decide +kernel) (by decide), ?_⟩
  refine List.forall_mem_cons.mpr ⟨mx_ok_putz fd_mm_71 fw_3_11 (show decode b_mm_interrupts 57 = .ok (.putfield 71, 3) by decide +kernel), ?_⟩
  refine List.forall_mem_cons.mpr ⟨mx_ok_aload_n (show decode b_mm_interrupts 60 = .ok (.aload_n 0, 1) by decide +kernel) rfl, ?_⟩
  refine List.forall_mem_cons.mpr ⟨mx_ok_aload_n (show decode b_mm_interrupts 61 = .ok (.aload_n 0, 1) by decide +kernel) rfl, ?_⟩
  refine List.forall_mem_cons.mpr ⟨mx_ok_getf fd_mm_53 (show decode b_mm_interrupts 62 = .ok (.getfield 53, 3) by decide +kernel), ?_⟩
  refine List.forall_mem_cons.mpr ⟨mx_ok_putf fd_mm_68 fw_3_10 (show decode b_mm_interrupts 65 = .ok (.putfield 68, 3) by decide +kernel), ?_⟩
  refine List.forall_mem_cons.mpr ⟨mx_ok_aload_n (show decode b_mm_interrupts 68 = .ok (.aload_n 0, 1) by decide +kernel) rfl, ?_⟩
  refine List.forall_mem_cons.mpr ⟨mx_ok_bipush (show decode b_mm_interrupts 69 = .ok (.bipush 8, 2) by decide +kernel) (by decide), ?_⟩
  refine List.forall_mem_cons.mpr ⟨mx_ok_iload_n (show decode b_mm_interrupts 71 = .ok (.iload_n 1, 1) by decide +kernel) rfl, ?_⟩
  refine List.forall_mem_cons.mpr ⟨mx_ok_imul (show decode b_mm_interrupts 72 = .ok (.imul, 1) by decide +kernel), ?_⟩
  refine List.forall_mem_cons.mpr ⟨mx_ok_bipush (show decode b_mm_interrupts 73 = .ok (.bipush 8, 2) by decide +kernel) (by decide), ?_⟩
  refine List.forall_mem_cons.mpr ⟨mx_ok_iadd (show decode b_mm_interrupts 75 = .ok (.iadd, 1) by decide +kernel), ?_⟩
  refine List.forall_mem_cons.mpr ⟨mx_ok_putf fd_mm_53 fw_3_7 (show decode b_mm_interrupts 76 = .ok (.putfield 53, 3) by decide +kernel), ?_⟩
  refine List.forall_mem_cons.mpr ⟨mx_ok_vret (show decode b_mm_interrupts 79 = .ok (.return_, 1) by decide +kernel) rfl, ?_⟩
  exact fun _ h => absurd h List.not_mem_nil
set_option maxRecDepth 100000 in
set_option maxHeartbeats 4000000 in
theorem ct_mm_interrupts (l : Launch) : mx_Ct l vw_T vw_cl km { frames := 0, cells := 0, slots := 0, locals := 0 } y_mm_interrupts b_mm_interrupts 2 none pre_mm_interrupts fn_mm_interrupts := by
  refine mx_ct_of (tb_mm_interrupts ) (by decide) (ok_mm_interrupts l ) (fun as u h => by obtain ⟨rfl, -⟩ := h; exact Nat.le_of_ble_eq_true rfl) ?_
  intro as u hpre At hc hw
  obtain ⟨rfl, hp⟩ := hpre
  obtain ⟨RES, hRES⟩ : ∃ z, z = (mm_interrupts u) := ⟨_, rfl⟩
  have hfn : fn_mm_interrupts [.inr (.inr 0)] u = (none, RES) := by rw [hRES]; rfl
  rw [hfn] at hc
  have lp24 : ∀ (n24 : Nat) (v1 : Int32) (u : mx_S), q_mm_interrupts_l24 n24 v1 u → mm_interrupts_l24 n24 v1 u = RES → At 24 [(1, .inl v1), (0, .inr (.inr 0))] [] u := by
    intro n24
    induction n24 with
    | zero =>
      intro v1 u hi he
      exact hi.elim
    | succ n24 ih24 =>
      intro v1 u hi24 he24
      exact hc 200 [24] _ _ _ _ (
        And.intro (fun h32 => 
         And.intro rfl (
         And.intro rfl (
         And.intro (Or.inl rfl) (
         And.intro rfl (
         And.intro rfl (
         congrArg (fun z : mx_S => ((none, z) : Option mx_V × mx_S)) (show (mx_sf (mx_sf (mx_sf (mx_sf u 0 12 ((mx_gf u 0 12) &&& (((1 : Int32) <<< (v1 &&& 31)) ^^^ ((-1) : Int32)))) 0 11 0) 0 10 (mx_gf (mx_sf (mx_sf u 0 12 ((mx_gf u 0 12) &&& (((1 : Int32) <<< (v1 &&& 31)) ^^^ ((-1) : Int32)))) 0 11 0) 0 7)) 0 7 (((8 : Int32) * v1) + (8 : Int32))) = RES from (if_neg h32).symm.trans he24))))))) (fun h32 => 
         hw [0, 1] 24 _ [] _ (ih24 (v1 + 1) u (hi24.2 h32) ((if_pos h32).symm.trans he24))))
  exact hc 200 [24] _ _ _ _ (
    And.intro (fun h4 => 
     congrArg (fun z : mx_S => ((none, z) : Option mx_V × mx_S)) (show u = RES from ((mm_interrupts_eq u).trans (if_pos h4)).symm.trans hRES.symm)) (fun h4 => 
     And.intro (fun h11 => 
      congrArg (fun z : mx_S => ((none, z) : Option mx_V × mx_S)) (show u = RES from ((mm_interrupts_eq u).trans ((if_neg h4).trans (if_pos h11))).symm.trans hRES.symm)) (fun h11 => 
      And.intro (fun h18 => 
       hw [0, 1] 24 _ [] _ (lp24 20 0 u (((hp.2 h4).2 h11).1 h18) (((mm_interrupts_eq u).trans ((if_neg h4).trans ((if_neg h11).trans (if_pos h18)))).symm.trans hRES.symm))) (fun h18 => 
       congrArg (fun z : mx_S => ((none, z) : Option mx_V × mx_S)) (show u = RES from ((mm_interrupts_eq u).trans ((if_neg h4).trans ((if_neg h11).trans (if_neg h18)))).symm.trans hRES.symm)))))
/-! WideMachineModel.isDone(I)Z -/
noncomputable def mm_isDone_b (a1 : Int32) (u : mx_S) : Int32 :=
  if (mm_condition a1 ) = 1 then
   if (mm_condition a1 ) = 0 then
    1
   else
    if (mx_ga u 3 ((16 : Int32)).toNatClampNeg) = 0 then
     if ((a1 >>> ((4 : Int32) &&& 31)) &&& (1 : Int32)) = 1 then
      1
     else
      0
    else
     if ((a1 >>> ((4 : Int32) &&& 31)) &&& (1 : Int32)) = 1 then
      0
     else
      1
  else
   if (mm_condition a1 ) = 2 then
    if (mm_condition a1 ) = 0 then
     1
    else
     if (mx_ga u 3 ((17 : Int32)).toNatClampNeg) = 0 then
      if ((a1 >>> ((4 : Int32) &&& 31)) &&& (1 : Int32)) = 1 then
       1
      else
       0
     else
      if ((a1 >>> ((4 : Int32) &&& 31)) &&& (1 : Int32)) = 1 then
       0
      else
       1
   else
    if (mm_condition a1 ) = 3 then
     if (mm_condition a1 ) = 0 then
      1
     else
      if (mx_ga u 3 ((18 : Int32)).toNatClampNeg) = 0 then
       if ((a1 >>> ((4 : Int32) &&& 31)) &&& (1 : Int32)) = 1 then
        1
       else
        0
      else
       if ((a1 >>> ((4 : Int32) &&& 31)) &&& (1 : Int32)) = 1 then
        0
       else
        1
    else
     if (mm_condition a1 ) = 0 then
      1
     else
      if (mx_ga u 3 (((mm_condition a1 ) - (3 : Int32))).toNatClampNeg) = 0 then
       if ((a1 >>> ((4 : Int32) &&& 31)) &&& (1 : Int32)) = 1 then
        1
       else
        0
      else
       if ((a1 >>> ((4 : Int32) &&& 31)) &&& (1 : Int32)) = 1 then
        0
       else
        1
theorem mm_isDone_ex : ∃ f : Int32 → mx_S → (Int32), f = mm_isDone_b := ⟨_, rfl⟩
noncomputable def mm_isDone : Int32 → mx_S → (Int32) := Classical.choose mm_isDone_ex
theorem mm_isDone_eq (a1 : Int32) (u : mx_S) : (mm_isDone a1 u) = (mm_isDone_b a1 u) := by rw [show mm_isDone = mm_isDone_b from Classical.choose_spec mm_isDone_ex]
def q_mm_isDone (a1 : Int32) (u : mx_S) : Prop :=
  ((¬ ((mm_condition a1 ) = 1)) → 
   ((¬ ((mm_condition a1 ) = 2)) → 
    ((¬ ((mm_condition a1 ) = 3)) → 
     (((mm_condition a1 ) = 0) → 
      True) ∧ ((¬ ((mm_condition a1 ) = 0)) → 
      (vp_in ((mm_condition a1 ) - (3 : Int32)) 32))) ∧ (((mm_condition a1 ) = 3) → 
     (((mm_condition a1 ) = 0) → 
      True) ∧ ((¬ ((mm_condition a1 ) = 0)) → 
      (vp_in 18 32)))) ∧ (((mm_condition a1 ) = 2) → 
    (((mm_condition a1 ) = 0) → 
     True) ∧ ((¬ ((mm_condition a1 ) = 0)) → 
     (vp_in 17 32)))) ∧ (((mm_condition a1 ) = 1) → 
   (((mm_condition a1 ) = 0) → 
    True) ∧ ((¬ ((mm_condition a1 ) = 0)) → 
    (vp_in 16 32)))
def pre_mm_isDone : List mx_V → mx_S → Prop := fun as u => ∃ (a1 : Int32), as = [.inr (.inr 0), .inl a1] ∧ q_mm_isDone a1 u
noncomputable def fn_mm_isDone : mx_F := fun as u => match as with
  | [_, .inl a1] => mx_rI u (mm_isDone a1 u)
  | _ => (none, u)
noncomputable def tb_mm_isDone : List (Nat × mx_T) := [
  (0, mx_iload_n 1 0),
  (1, mx_invS 1 pre_mm_condition fn_mm_condition 1),
  (4, mx_istore_n 2 4),
  (5, mx_iload_n 2 5),
  (6, mx_iconst 1 6),
  (7, mx_icmp_ne 15 7),
  (10, mx_bipush 16 10),
  (12, mx_goto 38 12),
  (15, mx_iload_n 2 15),
  (16, mx_iconst 2 16),
  (17, mx_icmp_ne 25 17),
  (20, mx_bipush 17 20),
  (22, mx_goto 38 22),
  (25, mx_iload_n 2 25),
  (26, mx_iconst 3 26),
  (27, mx_icmp_ne 35 27),
  (30, mx_bipush 18 30),
  (32, mx_goto 38 32),
  (35, mx_iload_n 2 35),
  (36, mx_iconst 3 36),
  (37, mx_isub 37),
  (38, mx_istore_n 3 38),
  (39, mx_iload_n 2 39),
  (40, mx_if_eq 74 40),
  (43, mx_aload_n 0 43),
  (44, mx_getf km 3 5 44),
  (47, mx_iload_n 3 47),
  (48, mx_iald km 48),
  (49, mx_if_ne 56 49),
  (52, mx_iconst 1 52),
  (53, mx_goto 57 53),
  (56, mx_iconst 0 56),
  (57, mx_iload_n 1 57),
  (58, mx_iconst 4 58),
  (59, mx_ishr 59),
  (60, mx_iconst 1 60),
  (61, mx_iand 61),
  (62, mx_iconst 1 62),
  (63, mx_icmp_ne 70 63),
  (66, mx_iconst 1 66),
  (67, mx_goto 71 67),
  (70, mx_iconst 0 70),
  (71, mx_icmp_ne 78 71),
  (74, mx_iconst 1 74),
  (75, mx_goto 79 75),
  (78, mx_iconst 0 78),
  (79, mx_zret 79)]
set_option maxRecDepth 100000 in
set_option maxHeartbeats 4000000 in
theorem ok_mm_isDone (l : Launch) : ∀ q ∈ tb_mm_isDone , mx_Ok l ({ frames := 1, cells := 0, slots := 0, locals := 20 } : Room) b_mm_isDone 4 "WideMachineModel" (some .boolean) vw_T vw_cl km q.1 q.2 := by
  refine List.forall_mem_cons.mpr ⟨mx_ok_iload_n (show decode b_mm_isDone 0 = .ok (.iload_n 1, 1) by decide +kernel) rfl, ?_⟩
  refine List.forall_mem_cons.mpr ⟨mx_ok_invS vw_G (ct_mm_condition l ) ⟨vm_335, vm_336, vm_324, ⟨by decide +kernel, by decide +kernel, by decide +kernel⟩, ⟨by decide, by decide⟩, rfl, rfl⟩ vm_337 (show decode b_mm_isDone 1 = .ok (.invokestatic 95, 3) by decide +kernel), ?_⟩
  refine List.forall_mem_cons.mpr ⟨mx_ok_istore_n (show decode b_mm_isDone 4 = .ok (.istore_n 2, 1) by decide +kernel) rfl (by decide), ?_⟩
  refine List.forall_mem_cons.mpr ⟨mx_ok_iload_n (show decode b_mm_isDone 5 = .ok (.iload_n 2, 1) by decide +kernel) rfl, ?_⟩
  refine List.forall_mem_cons.mpr ⟨mx_ok_iconst (show decode b_mm_isDone 6 = .ok (.iconst 1, 1) by decide +kernel) (by decide), ?_⟩
  refine List.forall_mem_cons.mpr ⟨mx_ok_icmp_ne (show decode b_mm_isDone 7 = .ok (.if_icmp .ne 8, 3) by decide +kernel) (by decide), ?_⟩
  refine List.forall_mem_cons.mpr ⟨mx_ok_bipush (show decode b_mm_isDone 10 = .ok (.bipush 16, 2) by decide +kernel) (by decide), ?_⟩
  refine List.forall_mem_cons.mpr ⟨mx_ok_goto (show decode b_mm_isDone 12 = .ok (.goto 26, 3) by decide +kernel) (by decide), ?_⟩
  refine List.forall_mem_cons.mpr ⟨mx_ok_iload_n (show decode b_mm_isDone 15 = .ok (.iload_n 2, 1) by decide +kernel) rfl, ?_⟩
  refine List.forall_mem_cons.mpr ⟨mx_ok_iconst (show decode b_mm_isDone 16 = .ok (.iconst 2, 1) by decide +kernel) (by decide), ?_⟩
  refine List.forall_mem_cons.mpr ⟨mx_ok_icmp_ne (show decode b_mm_isDone 17 = .ok (.if_icmp .ne 8, 3) by decide +kernel) (by decide), ?_⟩
  refine List.forall_mem_cons.mpr ⟨mx_ok_bipush (show decode b_mm_isDone 20 = .ok (.bipush 17, 2) by decide +kernel) (by decide), ?_⟩
  refine List.forall_mem_cons.mpr ⟨mx_ok_goto (show decode b_mm_isDone 22 = .ok (.goto 16, 3) by decide +kernel) (by decide), ?_⟩
  refine List.forall_mem_cons.mpr ⟨mx_ok_iload_n (show decode b_mm_isDone 25 = .ok (.iload_n 2, 1) by decide +kernel) rfl, ?_⟩
  refine List.forall_mem_cons.mpr ⟨mx_ok_iconst (show decode b_mm_isDone 26 = .ok (.iconst 3, 1) by decide +kernel) (by decide), ?_⟩
  refine List.forall_mem_cons.mpr ⟨mx_ok_icmp_ne (show decode b_mm_isDone 27 = .ok (.if_icmp .ne 8, 3) by decide +kernel) (by decide), ?_⟩
  refine List.forall_mem_cons.mpr ⟨mx_ok_bipush (show decode b_mm_isDone 30 = .ok (.bipush 18, 2) by decide +kernel) (by decide), ?_⟩
  refine List.forall_mem_cons.mpr ⟨mx_ok_goto (show decode b_mm_isDone 32 = .ok (.goto 6, 3) by decide +kernel) (by decide), ?_⟩
  refine List.forall_mem_cons.mpr ⟨mx_ok_iload_n (show decode b_mm_isDone 35 = .ok (.iload_n 2, 1) by decide +kernel) rfl, ?_⟩
  refine List.forall_mem_cons.mpr ⟨mx_ok_iconst (show decode b_mm_isDone 36 = .ok (.iconst 3, 1) by decide +kernel) (by decide), ?_⟩
  refine List.forall_mem_cons.mpr ⟨mx_ok_isub (show decode b_mm_isDone 37 = .ok (.isub, 1) by decide +kernel), ?_⟩
  refine List.forall_mem_cons.mpr ⟨mx_ok_istore_n (show decode b_mm_isDone 38 = .ok (.istore_n 3, 1) by decide +kernel) rfl (by decide), ?_⟩
  refine List.forall_mem_cons.mpr ⟨mx_ok_iload_n (show decode b_mm_isDone 39 = .ok (.iload_n 2, 1) by decide +kernel) rfl, ?_⟩
  refine List.forall_mem_cons.mpr ⟨mx_ok_if_eq (show decode b_mm_isDone 40 = .ok (.ifCond .eq 34, 3) by decide +kernel) (by decide), ?_⟩
  refine List.forall_mem_cons.mpr ⟨mx_ok_aload_n (show decode b_mm_isDone 43 = .ok (.aload_n 0, 1) by decide +kernel) rfl, ?_⟩
  refine List.forall_mem_cons.mpr ⟨mx_ok_getf fd_mm_16 (show decode b_mm_isDone 44 = .ok (.getfield 16, 3) by decide +kernel), ?_⟩
  refine List.forall_mem_cons.mpr ⟨mx_ok_iload_n (show decode b_mm_isDone 47 = .ok (.iload_n 3, 1) by decide +kernel) rfl, ?_⟩
  refine List.forall_mem_cons.mpr ⟨mx_ok_iald (show decode b_mm_isDone 48 = .ok (.iaload, 1) by decide +kernel), ?_⟩
  refine List.forall_mem_cons.mpr ⟨mx_ok_if_ne (show decode b_mm_isDone 49 = .ok (.ifCond .ne 7, 3) by decide +kernel) (by decide), ?_⟩
  refine List.forall_mem_cons.mpr ⟨mx_ok_iconst (show decode b_mm_isDone 52 = .ok (.iconst 1, 1) by decide +kernel) (by decide), ?_⟩
  refine List.forall_mem_cons.mpr ⟨mx_ok_goto (show decode b_mm_isDone 53 = .ok (.goto 4, 3) by decide +kernel) (by decide), ?_⟩
  refine List.forall_mem_cons.mpr ⟨mx_ok_iconst (show decode b_mm_isDone 56 = .ok (.iconst 0, 1) by decide +kernel) (by decide), ?_⟩
  refine List.forall_mem_cons.mpr ⟨mx_ok_iload_n (show decode b_mm_isDone 57 = .ok (.iload_n 1, 1) by decide +kernel) rfl, ?_⟩
  refine List.forall_mem_cons.mpr ⟨mx_ok_iconst (show decode b_mm_isDone 58 = .ok (.iconst 4, 1) by decide +kernel) (by decide), ?_⟩
  refine List.forall_mem_cons.mpr ⟨mx_ok_ishr (show decode b_mm_isDone 59 = .ok (.ishr, 1) by decide +kernel), ?_⟩
  refine List.forall_mem_cons.mpr ⟨mx_ok_iconst (show decode b_mm_isDone 60 = .ok (.iconst 1, 1) by decide +kernel) (by decide), ?_⟩
  refine List.forall_mem_cons.mpr ⟨mx_ok_iand (show decode b_mm_isDone 61 = .ok (.iand, 1) by decide +kernel), ?_⟩
  refine List.forall_mem_cons.mpr ⟨mx_ok_iconst (show decode b_mm_isDone 62 = .ok (.iconst 1, 1) by decide +kernel) (by decide), ?_⟩
  refine List.forall_mem_cons.mpr ⟨mx_ok_icmp_ne (show decode b_mm_isDone 63 = .ok (.if_icmp .ne 7, 3) by decide +kernel) (by decide), ?_⟩
  refine List.forall_mem_cons.mpr ⟨mx_ok_iconst (show decode b_mm_isDone 66 = .ok (.iconst 1, 1) by decide +kernel) (by decide), ?_⟩
  refine List.forall_mem_cons.mpr ⟨mx_ok_goto (show decode b_mm_isDone 67 = .ok (.goto 4, 3) by decide +kernel) (by decide), ?_⟩
  refine List.forall_mem_cons.mpr ⟨mx_ok_iconst (show decode b_mm_isDone 70 = .ok (.iconst 0, 1) by decide +kernel) (by decide), ?_⟩
  refine List.forall_mem_cons.mpr ⟨mx_ok_icmp_ne (show decode b_mm_isDone 71 = .ok (.if_icmp .ne 7, 3) by decide +kernel) (by decide), ?_⟩
  refine List.forall_mem_cons.mpr ⟨mx_ok_iconst (show decode b_mm_isDone 74 = .ok (.iconst 1, 1) by decide +kernel) (by decide), ?_⟩
  refine List.forall_mem_cons.mpr ⟨mx_ok_goto (show decode b_mm_isDone 75 = .ok (.goto 4, 3) by decide +kernel) (by decide), ?_⟩
  refine List.forall_mem_cons.mpr ⟨mx_ok_iconst (show decode b_mm_isDone 78 = .ok (.iconst 0, 1) by decide +kernel) (by decide), ?_⟩
  refine List.forall_mem_cons.mpr ⟨mx_ok_zret (show decode b_mm_isDone 79 = .ok (.ireturn, 1) by decide +kernel) rfl, ?_⟩
  exact fun _ h => absurd h List.not_mem_nil
set_option maxRecDepth 100000 in
set_option maxHeartbeats 4000000 in
theorem ct_mm_isDone (l : Launch) : mx_Ct l vw_T vw_cl km { frames := 1, cells := 0, slots := 0, locals := 20 } y_mm_isDone b_mm_isDone 4 (some .boolean) pre_mm_isDone fn_mm_isDone := by
  refine mx_ct_of (tb_mm_isDone ) (by decide) (ok_mm_isDone l ) (fun as u h => by obtain ⟨_, rfl, -⟩ := h; exact Nat.le_of_ble_eq_true rfl) ?_
  intro as u hpre At hc hw
  obtain ⟨a1, rfl, hp⟩ := hpre
  exact hc 200 [] _ _ _ _ (
    And.intro rfl (
    And.intro ⟨_, rfl, trivial⟩ (
    And.intro (fun h7 => 
     And.intro (fun h17 => 
      And.intro (fun h27 => 
       And.intro (fun h40 => 
        And.intro (Or.inr rfl) (
        congrArg (mx_rI u) (show 1 = (mm_isDone a1 u) from ((mm_isDone_eq a1 u).trans ((if_neg h7).trans ((if_neg h17).trans ((if_neg h27).trans (if_pos h40))))).symm))) (fun h40 => 
        And.intro (((((hp.1 h7).1 h17).1 h27).2 h40)) (
        And.intro (fun h49 => 
         And.intro (fun h63 => 
          And.intro (fun h71 => absurd h71 (by decide)) (fun h71 => 
           And.intro (Or.inr rfl) (
           congrArg (mx_rI u) (show 1 = (mm_isDone a1 u) from ((mm_isDone_eq a1 u).trans ((if_neg h7).trans ((if_neg h17).trans ((if_neg h27).trans ((if_neg h40).trans ((if_neg h49).trans (if_neg h63))))))).symm)))) (fun h63 => 
          And.intro (fun h71 => 
           And.intro (Or.inl rfl) (
           congrArg (mx_rI u) (show 0 = (mm_isDone a1 u) from ((mm_isDone_eq a1 u).trans ((if_neg h7).trans ((if_neg h17).trans ((if_neg h27).trans ((if_neg h40).trans ((if_neg h49).trans (if_pos h63))))))).symm))) (fun h71 => absurd h71 (by decide)))) (fun h49 => 
         And.intro (fun h63 => 
          And.intro (fun h71 => 
           And.intro (Or.inl rfl) (
           congrArg (mx_rI u) (show 0 = (mm_isDone a1 u) from ((mm_isDone_eq a1 u).trans ((if_neg h7).trans ((if_neg h17).trans ((if_neg h27).trans ((if_neg h40).trans ((if_pos h49).trans (if_neg h63))))))).symm))) (fun h71 => absurd h71 (by decide))) (fun h63 => 
          And.intro (fun h71 => absurd h71 (by decide)) (fun h71 => 
           And.intro (Or.inr rfl) (
           congrArg (mx_rI u) (show 1 = (mm_isDone a1 u) from ((mm_isDone_eq a1 u).trans ((if_neg h7).trans ((if_neg h17).trans ((if_neg h27).trans ((if_neg h40).trans ((if_pos h49).trans (if_pos h63))))))).symm)))))))) (fun h27 => 
       And.intro (fun h40 => 
        And.intro (Or.inr rfl) (
        congrArg (mx_rI u) (show 1 = (mm_isDone a1 u) from ((mm_isDone_eq a1 u).trans ((if_neg h7).trans ((if_neg h17).trans ((if_pos h27).trans (if_pos h40))))).symm))) (fun h40 => 
        And.intro (((((hp.1 h7).1 h17).2 h27).2 h40)) (
        And.intro (fun h49 => 
         And.intro (fun h63 => 
          And.intro (fun h71 => absurd h71 (by decide)) (fun h71 => 
           And.intro (Or.inr rfl) (
           congrArg (mx_rI u) (show 1 = (mm_isDone a1 u) from ((mm_isDone_eq a1 u).trans ((if_neg h7).trans ((if_neg h17).trans ((if_pos h27).trans ((if_neg h40).trans ((if_neg h49).trans (if_neg h63))))))).symm)))) (fun h63 => 
          And.intro (fun h71 => 
           And.intro (Or.inl rfl) (
           congrArg (mx_rI u) (show 0 = (mm_isDone a1 u) from ((mm_isDone_eq a1 u).trans ((if_neg h7).trans ((if_neg h17).trans ((if_pos h27).trans ((if_neg h40).trans ((if_neg h49).trans (if_pos h63))))))).symm))) (fun h71 => absurd h71 (by decide)))) (fun h49 => 
         And.intro (fun h63 => 
          And.intro (fun h71 => 
           And.intro (Or.inl rfl) (
           congrArg (mx_rI u) (show 0 = (mm_isDone a1 u) from ((mm_isDone_eq a1 u).trans ((if_neg h7).trans ((if_neg h17).trans ((if_pos h27).trans ((if_neg h40).trans ((if_pos h49).trans (if_neg h63))))))).symm))) (fun h71 => absurd h71 (by decide))) (fun h63 => 
          And.intro (fun h71 => absurd h71 (by decide)) (fun h71 => 
           And.intro (Or.inr rfl) (
           congrArg (mx_rI u) (show 1 = (mm_isDone a1 u) from ((mm_isDone_eq a1 u).trans ((if_neg h7).trans ((if_neg h17).trans ((if_pos h27).trans ((if_neg h40).trans ((if_pos h49).trans (if_pos h63))))))).symm))))))))) (fun h17 => 
      And.intro (fun h40 => 
       And.intro (Or.inr rfl) (
       congrArg (mx_rI u) (show 1 = (mm_isDone a1 u) from ((mm_isDone_eq a1 u).trans ((if_neg h7).trans ((if_pos h17).trans (if_pos h40)))).symm))) (fun h40 => 
       And.intro ((((hp.1 h7).2 h17).2 h40)) (
       And.intro (fun h49 => 
        And.intro (fun h63 => 
         And.intro (fun h71 => absurd h71 (by decide)) (fun h71 => 
          And.intro (Or.inr rfl) (
          congrArg (mx_rI u) (show 1 = (mm_isDone a1 u) from ((mm_isDone_eq a1 u).trans ((if_neg h7).trans ((if_pos h17).trans ((if_neg h40).trans ((if_neg h49).trans (if_neg h63)))))).symm)))) (fun h63 => 
         And.intro (fun h71 => 
          And.intro (Or.inl rfl) (
          congrArg (mx_rI u) (show 0 = (mm_isDone a1 u) from ((mm_isDone_eq a1 u).trans ((if_neg h7).trans ((if_pos h17).trans ((if_neg h40).trans ((if_neg h49).trans (if_pos h63)))))).symm))) (fun h71 => absurd h71 (by decide)))) (fun h49 => 
        And.intro (fun h63 => 
         And.intro (fun h71 => 
          And.intro (Or.inl rfl) (
          congrArg (mx_rI u) (show 0 = (mm_isDone a1 u) from ((mm_isDone_eq a1 u).trans ((if_neg h7).trans ((if_pos h17).trans ((if_neg h40).trans ((if_pos h49).trans (if_neg h63)))))).symm))) (fun h71 => absurd h71 (by decide))) (fun h63 => 
         And.intro (fun h71 => absurd h71 (by decide)) (fun h71 => 
          And.intro (Or.inr rfl) (
          congrArg (mx_rI u) (show 1 = (mm_isDone a1 u) from ((mm_isDone_eq a1 u).trans ((if_neg h7).trans ((if_pos h17).trans ((if_neg h40).trans ((if_pos h49).trans (if_pos h63)))))).symm))))))))) (fun h7 => 
     And.intro (fun h40 => 
      And.intro (Or.inr rfl) (
      congrArg (mx_rI u) (show 1 = (mm_isDone a1 u) from ((mm_isDone_eq a1 u).trans ((if_pos h7).trans (if_pos h40))).symm))) (fun h40 => 
      And.intro (((hp.2 h7).2 h40)) (
      And.intro (fun h49 => 
       And.intro (fun h63 => 
        And.intro (fun h71 => absurd h71 (by decide)) (fun h71 => 
         And.intro (Or.inr rfl) (
         congrArg (mx_rI u) (show 1 = (mm_isDone a1 u) from ((mm_isDone_eq a1 u).trans ((if_pos h7).trans ((if_neg h40).trans ((if_neg h49).trans (if_neg h63))))).symm)))) (fun h63 => 
        And.intro (fun h71 => 
         And.intro (Or.inl rfl) (
         congrArg (mx_rI u) (show 0 = (mm_isDone a1 u) from ((mm_isDone_eq a1 u).trans ((if_pos h7).trans ((if_neg h40).trans ((if_neg h49).trans (if_pos h63))))).symm))) (fun h71 => absurd h71 (by decide)))) (fun h49 => 
       And.intro (fun h63 => 
        And.intro (fun h71 => 
         And.intro (Or.inl rfl) (
         congrArg (mx_rI u) (show 0 = (mm_isDone a1 u) from ((mm_isDone_eq a1 u).trans ((if_pos h7).trans ((if_neg h40).trans ((if_pos h49).trans (if_neg h63))))).symm))) (fun h71 => absurd h71 (by decide))) (fun h63 => 
        And.intro (fun h71 => absurd h71 (by decide)) (fun h71 => 
         And.intro (Or.inr rfl) (
         congrArg (mx_rI u) (show 1 = (mm_isDone a1 u) from ((mm_isDone_eq a1 u).trans ((if_pos h7).trans ((if_neg h40).trans ((if_pos h49).trans (if_pos h63))))).symm)))))))))))
/-! WideMachineModel.second(I)I -/
noncomputable def mm_second_b (a1 : Int32) (u : mx_S) : Int32 :=
  if (mm_isNumber a1 ) = 0 then
   (mx_ga u 3 ((mm_b a1 )).toNatClampNeg)
  else
   if (mm_b a1 ) ≤ 15 then
    ((mm_b a1 ) - (0 : Int32))
   else
    ((mm_b a1 ) - (32 : Int32))
theorem mm_second_ex : ∃ f : Int32 → mx_S → (Int32), f = mm_second_b := ⟨_, rfl⟩
noncomputable def mm_second : Int32 → mx_S → (Int32) := Classical.choose mm_second_ex
theorem mm_second_eq (a1 : Int32) (u : mx_S) : (mm_second a1 u) = (mm_second_b a1 u) := by rw [show mm_second = mm_second_b from Classical.choose_spec mm_second_ex]
def pre_mm_second : List mx_V → mx_S → Prop := fun as u => ∃ (a1 : Int32), as = [.inr (.inr 0), .inl a1] ∧ True
noncomputable def fn_mm_second : mx_F := fun as u => match as with
  | [_, .inl a1] => mx_rI u (mm_second a1 u)
  | _ => (none, u)
noncomputable def tb_mm_second : List (Nat × mx_T) := [
  (0, mx_iload_n 1 0),
  (1, mx_invS 1 pre_mm_isNumber fn_mm_isNumber 1),
  (4, mx_if_eq 30 4),
  (7, mx_iload_n 1 7),
  (8, mx_invS 1 pre_mm_b fn_mm_b 8),
  (11, mx_iload_n 1 11),
  (12, mx_invS 1 pre_mm_b fn_mm_b 12),
  (15, mx_bipush 15 15),
  (17, mx_icmp_le 25 17),
  (20, mx_bipush 32 20),
  (22, mx_goto 26 22),
  (25, mx_iconst 0 25),
  (26, mx_isub 26),
  (27, mx_goto 39 27),
  (30, mx_aload_n 0 30),
  (31, mx_getf km 3 5 31),
  (34, mx_iload_n 1 34),
  (35, mx_invS 1 pre_mm_b fn_mm_b 35),
  (38, mx_iald km 38),
  (39, mx_iret 39)]
set_option maxRecDepth 100000 in
set_option maxHeartbeats 4000000 in
theorem ok_mm_second (l : Launch) : ∀ q ∈ tb_mm_second , mx_Ok l ({ frames := 1, cells := 0, slots := 0, locals := 20 } : Room) b_mm_second 2 "WideMachineModel" (some .int) vw_T vw_cl km q.1 q.2 := by
  refine List.forall_mem_cons.mpr ⟨mx_ok_iload_n (show decode b_mm_second 0 = .ok (.iload_n 1, 1) by decide +kernel) rfl, ?_⟩
  refine List.forall_mem_cons.mpr ⟨mx_ok_invS vw_G (ct_mm_isNumber l ) ⟨vm_353, vm_354, vm_324, ⟨by decide +kernel, by decide +kernel, by decide +kernel⟩, ⟨by decide, by decide⟩, rfl, rfl⟩ vm_355 (show decode b_mm_second 1 = .ok (.invokestatic 138, 3) by decide +kernel), ?_⟩
  refine List.forall_mem_cons.mpr ⟨mx_ok_if_eq (show decode b_mm_second 4 = .ok (.ifCond .eq 26, 3) by decide +kernel) (by decide), ?_⟩
  refine List.forall_mem_cons.mpr ⟨mx_ok_iload_n (show decode b_mm_second 7 = .ok (.iload_n 1, 1) by decide +kernel) rfl, ?_⟩
  refine List.forall_mem_cons.mpr ⟨mx_ok_invS vw_G (ct_mm_b l ) ⟨vm_356, vm_357, vm_324, ⟨by decide +kernel, by decide +kernel, by decide +kernel⟩, ⟨by decide, by decide⟩, rfl, rfl⟩ vm_358 (show decode b_mm_second 8 = .ok (.invokestatic 141, 3) by decide +kernel), ?_⟩
  refine List.forall_mem_cons.mpr ⟨mx_ok_iload_n (show decode b_mm_second 11 = .ok (.iload_n 1, 1) by decide +kernel) rfl, ?_⟩
  refine List.forall_mem_cons.mpr ⟨mx_ok_invS vw_G (ct_mm_b l ) ⟨vm_356, vm_357, vm_324, ⟨by decide +kernel, by decide +kernel, by decide +kernel⟩, ⟨by decide, by decide⟩, rfl, rfl⟩ vm_358 (show decode b_mm_second 12 = .ok (.invokestatic 141, 3) by decide +kernel), ?_⟩
  refine List.forall_mem_cons.mpr ⟨mx_ok_bipush (show decode b_mm_second 15 = .ok (.bipush 15, 2) by decide +kernel) (by decide), ?_⟩
  refine List.forall_mem_cons.mpr ⟨mx_ok_icmp_le (show decode b_mm_second 17 = .ok (.if_icmp .le 8, 3) by decide +kernel) (by decide), ?_⟩
  refine List.forall_mem_cons.mpr ⟨mx_ok_bipush (show decode b_mm_second 20 = .ok (.bipush 32, 2) by decide +kernel) (by decide), ?_⟩
  refine List.forall_mem_cons.mpr ⟨mx_ok_goto (show decode b_mm_second 22 = .ok (.goto 4, 3) by decide +kernel) (by decide), ?_⟩
  refine List.forall_mem_cons.mpr ⟨mx_ok_iconst (show decode b_mm_second 25 = .ok (.iconst 0, 1) by decide +kernel) (by decide), ?_⟩
  refine List.forall_mem_cons.mpr ⟨mx_ok_isub (show decode b_mm_second 26 = .ok (.isub, 1) by decide +kernel), ?_⟩
  refine List.forall_mem_cons.mpr ⟨mx_ok_goto (show decode b_mm_second 27 = .ok (.goto 12, 3) by decide +kernel) (by decide), ?_⟩
  refine List.forall_mem_cons.mpr ⟨mx_ok_aload_n (show decode b_mm_second 30 = .ok (.aload_n 0, 1) by decide +kernel) rfl, ?_⟩
  refine List.forall_mem_cons.mpr ⟨mx_ok_getf fd_mm_16 (show decode b_mm_second 31 = .ok (.getfield 16, 3) by decide +kernel), ?_⟩
  refine List.forall_mem_cons.mpr ⟨mx_ok_iload_n (show decode b_mm_second 34 = .ok (.iload_n 1, 1) by decide +kernel) rfl, ?_⟩
  refine List.forall_mem_cons.mpr ⟨mx_ok_invS vw_G (ct_mm_b l ) ⟨vm_356, vm_357, vm_324, ⟨by decide +kernel, by decide +kernel, by decide +kernel⟩, ⟨by decide, by decide⟩, rfl, rfl⟩ vm_358 (show decode b_mm_second 35 = .ok (.invokestatic 141, 3) by decide +kernel), ?_⟩
  refine List.forall_mem_cons.mpr ⟨mx_ok_iald (show decode b_mm_second 38 = .ok (.iaload, 1) by decide +kernel), ?_⟩
  refine List.forall_mem_cons.mpr ⟨mx_ok_iret (show decode b_mm_second 39 = .ok (.ireturn, 1) by decide +kernel) rfl, ?_⟩
  exact fun _ h => absurd h List.not_mem_nil
set_option maxRecDepth 100000 in
set_option maxHeartbeats 4000000 in
theorem ct_mm_second (l : Launch) : mx_Ct l vw_T vw_cl km { frames := 1, cells := 0, slots := 0, locals := 20 } y_mm_second b_mm_second 2 (some .int) pre_mm_second fn_mm_second := by
  refine mx_ct_of (tb_mm_second ) (by decide) (ok_mm_second l ) (fun as u h => by obtain ⟨_, rfl, -⟩ := h; exact Nat.le_of_ble_eq_true rfl) ?_
  intro as u hpre At hc hw
  obtain ⟨a1, rfl, hp⟩ := hpre
  exact hc 200 [] _ _ _ _ (
    And.intro rfl (
    And.intro ⟨_, rfl, trivial⟩ (
    And.intro (fun h4 => 
     And.intro rfl (
     And.intro ⟨_, rfl, trivial⟩ (
     And.intro (mm_b_in _) (
     congrArg (mx_rI u) (show (mx_ga u 3 ((mm_b a1 )).toNatClampNeg) = (mm_second a1 u) from ((mm_second_eq a1 u).trans (if_pos h4)).symm))))) (fun h4 => 
     And.intro rfl (
     And.intro ⟨_, rfl, trivial⟩ (
     And.intro rfl (
     And.intro ⟨_, rfl, trivial⟩ (
     And.intro (fun h17 => 
      congrArg (mx_rI u) (show ((mm_b a1 ) - (0 : Int32)) = (mm_second a1 u) from ((mm_second_eq a1 u).trans ((if_neg h4).trans (if_pos h17))).symm)) (fun h17 => 
      congrArg (mx_rI u) (show ((mm_b a1 ) - (32 : Int32)) = (mm_second a1 u) from ((mm_second_eq a1 u).trans ((if_neg h4).trans (if_neg h17))).symm))))))))))
/-! WideMachineModel.reaches(I)Z -/
noncomputable def mm_reaches_b (a1 : Int32) (u : mx_S) : Int32 :=
  if ((mx_ga u 3 ((mm_a a1 )).toNatClampNeg) + (mm_second a1 u)) < 0 then
   0
  else
   if (mx_gf u 0 2) ≤ ((mx_ga u 3 ((mm_a a1 )).toNatClampNeg) + (mm_second a1 u)) then
    0
   else
    1
theorem mm_reaches_ex : ∃ f : Int32 → mx_S → (Int32), f = mm_reaches_b := ⟨_, rfl⟩
noncomputable def mm_reaches : Int32 → mx_S → (Int32) := Classical.choose mm_reaches_ex
theorem mm_reaches_eq (a1 : Int32) (u : mx_S) : (mm_reaches a1 u) = (mm_reaches_b a1 u) := by rw [show mm_reaches = mm_reaches_b from Classical.choose_spec mm_reaches_ex]
def pre_mm_reaches : List mx_V → mx_S → Prop := fun as u => ∃ (a1 : Int32), as = [.inr (.inr 0), .inl a1] ∧ True
noncomputable def fn_mm_reaches : mx_F := fun as u => match as with
  | [_, .inl a1] => mx_rI u (mm_reaches a1 u)
  | _ => (none, u)
noncomputable def tb_mm_reaches : List (Nat × mx_T) := [
  (0, mx_aload_n 0 0),
  (1, mx_getf km 3 5 1),
  (4, mx_iload_n 1 4),
  (5, mx_invS 1 pre_mm_a fn_mm_a 5),
  (8, mx_iald km 8),
  (9, mx_aload_n 0 9),
  (10, mx_iload_n 1 10),
  (11, mx_invV km 3 1 pre_mm_second fn_mm_second 11),
  (14, mx_iadd 14),
  (15, mx_istore_n 2 15),
  (16, mx_iload_n 2 16),
  (17, mx_if_lt 32 17),
  (20, mx_iload_n 2 20),
  (21, mx_aload_n 0 21),
  (22, mx_getf km 3 2 22),
  (25, mx_icmp_ge 32 25),
  (28, mx_iconst 1 28),
  (29, mx_goto 33 29),
  (32, mx_iconst 0 32),
  (33, mx_zret 33)]
set_option maxRecDepth 100000 in
set_option maxHeartbeats 4000000 in
theorem ok_mm_reaches (l : Launch) : ∀ q ∈ tb_mm_reaches , mx_Ok l ({ frames := 2, cells := 0, slots := 0, locals := 41 } : Room) b_mm_reaches 3 "WideMachineModel" (some .boolean) vw_T vw_cl km q.1 q.2 := by
  refine List.forall_mem_cons.mpr ⟨mx_ok_aload_n (show decode b_mm_reaches 0 = .ok (.aload_n 0, 1) by decide +kernel) rfl, ?_⟩
  refine List.forall_mem_cons.mpr ⟨mx_ok_getf fd_mm_16 (show decode b_mm_reaches 1 = .ok (.getfield 16, 3) by decide +kernel), ?_⟩
  refine List.forall_mem_cons.mpr ⟨mx_ok_iload_n (show decode b_mm_reaches 4 = .ok (.iload_n 1, 1) by decide +kernel) rfl, ?_⟩
  refine List.forall_mem_cons.mpr ⟨mx_ok_invS vw_G (ct_mm_a l ) ⟨vm_350, vm_351, vm_324, ⟨by decide +kernel, by decide +kernel, by decide +kernel⟩, ⟨by decide, by decide⟩, rfl, rfl⟩ vm_352 (show decode b_mm_reaches 5 = .ok (.invokestatic 112, 3) by decide +kernel), ?_⟩
  refine List.forall_mem_cons.mpr ⟨mx_ok_iald (show decode b_mm_reaches 8 = .ok (.iaload, 1) by decide +kernel), ?_⟩
  refine List.forall_mem_cons.mpr ⟨mx_ok_aload_n (show decode b_mm_reaches 9 = .ok (.aload_n 0, 1) by decide +kernel) rfl, ?_⟩
  refine List.forall_mem_cons.mpr ⟨mx_ok_iload_n (show decode b_mm_reaches 10 = .ok (.iload_n 1, 1) by decide +kernel) rfl, ?_⟩
  refine List.forall_mem_cons.mpr ⟨mx_ok_invV vw_G (ct_mm_second l ) ⟨vm_359, vm_360, vm_324, ⟨by decide +kernel, by decide +kernel, by decide +kernel⟩, ⟨by decide, by decide⟩, rfl, rfl⟩ vm_361 vm_362 rfl (show decode b_mm_reaches 11 = .ok (.invokevirtual 166, 3) by decide +kernel), ?_⟩
  refine List.forall_mem_cons.mpr ⟨mx_ok_iadd (show decode b_mm_reaches 14 = .ok (.iadd, 1) by decide +kernel), ?_⟩
  refine List.forall_mem_cons.mpr ⟨mx_ok_istore_n (show decode b_mm_reaches 15 = .ok (.istore_n 2, 1) by decide +kernel) rfl (by decide), ?_⟩
  refine List.forall_mem_cons.mpr ⟨mx_ok_iload_n (show decode b_mm_reaches 16 = .ok (.iload_n 2, 1) by decide +kernel) rfl, ?_⟩
  refine List.forall_mem_cons.mpr ⟨mx_ok_if_lt (show decode b_mm_reaches 17 = .ok (.ifCond .lt 15, 3) by decide +kernel) (by decide), ?_⟩
  refine List.forall_mem_cons.mpr ⟨mx_ok_iload_n (show decode b_mm_reaches 20 = .ok (.iload_n 2, 1) by decide +kernel) rfl, ?_⟩
  refine List.forall_mem_cons.mpr ⟨mx_ok_aload_n (show decode b_mm_reaches 21 = .ok (.aload_n 0, 1) by decide +kernel) rfl, ?_⟩
  refine List.forall_mem_cons.mpr ⟨mx_ok_getf fd_mm_44 (show decode b_mm_reaches 22 = .ok (.getfield 44, 3) by decide +kernel), ?_⟩
  refine List.forall_mem_cons.mpr ⟨mx_ok_icmp_ge (show decode b_mm_reaches 25 = .ok (.if_icmp .ge 7, 3) by decide +kernel) (by decide), ?_⟩
  refine List.forall_mem_cons.mpr ⟨mx_ok_iconst (show decode b_mm_reaches 28 = .ok (.iconst 1, 1) by decide +kernel) (by decide), ?_⟩
  refine List.forall_mem_cons.mpr ⟨mx_ok_goto (show decode b_mm_reaches 29 = .ok (.goto 4, 3) by decide +kernel) (by decide), ?_⟩
  refine List.forall_mem_cons.mpr ⟨mx_ok_iconst (show decode b_mm_reaches 32 = .ok (.iconst 0, 1) by decide +kernel) (by decide), ?_⟩
  refine List.forall_mem_cons.mpr ⟨mx_ok_zret (show decode b_mm_reaches 33 = .ok (.ireturn, 1) by decide +kernel) rfl, ?_⟩
  exact fun _ h => absurd h List.not_mem_nil
set_option maxRecDepth 100000 in
set_option maxHeartbeats 4000000 in
theorem ct_mm_reaches (l : Launch) : mx_Ct l vw_T vw_cl km { frames := 2, cells := 0, slots := 0, locals := 41 } y_mm_reaches b_mm_reaches 3 (some .boolean) pre_mm_reaches fn_mm_reaches := by
  refine mx_ct_of (tb_mm_reaches ) (by decide) (ok_mm_reaches l ) (fun as u h => by obtain ⟨_, rfl, -⟩ := h; exact Nat.le_of_ble_eq_true rfl) ?_
  intro as u hpre At hc hw
  obtain ⟨a1, rfl, hp⟩ := hpre
  exact hc 200 [] _ _ _ _ (
    And.intro rfl (
    And.intro ⟨_, rfl, trivial⟩ (
    And.intro (mm_a_in _) (
    And.intro rfl (
    And.intro ⟨_, rfl, trivial⟩ (
    And.intro (fun h17 => 
     And.intro (Or.inl rfl) (
     congrArg (mx_rI u) (show 0 = (mm_reaches a1 u) from ((mm_reaches_eq a1 u).trans (if_pos h17)).symm))) (fun h17 => 
     And.intro (fun h25 => 
      And.intro (Or.inl rfl) (
      congrArg (mx_rI u) (show 0 = (mm_reaches a1 u) from ((mm_reaches_eq a1 u).trans ((if_neg h17).trans (if_pos h25))).symm))) (fun h25 => 
      And.intro (Or.inr rfl) (
      congrArg (mx_rI u) (show 1 = (mm_reaches a1 u) from ((mm_reaches_eq a1 u).trans ((if_neg h17).trans (if_neg h25))).symm))))))))))
/-! WideMachineModel.wrong(I)I -/
noncomputable def mm_wrong_l186 (a1 : Int32) (u : mx_S) : Nat → Int32 → (Int32)
  | 0, _ => 0
  | n + 1, v2 =>
    if a1 ≤ v2 then
     0
    else
     if (mm_kind (mx_ga u 1 (v2).toNatClampNeg) ) = 3 then
      if (mm_operation (mx_ga u 1 (v2).toNatClampNeg) ) ≤ 1 then
       mm_wrong_l186 a1 u n (v2 + 1)
      else
       if (mm_isDone (mx_ga u 1 (v2).toNatClampNeg) u) = 0 then
        mm_wrong_l186 a1 u n (v2 + 1)
       else
        if (mm_reaches (mx_ga u 1 (v2).toNatClampNeg) u) = 0 then
         7
        else
         mm_wrong_l186 a1 u n (v2 + 1)
     else
      mm_wrong_l186 a1 u n (v2 + 1)
def q_mm_wrong_l186 (a1 : Int32) (u : mx_S) : Nat → Int32 → Prop
  | 0, _ => False
  | n + 1, v2 =>
    ((a1 ≤ v2) → 
     True) ∧ ((¬ (a1 ≤ v2)) → 
     (vp_in v2 256) ∧ (
      ((¬ ((mm_kind (mx_ga u 1 (v2).toNatClampNeg) ) = 3)) → 
       q_mm_wrong_l186 a1 u n (v2 + 1)) ∧ (((mm_kind (mx_ga u 1 (v2).toNatClampNeg) ) = 3) → 
       (((mm_operation (mx_ga u 1 (v2).toNatClampNeg) ) ≤ 1) → 
        q_mm_wrong_l186 a1 u n (v2 + 1)) ∧ ((¬ ((mm_operation (mx_ga u 1 (v2).toNatClampNeg) ) ≤ 1)) → 
        ((q_mm_isDone (mx_ga u 1 (v2).toNatClampNeg) u)) ∧ (
         (((mm_isDone (mx_ga u 1 (v2).toNatClampNeg) u) = 0) → 
          q_mm_wrong_l186 a1 u n (v2 + 1)) ∧ ((¬ ((mm_isDone (mx_ga u 1 (v2).toNatClampNeg) u) = 0)) → 
          ((¬ ((mm_reaches (mx_ga u 1 (v2).toNatClampNeg) u) = 0)) → 
           q_mm_wrong_l186 a1 u n (v2 + 1)) ∧ (((mm_reaches (mx_ga u 1 (v2).toNatClampNeg) u) = 0) → 
           True)))))))
noncomputable def mm_wrong_l100 (a1 : Int32) (u : mx_S) (K87 : Int32 → (Int32)) : Nat → Int32 → Int32 → Int32 → (Int32)
  | 0, _, _, _ => 0
  | n + 1, v2, v3, v4 =>
    if a1 ≤ v4 then
     if v3 ≤ 1 then
      K87 (v2 + 1)
     else
      4
    else
     if ((mm_unit (mx_ga u 1 (v4).toNatClampNeg) ) / 4) = v2 then
      if (mm_hasB (mx_ga u 1 (v4).toNatClampNeg) ) = 0 then
       mm_wrong_l100 a1 u K87 n v2 (v3 + (0 : Int32)) (v4 + 1)
      else
       if (mm_isNumber (mx_ga u 1 (v4).toNatClampNeg) ) = 0 then
        if ((mm_b (mx_ga u 1 (v4).toNatClampNeg) ) / 16) = v2 then
         mm_wrong_l100 a1 u K87 n v2 (v3 + (0 : Int32)) (v4 + 1)
        else
         mm_wrong_l100 a1 u K87 n v2 (v3 + (1 : Int32)) (v4 + 1)
       else
        mm_wrong_l100 a1 u K87 n v2 (v3 + (0 : Int32)) (v4 + 1)
     else
      mm_wrong_l100 a1 u K87 n v2 (v3 + (0 : Int32)) (v4 + 1)
def q_mm_wrong_l100 (a1 : Int32) (u : mx_S) (K87 : Int32 → (Int32)) (Q87 : Int32 → Prop) : Nat → Int32 → Int32 → Int32 → Prop
  | 0, _, _, _ => False
  | n + 1, v2, v3, v4 =>
    ((a1 ≤ v4) → 
     ((v3 ≤ 1) → 
      Q87 (v2 + 1)) ∧ ((¬ (v3 ≤ 1)) → 
      True)) ∧ ((¬ (a1 ≤ v4)) → 
     (vp_in v4 256) ∧ (
      ((¬ (((mm_unit (mx_ga u 1 (v4).toNatClampNeg) ) / 4) = v2)) → 
       q_mm_wrong_l100 a1 u K87 Q87 n v2 (v3 + (0 : Int32)) (v4 + 1)) ∧ ((((mm_unit (mx_ga u 1 (v4).toNatClampNeg) ) / 4) = v2) → 
       (((mm_hasB (mx_ga u 1 (v4).toNatClampNeg) ) = 0) → 
        q_mm_wrong_l100 a1 u K87 Q87 n v2 (v3 + (0 : Int32)) (v4 + 1)) ∧ ((¬ ((mm_hasB (mx_ga u 1 (v4).toNatClampNeg) ) = 0)) → 
        ((¬ ((mm_isNumber (mx_ga u 1 (v4).toNatClampNeg) ) = 0)) → 
         q_mm_wrong_l100 a1 u K87 Q87 n v2 (v3 + (0 : Int32)) (v4 + 1)) ∧ (((mm_isNumber (mx_ga u 1 (v4).toNatClampNeg) ) = 0) → 
         ((((mm_b (mx_ga u 1 (v4).toNatClampNeg) ) / 16) = v2) → 
          q_mm_wrong_l100 a1 u K87 Q87 n v2 (v3 + (0 : Int32)) (v4 + 1)) ∧ ((¬ (((mm_b (mx_ga u 1 (v4).toNatClampNeg) ) / 16) = v2)) → 
          q_mm_wrong_l100 a1 u K87 Q87 n v2 (v3 + (1 : Int32)) (v4 + 1)))))))
noncomputable def mm_wrong_l87 (a1 : Int32) (u : mx_S) : Nat → Int32 → (Int32)
  | 0, _ => 0
  | n + 1, v2 =>
    if 2 ≤ v2 then
     mm_wrong_l186 a1 u 20 (mx_gf u 0 7)
    else
     mm_wrong_l100 a1 u (fun v2' => mm_wrong_l87 a1 u n v2') 20 v2 0 (mx_gf u 0 7)
def q_mm_wrong_l87 (a1 : Int32) (u : mx_S) : Nat → Int32 → Prop
  | 0, _ => False
  | n + 1, v2 =>
    ((2 ≤ v2) → 
     q_mm_wrong_l186 a1 u 20 (mx_gf u 0 7)) ∧ ((¬ (2 ≤ v2)) → 
     q_mm_wrong_l100 a1 u (fun v2' => mm_wrong_l87 a1 u n v2') (fun v2' => q_mm_wrong_l87 a1 u n v2') 20 v2 0 (mx_gf u 0 7))
noncomputable def mm_wrong_l45 (a1 : Int32) (u : mx_S) (K35 : Int32 → (Int32)) : Nat → Int32 → Int32 → (Int32)
  | 0, _, _ => 0
  | n + 1, v2, v3 =>
    if v2 ≤ v3 then
     K35 (v2 + 1)
    else
     if (mm_unit (mx_ga u 1 (v2).toNatClampNeg) ) = (mm_unit (mx_ga u 1 (v3).toNatClampNeg) ) then
      3
     else
      mm_wrong_l45 a1 u K35 n v2 (v3 + 1)
def q_mm_wrong_l45 (a1 : Int32) (u : mx_S) (K35 : Int32 → (Int32)) (Q35 : Int32 → Prop) : Nat → Int32 → Int32 → Prop
  | 0, _, _ => False
  | n + 1, v2, v3 =>
    ((v2 ≤ v3) → 
     Q35 (v2 + 1)) ∧ ((¬ (v2 ≤ v3)) → 
     (vp_in v2 256) ∧ (
      (vp_in v3 256) ∧ (
       ((¬ ((mm_unit (mx_ga u 1 (v2).toNatClampNeg) ) = (mm_unit (mx_ga u 1 (v3).toNatClampNeg) ))) → 
        q_mm_wrong_l45 a1 u K35 Q35 n v2 (v3 + 1)) ∧ (((mm_unit (mx_ga u 1 (v2).toNatClampNeg) ) = (mm_unit (mx_ga u 1 (v3).toNatClampNeg) )) → 
        True))))
noncomputable def mm_wrong_l35 (a1 : Int32) (u : mx_S) : Nat → Int32 → (Int32)
  | 0, _ => 0
  | n + 1, v2 =>
    if a1 ≤ v2 then
     mm_wrong_l87 a1 u 20 0
    else
     mm_wrong_l45 a1 u (fun v2' => mm_wrong_l35 a1 u n v2') 20 v2 (mx_gf u 0 7)
def q_mm_wrong_l35 (a1 : Int32) (u : mx_S) : Nat → Int32 → Prop
  | 0, _ => False
  | n + 1, v2 =>
    ((a1 ≤ v2) → 
     q_mm_wrong_l87 a1 u 20 0) ∧ ((¬ (a1 ≤ v2)) → 
     q_mm_wrong_l45 a1 u (fun v2' => mm_wrong_l35 a1 u n v2') (fun v2' => q_mm_wrong_l35 a1 u n v2') 20 v2 (mx_gf u 0 7))
noncomputable def mm_wrong_l5 (a1 : Int32) (u : mx_S) : Nat → Int32 → (Int32)
  | 0, _ => 0
  | n + 1, v2 =>
    if a1 ≤ v2 then
     mm_wrong_l35 a1 u 20 (mx_gf u 0 7)
    else
     if (mm_isIll (mx_ga u 1 (v2).toNatClampNeg) ) = 0 then
      mm_wrong_l5 a1 u n (v2 + 1)
     else
      2
def q_mm_wrong_l5 (a1 : Int32) (u : mx_S) : Nat → Int32 → Prop
  | 0, _ => False
  | n + 1, v2 =>
    ((a1 ≤ v2) → 
     q_mm_wrong_l35 a1 u 20 (mx_gf u 0 7)) ∧ ((¬ (a1 ≤ v2)) → 
     (vp_in v2 256) ∧ (
      (((mm_isIll (mx_ga u 1 (v2).toNatClampNeg) ) = 0) → 
       q_mm_wrong_l5 a1 u n (v2 + 1)) ∧ ((¬ ((mm_isIll (mx_ga u 1 (v2).toNatClampNeg) ) = 0)) → 
       True)))
noncomputable def mm_wrong_b (a1 : Int32) (u : mx_S) : Int32 :=
  mm_wrong_l5 a1 u 20 (mx_gf u 0 7)
theorem mm_wrong_ex : ∃ f : Int32 → mx_S → (Int32), f = mm_wrong_b := ⟨_, rfl⟩
noncomputable def mm_wrong : Int32 → mx_S → (Int32) := Classical.choose mm_wrong_ex
theorem mm_wrong_eq (a1 : Int32) (u : mx_S) : (mm_wrong a1 u) = (mm_wrong_b a1 u) := by rw [show mm_wrong = mm_wrong_b from Classical.choose_spec mm_wrong_ex]
def q_mm_wrong (a1 : Int32) (u : mx_S) : Prop :=
  q_mm_wrong_l5 a1 u 20 (mx_gf u 0 7)
def pre_mm_wrong : List mx_V → mx_S → Prop := fun as u => ∃ (a1 : Int32), as = [.inr (.inr 0), .inl a1] ∧ q_mm_wrong a1 u
noncomputable def fn_mm_wrong : mx_F := fun as u => match as with
  | [_, .inl a1] => mx_rI u (mm_wrong a1 u)
  | _ => (none, u)
noncomputable def tb_mm_wrong : List (Nat × mx_T) := [
  (0, mx_aload_n 0 0),
  (1, mx_getf km 3 7 1),
  (4, mx_istore_n 2 4),
  (5, mx_iload_n 2 5),
  (6, mx_iload_n 1 6),
  (7, mx_icmp_ge 30 7),
  (10, mx_aload_n 0 10),
  (11, mx_getf km 3 3 11),
  (14, mx_iload_n 2 14),
  (15, mx_iald km 15),
  (16, mx_invS 1 pre_mm_isIll fn_mm_isIll 16),
  (19, mx_if_eq 24 19),
  (22, mx_iconst 2 22),
  (23, mx_iret 23),
  (24, mx_iinc 2 1 24),
  (27, mx_goto 5 27),
  (30, mx_aload_n 0 30),
  (31, mx_getf km 3 7 31),
  (34, mx_istore_n 2 34),
  (35, mx_iload_n 2 35),
  (36, mx_iload_n 1 36),
  (37, mx_icmp_ge 85 37),
  (40, mx_aload_n 0 40),
  (41, mx_getf km 3 7 41),
  (44, mx_istore_n 3 44),
  (45, mx_iload_n 3 45),
  (46, mx_iload_n 2 46),
  (47, mx_icmp_ge 79 47),
  (50, mx_aload_n 0 50),
  (51, mx_getf km 3 3 51),
  (54, mx_iload_n 2 54),
  (55, mx_iald km 55),
  (56, mx_invS 1 pre_mm_unit fn_mm_unit 56),
  (59, mx_aload_n 0 59),
  (60, mx_getf km 3 3 60),
  (63, mx_iload_n 3 63),
  (64, mx_iald km 64),
  (65, mx_invS 1 pre_mm_unit fn_mm_unit 65),
  (68, mx_icmp_ne 73 68),
  (71, mx_iconst 3 71),
  (72, mx_iret 72),
  (73, mx_iinc 3 1 73),
  (76, mx_goto 45 76),
  (79, mx_iinc 2 1 79),
  (82, mx_goto 35 82),
  (85, mx_iconst 0 85),
  (86, mx_istore_n 2 86),
  (87, mx_iload_n 2 87),
  (88, mx_iconst 2 88),
  (89, mx_icmp_ge 181 89),
  (92, mx_iconst 0 92),
  (93, mx_istore_n 3 93),
  (94, mx_aload_n 0 94),
  (95, mx_getf km 3 7 95),
  (98, mx_istore 4 98),
  (100, mx_iload 4 100),
  (102, mx_iload_n 1 102),
  (103, mx_icmp_ge 168 103),
  (106, mx_aload_n 0 106),
  (107, mx_getf km 3 3 107),
  (110, mx_iload 4 110),
  (112, mx_iald km 112),
  (113, mx_istore 5 113),
  (115, mx_iload_n 3 115),
  (116, mx_iload 5 116),
  (118, mx_invS 1 pre_mm_unit fn_mm_unit 118),
  (121, mx_iconst 4 121),
  (122, mx_idiv 122),
  (123, mx_iload_n 2 123),
  (124, mx_icmp_ne 159 124),
  (127, mx_iload 5 127),
  (129, mx_invS 1 pre_mm_hasB fn_mm_hasB 129),
  (132, mx_if_eq 159 132),
  (135, mx_iload 5 135),
  (137, mx_invS 1 pre_mm_isNumber fn_mm_isNumber 137),
  (140, mx_if_ne 159 140),
  (143, mx_iload 5 143),
  (145, mx_invS 1 pre_mm_b fn_mm_b 145),
  (148, mx_bipush 16 148),
  (150, mx_idiv 150),
  (151, mx_iload_n 2 151),
  (152, mx_icmp_eq 159 152),
  (155, mx_iconst 1 155),
  (156, mx_goto 160 156),
  (159, mx_iconst 0 159),
  (160, mx_iadd 160),
  (161, mx_istore_n 3 161),
  (162, mx_iinc 4 1 162),
  (165, mx_goto 100 165),
  (168, mx_iload_n 3 168),
  (169, mx_iconst 1 169),
  (170, mx_icmp_le 175 170),
  (173, mx_iconst 4 173),
  (174, mx_iret 174),
  (175, mx_iinc 2 1 175),
  (178, mx_goto 87 178),
  (181, mx_aload_n 0 181),
  (182, mx_getf km 3 7 182),
  (185, mx_istore_n 2 185),
  (186, mx_iload_n 2 186),
  (187, mx_iload_n 1 187),
  (188, mx_icmp_ge 239 188),
  (191, mx_aload_n 0 191),
  (192, mx_getf km 3 3 192),
  (195, mx_iload_n 2 195),
  (196, mx_iald km 196),
  (197, mx_istore_n 3 197),
  (198, mx_iload_n 3 198),
  (199, mx_invS 1 pre_mm_kind fn_mm_kind 199),
  (202, mx_iconst 3 202),
  (203, mx_icmp_ne 233 203),
  (206, mx_iload_n 3 206),
  (207, mx_invS 1 pre_mm_operation fn_mm_operation 207),
  (210, mx_iconst 1 210),
  (211, mx_icmp_le 233 211),
  (214, mx_aload_n 0 214),
  (215, mx_iload_n 3 215),
  (216, mx_invV km 3 1 pre_mm_isDone fn_mm_isDone 216),
  (219, mx_if_eq 233 219),
  (222, mx_aload_n 0 222),
  (223, mx_iload_n 3 223),
  (224, mx_invV km 3 1 pre_mm_reaches fn_mm_reaches 224),
  (227, mx_if_ne 233 227),
  (230, mx_bipush 7 230),
  (232, mx_iret 232),
  (233, mx_iinc 2 1 233),
  (236, mx_goto 186 236),
  (239, mx_iconst 0 239),
  (240, mx_iret 240)]
set_option maxRecDepth 100000 in
set_option maxHeartbeats 4000000 in
theorem ok_mm_wrong (l : Launch) : ∀ q ∈ tb_mm_wrong , mx_Ok l ({ frames := 4, cells := 0, slots := 0, locals := 85 } : Room) b_mm_wrong 6 "WideMachineModel" (some .int) vw_T vw_cl km q.1 q.2 := by
  refine List.forall_mem_cons.mpr ⟨mx_ok_aload_n (show decode b_mm_wrong 0 = .ok (.aload_n 0, 1) by decide +kernel) rfl, ?_⟩
  refine List.forall_mem_cons.mpr ⟨mx_ok_getf fd_mm_53 (show decode b_mm_wrong 1 = .ok (.getfield 53, 3) by decide +kernel), ?_⟩
  refine List.forall_mem_cons.mpr ⟨mx_ok_istore_n (show decode b_mm_wrong 4 = .ok (.istore_n 2, 1) by decide +kernel) rfl (by decide), ?_⟩
  refine List.forall_mem_cons.mpr ⟨mx_ok_iload_n (show decode b_mm_wrong 5 = .ok (.iload_n 2, 1) by decide +kernel) rfl, ?_⟩
  refine List.forall_mem_cons.mpr ⟨mx_ok_iload_n (show decode b_mm_wrong 6 = .ok (.iload_n 1, 1) by decide +kernel) rfl, ?_⟩
  refine List.forall_mem_cons.mpr ⟨mx_ok_icmp_ge (show decode b_mm_wrong 7 = .ok (.if_icmp .ge 23, 3) by decide +kernel) (by decide), ?_⟩
  refine List.forall_mem_cons.mpr ⟨mx_ok_aload_n (show decode b_mm_wrong 10 = .ok (.aload_n 0, 1) by decide +kernel) rfl, ?_⟩
  refine List.forall_mem_cons.mpr ⟨mx_ok_getf fd_mm_7 (show decode b_mm_wrong 11 = .ok (.getfield 7, 3) by decide +kernel), ?_⟩
  refine List.forall_mem_cons.mpr ⟨mx_ok_iload_n (show decode b_mm_wrong 14 = .ok (.iload_n 2, 1) by decide +kernel) rfl, ?_⟩
  refine List.forall_mem_cons.mpr ⟨mx_ok_iald (show decode b_mm_wrong 15 = .ok (.iaload, 1) by decide +kernel), ?_⟩
  refine List.forall_mem_cons.mpr ⟨mx_ok_invS vw_G (ct_mm_isIll l ) ⟨vm_363, vm_364, vm_324, ⟨by decide +kernel, by decide +kernel, by decide +kernel⟩, ⟨by decide, by decide⟩, rfl, rfl⟩ vm_365 (show decode b_mm_wrong 16 = .ok (.invokestatic 132, 3) by decide +kernel), ?_⟩
  refine List.forall_mem_cons.mpr ⟨mx_ok_if_eq (show decode b_mm_wrong 19 = .ok (.ifCond .eq 5, 3) by decide +kernel) (by decide), ?_⟩
  refine List.forall_mem_cons.mpr ⟨mx_ok_iconst (show decode b_mm_wrong 22 = .ok (.iconst 2, 1) by decide +kernel) (by decide), ?_⟩
  refine List.forall_mem_cons.mpr ⟨mx_ok_iret (show decode b_mm_wrong 23 = .ok (.ireturn, 1) by decide +kernel) rfl, ?_⟩
  refine List.forall_mem_cons.mpr ⟨mx_ok_iinc (show decode b_mm_wrong 24 = .ok (.iinc 2 1, 3) by decide +kernel) (by decide) (by decide), ?_⟩
  refine List.forall_mem_cons.mpr ⟨mx_ok_goto (show decode b_mm_wrong 27 = .ok (.goto (-22), 3) by decide +kernel) (by decide), ?_⟩
  refine List.forall_mem_cons.mpr ⟨mx_ok_aload_n (show decode b_mm_wrong 30 = .ok (.aload_n 0, 1) by decide +kernel) rfl, ?_⟩
  refine List.forall_mem_cons.mpr ⟨mx_ok_getf fd_mm_53 (show decode b_mm_wrong 31 = .ok (.getfield 53, 3) by decide +kernel), ?_⟩
  refine List.forall_mem_cons.mpr ⟨mx_ok_istore_n (show decode b_mm_wrong 34 = .ok (.istore_n 2, 1) by decide +kernel) rfl (by decide), ?_⟩
  refine List.forall_mem_cons.mpr ⟨mx_ok_iload_n (show decode b_mm_wrong 35 = .ok (.iload_n 2, 1) by decide +kernel) rfl, ?_⟩
  refine List.forall_mem_cons.mpr ⟨mx_ok_iload_n (show decode b_mm_wrong 36 = .ok (.iload_n 1, 1) by decide +kernel) rfl, ?_⟩
  refine List.forall_mem_cons.mpr ⟨mx_ok_icmp_ge (show decode b_mm_wrong 37 = .ok (.if_icmp .ge 48, 3) by decide +kernel) (by decide), ?_⟩
  refine List.forall_mem_cons.mpr ⟨mx_ok_aload_n (show decode b_mm_wrong 40 = .ok (.aload_n 0, 1) by decide +kernel) rfl, ?_⟩
  refine List.forall_mem_cons.mpr ⟨mx_ok_getf fd_mm_53 (show decode b_mm_wrong 41 = .ok (.getfield 53, 3) by decide +kernel), ?_⟩
  refine List.forall_mem_cons.mpr ⟨mx_ok_istore_n (show decode b_mm_wrong 44 = .ok (.istore_n 3, 1) by decide +kernel) rfl (by decide), ?_⟩
  refine List.forall_mem_cons.mpr ⟨mx_ok_iload_n (show decode b_mm_wrong 45 = .ok (.iload_n 3, 1) by decide +kernel) rfl, ?_⟩
  refine List.forall_mem_cons.mpr ⟨mx_ok_iload_n (show decode b_mm_wrong 46 = .ok (.iload_n 2, 1) by decide +kernel) rfl, ?_⟩
  refine List.forall_mem_cons.mpr ⟨mx_ok_icmp_ge (show decode b_mm_wrong 47 = .ok (.if_icmp .ge 32, 3) by decide +kernel) (by decide), ?_⟩
  refine List.forall_mem_cons.mpr ⟨mx_ok_aload_n (show decode b_mm_wrong 50 = .ok (.aload_n 0, 1) by decide +kernel) rfl, ?_⟩
  refine List.forall_mem_cons.mpr ⟨mx_ok_getf fd_mm_7 (show decode b_mm_wrong 51 = .ok (.getfield 7, 3) by decide +kernel), ?_⟩
  refine List.forall_mem_cons.mpr ⟨mx_ok_iload_n (show decode b_mm_wrong 54 = .ok (.iload_n 2, 1) by decide +kernel) rfl, ?_⟩
  refine List.forall_mem_cons.mpr ⟨mx_ok_iald (show decode b_mm_wrong 55 = .ok (.iaload, 1) by decide +kernel), ?_⟩
  refine List.forall_mem_cons.mpr ⟨mx_ok_invS vw_G (ct_mm_unit l ) ⟨vm_332, vm_333, vm_324, ⟨by decide +kernel, by decide +kernel, by decide +kernel⟩, ⟨by decide, by decide⟩, rfl, rfl⟩ vm_334 (show decode b_mm_wrong 56 = .ok (.invokestatic 92, 3) by decide +kernel), ?_⟩
  refine List.forall_mem_cons.mpr ⟨mx_ok_aload_n (show decode b_mm_wrong 59 = .ok (.aload_n 0, 1) by decide +kernel) rfl, ?_⟩
  refine List.forall_mem_cons.mpr ⟨mx_ok_getf fd_mm_7 (show decode b_mm_wrong 60 = .ok (.getfield 7, 3) by decide +kernel), ?_⟩
  refine List.forall_mem_cons.mpr ⟨mx_ok_iload_n (show decode b_mm_wrong 63 = .ok (.iload_n 3, 1) by decide +kernel) rfl, ?_⟩
  refine List.forall_mem_cons.mpr ⟨mx_ok_iald (show decode b_mm_wrong 64 = .ok (.iaload, 1) by decide +kernel), ?_⟩
  refine List.forall_mem_cons.mpr ⟨mx_ok_invS vw_G (ct_mm_unit l ) ⟨vm_332, vm_333, vm_324, ⟨by decide +kernel, by decide +kernel, by decide +kernel⟩, ⟨by decide, by decide⟩, rfl, rfl⟩ vm_334 (show decode b_mm_wrong 65 = .ok (.invokestatic 92, 3) by decide +kernel), ?_⟩
  refine List.forall_mem_cons.mpr ⟨mx_ok_icmp_ne (show decode b_mm_wrong 68 = .ok (.if_icmp .ne 5, 3) by decide +kernel) (by decide), ?_⟩
  refine List.forall_mem_cons.mpr ⟨mx_ok_iconst (show decode b_mm_wrong 71 = .ok (.iconst 3, 1) by decide +kernel) (by decide), ?_⟩
  refine List.forall_mem_cons.mpr ⟨mx_ok_iret (show decode b_mm_wrong 72 = .ok (.ireturn, 1) by decide +kernel) rfl, ?_⟩
  refine List.forall_mem_cons.mpr ⟨mx_ok_iinc (show decode b_mm_wrong 73 = .ok (.iinc 3 1, 3) by decide +kernel) (by decide) (by decide), ?_⟩
  refine List.forall_mem_cons.mpr ⟨mx_ok_goto (show decode b_mm_wrong 76 = .ok (.goto (-31), 3) by decide +kernel) (by decide), ?_⟩
  refine List.forall_mem_cons.mpr ⟨mx_ok_iinc (show decode b_mm_wrong 79 = .ok (.iinc 2 1, 3) by decide +kernel) (by decide) (by decide), ?_⟩
  refine List.forall_mem_cons.mpr ⟨mx_ok_goto (show decode b_mm_wrong 82 = .ok (.goto (-47), 3) by decide +kernel) (by decide), ?_⟩
  refine List.forall_mem_cons.mpr ⟨mx_ok_iconst (show decode b_mm_wrong 85 = .ok (.iconst 0, 1) by decide +kernel) (by decide), ?_⟩
  refine List.forall_mem_cons.mpr ⟨mx_ok_istore_n (show decode b_mm_wrong 86 = .ok (.istore_n 2, 1) by decide +kernel) rfl (by decide), ?_⟩
  refine List.forall_mem_cons.mpr ⟨mx_ok_iload_n (show decode b_mm_wrong 87 = .ok (.iload_n 2, 1) by decide +kernel) rfl, ?_⟩
  refine List.forall_mem_cons.mpr ⟨mx_ok_iconst (show decode b_mm_wrong 88 = .ok (.iconst 2, 1) by decide +kernel) (by decide), ?_⟩
  refine List.forall_mem_cons.mpr ⟨mx_ok_icmp_ge (show decode b_mm_wrong 89 = .ok (.if_icmp .ge 92, 3) by decide +kernel) (by decide), ?_⟩
  refine List.forall_mem_cons.mpr ⟨mx_ok_iconst (show decode b_mm_wrong 92 = .ok (.iconst 0, 1) by decide +kernel) (by decide), ?_⟩
  refine List.forall_mem_cons.mpr ⟨mx_ok_istore_n (show decode b_mm_wrong 93 = .ok (.istore_n 3, 1) by decide +kernel) rfl (by decide), ?_⟩
  refine List.forall_mem_cons.mpr ⟨mx_ok_aload_n (show decode b_mm_wrong 94 = .ok (.aload_n 0, 1) by decide +kernel) rfl, ?_⟩
  refine List.forall_mem_cons.mpr ⟨mx_ok_getf fd_mm_53 (show decode b_mm_wrong 95 = .ok (.getfield 53, 3) by decide +kernel), ?_⟩
  refine List.forall_mem_cons.mpr ⟨mx_ok_istore (show decode b_mm_wrong 98 = .ok (.istore 4, 2) by decide +kernel) (by decide), ?_⟩
  refine List.forall_mem_cons.mpr ⟨mx_ok_iload (show decode b_mm_wrong 100 = .ok (.iload 4, 2) by decide +kernel), ?_⟩
  refine List.forall_mem_cons.mpr ⟨mx_ok_iload_n (show decode b_mm_wrong 102 = .ok (.iload_n 1, 1) by decide +kernel) rfl, ?_⟩
  refine List.forall_mem_cons.mpr ⟨mx_ok_icmp_ge (show decode b_mm_wrong 103 = .ok (.if_icmp .ge 65, 3) by decide +kernel) (by decide), ?_⟩
  refine List.forall_mem_cons.mpr ⟨mx_ok_aload_n (show decode b_mm_wrong 106 = .ok (.aload_n 0, 1) by decide +kernel) rfl, ?_⟩
  refine List.forall_mem_cons.mpr ⟨mx_ok_getf fd_mm_7 (show decode b_mm_wrong 107 = .ok (.getfield 7, 3) by decide +kernel), ?_⟩
  refine List.forall_mem_cons.mpr ⟨mx_ok_iload (show decode b_mm_wrong 110 = .ok (.iload 4, 2) by decide +kernel), ?_⟩
  refine List.forall_mem_cons.mpr ⟨mx_ok_iald (show decode b_mm_wrong 112 = .ok (.iaload, 1) by decide +kernel), ?_⟩
  refine List.forall_mem_cons.mpr ⟨mx_ok_istore (show decode b_mm_wrong 113 = .ok (.istore 5, 2) by decide +kernel) (by decide), ?_⟩
  refine List.forall_mem_cons.mpr ⟨mx_ok_iload_n (show decode b_mm_wrong 115 = .ok (.iload_n 3, 1) by decide +kernel) rfl, ?_⟩
  refine List.forall_mem_cons.mpr ⟨mx_ok_iload (show decode b_mm_wrong 116 = .ok (.iload 5, 2) by decide +kernel), ?_⟩
  refine List.forall_mem_cons.mpr ⟨mx_ok_invS vw_G (ct_mm_unit l ) ⟨vm_332, vm_333, vm_324, ⟨by decide +kernel, by decide +kernel, by decide +kernel⟩, ⟨by decide, by decide⟩, rfl, rfl⟩ vm_334 (show decode b_mm_wrong 118 = .ok (.invokestatic 92, 3) by decide +kernel), ?_⟩
  refine List.forall_mem_cons.mpr ⟨mx_ok_iconst (show decode b_mm_wrong 121 = .ok (.iconst 4, 1) by decide +kernel) (by decide), ?_⟩
  refine List.forall_mem_cons.mpr ⟨mx_ok_idiv (show decode b_mm_wrong 122 = .ok (.idiv, 1) by decide +kernel), ?_⟩
  refine List.forall_mem_cons.mpr ⟨mx_ok_iload_n (show decode b_mm_wrong 123 = .ok (.iload_n 2, 1) by decide +kernel) rfl, ?_⟩
  refine List.forall_mem_cons.mpr ⟨mx_ok_icmp_ne (show decode b_mm_wrong 124 = .ok (.if_icmp .ne 35, 3) by decide +kernel) (by decide), ?_⟩
  refine List.forall_mem_cons.mpr ⟨mx_ok_iload (show decode b_mm_wrong 127 = .ok (.iload 5, 2) by decide +kernel), ?_⟩
  refine List.forall_mem_cons.mpr ⟨mx_ok_invS vw_G (ct_mm_hasB l ) ⟨vm_366, vm_367, vm_324, ⟨by decide +kernel, by decide +kernel, by decide +kernel⟩, ⟨by decide, by decide⟩, rfl, rfl⟩ vm_368 (show decode b_mm_wrong 129 = .ok (.invokestatic 135, 3) by decide +kernel), ?_⟩
  refine List.forall_mem_cons.mpr ⟨mx_ok_if_eq (show decode b_mm_wrong 132 = .ok (.ifCond .eq 27, 3) by decide +kernel) (by decide), ?_⟩
  refine List.forall_mem_cons.mpr ⟨mx_ok_iload (show decode b_mm_wrong 135 = .ok (.iload 5, 2) by decide +kernel), ?_⟩
  refine List.forall_mem_cons.mpr ⟨mx_ok_invS vw_G (ct_mm_isNumber l ) ⟨vm_353, vm_354, vm_324, ⟨by decide +kernel, by decide +kernel, by decide +kernel⟩, ⟨by decide, by decide⟩, rfl, rfl⟩ vm_355 (show decode b_mm_wrong 137 = .ok (.invokestatic 138, 3) by decide +kernel), ?_⟩
  refine List.forall_mem_cons.mpr ⟨mx_ok_if_ne (show decode b_mm_wrong 140 = .ok (.ifCond .ne 19, 3) by decide +kernel) (by decide), ?_⟩
  refine List.forall_mem_cons.mpr ⟨mx_ok_iload (show decode b_mm_wrong 143 = .ok (.iload 5, 2) by decide +kernel), ?_⟩
  refine List.forall_mem_cons.mpr ⟨mx_ok_invS vw_G (ct_mm_b l ) ⟨vm_356, vm_357, vm_324, ⟨by decide +kernel, by decide +kernel, by decide +kernel⟩, ⟨by decide, by decide⟩, rfl, rfl⟩ vm_358 (show decode b_mm_wrong 145 = .ok (.invokestatic 141, 3) by decide +kernel), ?_⟩
  refine List.forall_mem_cons.mpr ⟨mx_ok_bipush (show decode b_mm_wrong 148 = .ok (.bipush 16, 2) by decide +kernel) (by decide), ?_⟩
  refine List.forall_mem_cons.mpr ⟨mx_ok_idiv (show decode b_mm_wrong 150 = .ok (.idiv, 1) by decide +kernel), ?_⟩
  refine List.forall_mem_cons.mpr ⟨mx_ok_iload_n (show decode b_mm_wrong 151 = .ok (.iload_n 2, 1) by decide +kernel) rfl, ?_⟩
  refine List.forall_mem_cons.mpr ⟨mx_ok_icmp_eq (show decode b_mm_wrong 152 = .ok (.if_icmp .eq 7, 3) by decide +kernel) (by decide), ?_⟩
  refine List.forall_mem_cons.mpr ⟨mx_ok_iconst (show decode b_mm_wrong 155 = .ok (.iconst 1, 1) by decide +kernel) (by decide), ?_⟩
  refine List.forall_mem_cons.mpr ⟨mx_ok_goto (show decode b_mm_wrong 156 = .ok (.goto 4, 3) by decide +kernel) (by decide), ?_⟩
  refine List.forall_mem_cons.mpr ⟨mx_ok_iconst (show decode b_mm_wrong 159 = .ok (.iconst 0, 1) by decide +kernel) (by decide), ?_⟩
  refine List.forall_mem_cons.mpr ⟨mx_ok_iadd (show decode b_mm_wrong 160 = .ok (.iadd, 1) by decide +kernel), ?_⟩
  refine List.forall_mem_cons.mpr ⟨mx_ok_istore_n (show decode b_mm_wrong 161 = .ok (.istore_n 3, 1) by decide +kernel) rfl (by decide), ?_⟩
  refine List.forall_mem_cons.mpr ⟨mx_ok_iinc (show decode b_mm_wrong 162 = .ok (.iinc 4 1, 3) by decide +kernel) (by decide) (by decide), ?_⟩
  refine List.forall_mem_cons.mpr ⟨mx_ok_goto (show decode b_mm_wrong 165 = .ok (.goto (-65), 3) by decide +kernel) (by decide), ?_⟩
  refine List.forall_mem_cons.mpr ⟨mx_ok_iload_n (show decode b_mm_wrong 168 = .ok (.iload_n 3, 1) by decide +kernel) rfl, ?_⟩
  refine List.forall_mem_cons.mpr ⟨mx_ok_iconst (show decode b_mm_wrong 169 = .ok (.iconst 1, 1) by decide +kernel) (by decide), ?_⟩
  refine List.forall_mem_cons.mpr ⟨mx_ok_icmp_le (show decode b_mm_wrong 170 = .ok (.if_icmp .le 5, 3) by decide +kernel) (by decide), ?_⟩
  refine List.forall_mem_cons.mpr ⟨mx_ok_iconst (show decode b_mm_wrong 173 = .ok (.iconst 4, 1) by decide +kernel) (by decide), ?_⟩
  refine List.forall_mem_cons.mpr ⟨mx_ok_iret (show decode b_mm_wrong 174 = .ok (.ireturn, 1) by decide +kernel) rfl, ?_⟩
  refine List.forall_mem_cons.mpr ⟨mx_ok_iinc (show decode b_mm_wrong 175 = .ok (.iinc 2 1, 3) by decide +kernel) (by decide) (by decide), ?_⟩
  refine List.forall_mem_cons.mpr ⟨mx_ok_goto (show decode b_mm_wrong 178 = .ok (.goto (-91), 3) by decide +kernel) (by decide), ?_⟩
  refine List.forall_mem_cons.mpr ⟨mx_ok_aload_n (show decode b_mm_wrong 181 = .ok (.aload_n 0, 1) by decide +kernel) rfl, ?_⟩
  refine List.forall_mem_cons.mpr ⟨mx_ok_getf fd_mm_53 (show decode b_mm_wrong 182 = .ok (.getfield 53, 3) by decide +kernel), ?_⟩
  refine List.forall_mem_cons.mpr ⟨mx_ok_istore_n (show decode b_mm_wrong 185 = .ok (.istore_n 2, 1) by decide +kernel) rfl (by decide), ?_⟩
  refine List.forall_mem_cons.mpr ⟨mx_ok_iload_n (show decode b_mm_wrong 186 = .ok (.iload_n 2, 1) by decide +kernel) rfl, ?_⟩
  refine List.forall_mem_cons.mpr ⟨mx_ok_iload_n (show decode b_mm_wrong 187 = .ok (.iload_n 1, 1) by decide +kernel) rfl, ?_⟩
  refine List.forall_mem_cons.mpr ⟨mx_ok_icmp_ge (show decode b_mm_wrong 188 = .ok (.if_icmp .ge 51, 3) by decide +kernel) (by decide), ?_⟩
  refine List.forall_mem_cons.mpr ⟨mx_ok_aload_n (show decode b_mm_wrong 191 = .ok (.aload_n 0, 1) by decide +kernel) rfl, ?_⟩
  refine List.forall_mem_cons.mpr ⟨mx_ok_getf fd_mm_7 (show decode b_mm_wrong 192 = .ok (.getfield 7, 3) by decide +kernel), ?_⟩
  refine List.forall_mem_cons.mpr ⟨mx_ok_iload_n (show decode b_mm_wrong 195 = .ok (.iload_n 2, 1) by decide +kernel) rfl, ?_⟩
  refine List.forall_mem_cons.mpr ⟨mx_ok_iald (show decode b_mm_wrong 196 = .ok (.iaload, 1) by decide +kernel), ?_⟩
  refine List.forall_mem_cons.mpr ⟨mx_ok_istore_n (show decode b_mm_wrong 197 = .ok (.istore_n 3, 1) by decide +kernel) rfl (by decide), ?_⟩
  refine List.forall_mem_cons.mpr ⟨mx_ok_iload_n (show decode b_mm_wrong 198 = .ok (.iload_n 3, 1) by decide +kernel) rfl, ?_⟩
  refine List.forall_mem_cons.mpr ⟨mx_ok_invS vw_G (ct_mm_kind l ) ⟨vm_322, vm_323, vm_324, ⟨by decide +kernel, by decide +kernel, by decide +kernel⟩, ⟨by decide, by decide⟩, rfl, rfl⟩ vm_325 (show decode b_mm_wrong 199 = .ok (.invokestatic 81, 3) by decide +kernel), ?_⟩
  refine List.forall_mem_cons.mpr ⟨mx_ok_iconst (show decode b_mm_wrong 202 = .ok (.iconst 3, 1) by decide +kernel) (by decide), ?_⟩
  refine List.forall_mem_cons.mpr ⟨mx_ok_icmp_ne (show decode b_mm_wrong 203 = .ok (.if_icmp .ne 30, 3) by decide +kernel) (by decide), ?_⟩
  refine List.forall_mem_cons.mpr ⟨mx_ok_iload_n (show decode b_mm_wrong 206 = .ok (.iload_n 3, 1) by decide +kernel) rfl, ?_⟩
  refine List.forall_mem_cons.mpr ⟨mx_ok_invS vw_G (ct_mm_operation l ) ⟨vm_326, vm_327, vm_324, ⟨by decide +kernel, by decide +kernel, by decide +kernel⟩, ⟨by decide, by decide⟩, rfl, rfl⟩ vm_328 (show decode b_mm_wrong 207 = .ok (.invokestatic 85, 3) by decide +kernel), ?_⟩
  refine List.forall_mem_cons.mpr ⟨mx_ok_iconst (show decode b_mm_wrong 210 = .ok (.iconst 1, 1) by decide +kernel) (by decide), ?_⟩
  refine List.forall_mem_cons.mpr ⟨mx_ok_icmp_le (show decode b_mm_wrong 211 = .ok (.if_icmp .le 22, 3) by decide +kernel) (by decide), ?_⟩
  refine List.forall_mem_cons.mpr ⟨mx_ok_aload_n (show decode b_mm_wrong 214 = .ok (.aload_n 0, 1) by decide +kernel) rfl, ?_⟩
  refine List.forall_mem_cons.mpr ⟨mx_ok_iload_n (show decode b_mm_wrong 215 = .ok (.iload_n 3, 1) by decide +kernel) rfl, ?_⟩
  refine List.forall_mem_cons.mpr ⟨mx_ok_invV vw_G (ct_mm_isDone l ) ⟨vm_369, vm_370, vm_324, ⟨by decide +kernel, by decide +kernel, by decide +kernel⟩, ⟨by decide, by decide⟩, rfl, rfl⟩ vm_371 vm_372 rfl (show decode b_mm_wrong 216 = .ok (.invokevirtual 144, 3) by decide +kernel), ?_⟩
  refine List.forall_mem_cons.mpr ⟨mx_ok_if_eq (show decode b_mm_wrong 219 = .ok (.ifCond .eq 14, 3) by decide +kernel) (by decide), ?_⟩
  refine List.forall_mem_cons.mpr ⟨mx_ok_aload_n (show decode b_mm_wrong 222 = .ok (.aload_n 0, 1) by decide +kernel) rfl, ?_⟩
  refine List.forall_mem_cons.mpr ⟨mx_ok_iload_n (show decode b_mm_wrong 223 = .ok (.iload_n 3, 1) by decide +kernel) rfl, ?_⟩
  refine List.forall_mem_cons.mpr ⟨mx_ok_invV vw_G (ct_mm_reaches l ) ⟨vm_373, vm_374, vm_324, ⟨by decide +kernel, by decide +kernel, by decide +kernel⟩, ⟨by decide, by decide⟩, rfl, rfl⟩ vm_375 vm_376 rfl (show decode b_mm_wrong 224 = .ok (.invokevirtual 147, 3) by decide +kernel), ?_⟩
  refine List.forall_mem_cons.mpr ⟨mx_ok_if_ne (show decode b_mm_wrong 227 = .ok (.ifCond .ne 6, 3) by decide +kernel) (by decide), ?_⟩
  refine List.forall_mem_cons.mpr ⟨mx_ok_bipush (show decode b_mm_wrong 230 = .ok (.bipush 7, 2) by decide +kernel) (by decide), ?_⟩
  refine List.forall_mem_cons.mpr ⟨mx_ok_iret (show decode b_mm_wrong 232 = .ok (.ireturn, 1) by decide +kernel) rfl, ?_⟩
  refine List.forall_mem_cons.mpr ⟨mx_ok_iinc (show decode b_mm_wrong 233 = .ok (.iinc 2 1, 3) by decide +kernel) (by decide) (by decide), ?_⟩
  refine List.forall_mem_cons.mpr ⟨mx_ok_goto (show decode b_mm_wrong 236 = .ok (.goto (-50), 3) by decide +kernel) (by decide), ?_⟩
  refine List.forall_mem_cons.mpr ⟨mx_ok_iconst (show decode b_mm_wrong 239 = .ok (.iconst 0, 1) by decide +kernel) (by decide), ?_⟩
  refine List.forall_mem_cons.mpr ⟨mx_ok_iret (show decode b_mm_wrong 240 = .ok (.ireturn, 1) by decide +kernel) rfl, ?_⟩
  exact fun _ h => absurd h List.not_mem_nil
set_option maxRecDepth 100000 in
set_option maxHeartbeats 4000000 in
theorem ct_mm_wrong (l : Launch) : mx_Ct l vw_T vw_cl km { frames := 4, cells := 0, slots := 0, locals := 85 } y_mm_wrong b_mm_wrong 6 (some .int) pre_mm_wrong fn_mm_wrong := by
  refine mx_ct_of (tb_mm_wrong ) (by decide) (ok_mm_wrong l ) (fun as u h => by obtain ⟨_, rfl, -⟩ := h; exact Nat.le_of_ble_eq_true rfl) ?_
  intro as u hpre At hc hw
  obtain ⟨a1, rfl, hp⟩ := hpre
  obtain ⟨RES, hRES⟩ : ∃ z, z = (mm_wrong a1 u) := ⟨_, rfl⟩
  have hfn : fn_mm_wrong [.inr (.inr 0), .inl a1] u = mx_rI u RES := by rw [hRES]; rfl
  rw [hfn] at hc
  have lp186 : ∀ (n186 : Nat) (v2 : Int32), q_mm_wrong_l186 a1 u n186 v2 → mm_wrong_l186 a1 u n186 v2 = RES → At 186 [(2, .inl v2), (0, .inr (.inr 0)), (1, .inl a1)] [] u := by
    intro n186
    induction n186 with
    | zero =>
      intro v2 hi he
      exact hi.elim
    | succ n186 ih186 =>
      intro v2 hi186 he186
      exact hc 200 [5, 35, 45, 87, 100, 186] _ _ _ _ (
        And.intro (fun h188 => 
         congrArg (mx_rI u) (show 0 = RES from (if_pos h188).symm.trans he186)) (fun h188 => 
         And.intro ((hi186.2 h188).1) (
         And.intro rfl (
         And.intro ⟨_, rfl, trivial⟩ (
         And.intro (fun h203 => 
          hw [0, 2, 3] 186 _ [] _ (ih186 (v2 + 1) ((hi186.2 h188).2.1 h203) (((if_neg h188).trans (if_neg h203)).symm.trans he186))) (fun h203 => 
          And.intro rfl (
          And.intro ⟨_, rfl, trivial⟩ (
          And.intro (fun h211 => 
           hw [0, 2, 3] 186 _ [] _ (ih186 (v2 + 1) (((hi186.2 h188).2.2 h203).1 h211) (((if_neg h188).trans ((if_pos h203).trans (if_pos h211))).symm.trans he186))) (fun h211 => 
           And.intro rfl (
           And.intro ⟨_, rfl, (((hi186.2 h188).2.2 h203).2 h211).1⟩ (
           And.intro (fun h219 => 
            hw [0, 2, 3] 186 _ [] _ (ih186 (v2 + 1) ((((hi186.2 h188).2.2 h203).2 h211).2.1 h219) (((if_neg h188).trans ((if_pos h203).trans ((if_neg h211).trans (if_pos h219)))).symm.trans he186))) (fun h219 => 
            And.intro rfl (
            And.intro ⟨_, rfl, trivial⟩ (
            And.intro (fun h227 => 
             hw [0, 2, 3] 186 _ [] _ (ih186 (v2 + 1) (((((hi186.2 h188).2.2 h203).2 h211).2.2 h219).1 h227) (((if_neg h188).trans ((if_pos h203).trans ((if_neg h211).trans ((if_neg h219).trans (if_neg h227))))).symm.trans he186))) (fun h227 => 
             congrArg (mx_rI u) (show 7 = RES from ((if_neg h188).trans ((if_pos h203).trans ((if_neg h211).trans ((if_neg h219).trans (if_pos h227))))).symm.trans he186))))))))))))))))
  have lp87 : ∀ (n87 : Nat) (v2 : Int32), q_mm_wrong_l87 a1 u n87 v2 → mm_wrong_l87 a1 u n87 v2 = RES → At 87 [(2, .inl v2), (0, .inr (.inr 0)), (1, .inl a1)] [] u := by
    intro n87
    induction n87 with
    | zero =>
      intro v2 hi he
      exact hi.elim
    | succ n87 ih87 =>
      intro v2 hi87 he87
      have lp100 : ∀ (n100 : Nat) (v2 : Int32) (v3 : Int32) (v4 : Int32), q_mm_wrong_l100 a1 u (fun v2' => mm_wrong_l87 a1 u n87 v2') (fun v2' => q_mm_wrong_l87 a1 u n87 v2') n100 v2 v3 v4 → mm_wrong_l100 a1 u (fun v2' => mm_wrong_l87 a1 u n87 v2') n100 v2 v3 v4 = RES → At 100 [(2, .inl v2), (3, .inl v3), (4, .inl v4), (0, .inr (.inr 0)), (1, .inl a1)] [] u := by
        intro n100
        induction n100 with
        | zero =>
          intro v2 v3 v4 hi he
          exact hi.elim
        | succ n100 ih100 =>
          intro v2 v3 v4 hi100 he100
          exact hc 200 [5, 35, 45, 87, 100, 186] _ _ _ _ (
            And.intro (fun h103 => 
             And.intro (fun h170 => 
              hw [0, 3, 4] 87 _ [] _ (ih87 (v2 + 1) ((hi100.1 h103).1 h170) (((if_pos h103).trans (if_pos h170)).symm.trans he100))) (fun h170 => 
              congrArg (mx_rI u) (show 4 = RES from ((if_pos h103).trans (if_neg h170)).symm.trans he100))) (fun h103 => 
             And.intro ((hi100.2 h103).1) (
             And.intro rfl (
             And.intro ⟨_, rfl, trivial⟩ (
             And.intro (by decide) (
             And.intro (fun h124 => 
              hw [3, 1, 0, 4, 5] 100 _ [] _ (ih100 v2 (v3 + (0 : Int32)) (v4 + 1) ((hi100.2 h103).2.1 h124) (((if_neg h103).trans (if_neg h124)).symm.trans he100))) (fun h124 => 
              And.intro rfl (
              And.intro ⟨_, rfl, trivial⟩ (
              And.intro (fun h132 => 
               hw [3, 1, 0, 4, 5] 100 _ [] _ (ih100 v2 (v3 + (0 : Int32)) (v4 + 1) (((hi100.2 h103).2.2 h124).1 h132) (((if_neg h103).trans ((if_pos h124).trans (if_pos h132))).symm.trans he100))) (fun h132 => 
               And.intro rfl (
               And.intro ⟨_, rfl, trivial⟩ (
               And.intro (fun h140 => 
                hw [3, 1, 0, 4, 5] 100 _ [] _ (ih100 v2 (v3 + (0 : Int32)) (v4 + 1) ((((hi100.2 h103).2.2 h124).2 h132).1 h140) (((if_neg h103).trans ((if_pos h124).trans ((if_neg h132).trans (if_neg h140)))).symm.trans he100))) (fun h140 => 
                And.intro rfl (
                And.intro ⟨_, rfl, trivial⟩ (
                And.intro (by decide) (
                And.intro (fun h152 => 
                 hw [3, 1, 0, 4, 5] 100 _ [] _ (ih100 v2 (v3 + (0 : Int32)) (v4 + 1) (((((hi100.2 h103).2.2 h124).2 h132).2 h140).1 h152) (((if_neg h103).trans ((if_pos h124).trans ((if_neg h132).trans ((if_pos h140).trans (if_pos h152))))).symm.trans he100))) (fun h152 => 
                 hw [3, 1, 0, 4, 5] 100 _ [] _ (ih100 v2 (v3 + (1 : Int32)) (v4 + 1) (((((hi100.2 h103).2.2 h124).2 h132).2 h140).2 h152) (((if_neg h103).trans ((if_pos h124).trans ((if_neg h132).trans ((if_pos h140).trans (if_neg h152))))).symm.trans he100)))))))))))))))))))
      exact hc 200 [5, 35, 45, 87, 100, 186] _ _ _ _ (
        And.intro (fun h89 => 
         hw [0, 1, 2] 186 _ [] _ (lp186 20 (mx_gf u 0 7) (hi87.1 h89) ((if_pos h89).symm.trans he87))) (fun h89 => 
         hw [2, 1, 0, 3, 4] 100 _ [] _ (lp100 20 v2 0 (mx_gf u 0 7) (hi87.2 h89) ((if_neg h89).symm.trans he87))))
  have lp35 : ∀ (n35 : Nat) (v2 : Int32), q_mm_wrong_l35 a1 u n35 v2 → mm_wrong_l35 a1 u n35 v2 = RES → At 35 [(2, .inl v2), (0, .inr (.inr 0)), (1, .inl a1)] [] u := by
    intro n35
    induction n35 with
    | zero =>
      intro v2 hi he
      exact hi.elim
    | succ n35 ih35 =>
      intro v2 hi35 he35
      have lp45 : ∀ (n45 : Nat) (v2 : Int32) (v3 : Int32), q_mm_wrong_l45 a1 u (fun v2' => mm_wrong_l35 a1 u n35 v2') (fun v2' => q_mm_wrong_l35 a1 u n35 v2') n45 v2 v3 → mm_wrong_l45 a1 u (fun v2' => mm_wrong_l35 a1 u n35 v2') n45 v2 v3 = RES → At 45 [(2, .inl v2), (3, .inl v3), (0, .inr (.inr 0)), (1, .inl a1)] [] u := by
        intro n45
        induction n45 with
        | zero =>
          intro v2 v3 hi he
          exact hi.elim
        | succ n45 ih45 =>
          intro v2 v3 hi45 he45
          exact hc 200 [5, 35, 45, 87, 100, 186] _ _ _ _ (
            And.intro (fun h47 => 
             hw [0, 2, 3] 35 _ [] _ (ih35 (v2 + 1) (hi45.1 h47) ((if_pos h47).symm.trans he45))) (fun h47 => 
             And.intro ((hi45.2 h47).1) (
             And.intro rfl (
             And.intro ⟨_, rfl, trivial⟩ (
             And.intro ((hi45.2 h47).2.1) (
             And.intro rfl (
             And.intro ⟨_, rfl, trivial⟩ (
             And.intro (fun h68 => 
              hw [1, 0, 2, 3] 45 _ [] _ (ih45 v2 (v3 + 1) ((hi45.2 h47).2.2.1 h68) (((if_neg h47).trans (if_neg h68)).symm.trans he45))) (fun h68 => 
              congrArg (mx_rI u) (show 3 = RES from ((if_neg h47).trans (if_pos h68)).symm.trans he45))))))))))
      exact hc 200 [5, 35, 45, 87, 100, 186] _ _ _ _ (
        And.intro (fun h37 => 
         hw [0, 1, 2] 87 _ [] _ (lp87 20 0 (hi35.1 h37) ((if_pos h37).symm.trans he35))) (fun h37 => 
         hw [1, 0, 2, 3] 45 _ [] _ (lp45 20 v2 (mx_gf u 0 7) (hi35.2 h37) ((if_neg h37).symm.trans he35))))
  have lp5 : ∀ (n5 : Nat) (v2 : Int32), q_mm_wrong_l5 a1 u n5 v2 → mm_wrong_l5 a1 u n5 v2 = RES → At 5 [(2, .inl v2), (0, .inr (.inr 0)), (1, .inl a1)] [] u := by
    intro n5
    induction n5 with
    | zero =>
      intro v2 hi he
      exact hi.elim
    | succ n5 ih5 =>
      intro v2 hi5 he5
      exact hc 200 [5, 35, 45, 87, 100, 186] _ _ _ _ (
        And.intro (fun h7 => 
         hw [0, 1, 2] 35 _ [] _ (lp35 20 (mx_gf u 0 7) (hi5.1 h7) ((if_pos h7).symm.trans he5))) (fun h7 => 
         And.intro ((hi5.2 h7).1) (
         And.intro rfl (
         And.intro ⟨_, rfl, trivial⟩ (
         And.intro (fun h19 => 
          hw [0, 1, 2] 5 _ [] _ (ih5 (v2 + 1) ((hi5.2 h7).2.1 h19) (((if_neg h7).trans (if_pos h19)).symm.trans he5))) (fun h19 => 
          congrArg (mx_rI u) (show 2 = RES from ((if_neg h7).trans (if_neg h19)).symm.trans he5)))))))
  exact hc 200 [5, 35, 45, 87, 100, 186] _ _ _ _ (
    hw [0, 1, 2] 5 _ [] _ (lp5 20 (mx_gf u 0 7) hp ((mm_wrong_eq a1 u).symm.trans hRES.symm)))
/-! WideMachineModel.controls(I)V -/
noncomputable def mm_controls_b (a1 : Int32) (u : mx_S) : mx_S :=
  if 10 ≤ (mm_operation a1 ) then
   if (mm_operation a1 ) = 10 then
    if ((mm_second a1 u) &&& (15 : Int32)) ≤ (mx_gf u 0 9) then
     (mx_sf u 0 9 (mx_gf u 0 9))
    else
     (mx_sf u 0 9 ((mm_second a1 u) &&& (15 : Int32)))
   else
    u
  else
   if (mm_operation a1 ) = 7 then
    if (mx_gf (mx_sa (mx_sa u 7 ((mx_gf u 0 17)).toNatClampNeg (a1.toUInt32 >>> ((12 : Int32).toUInt32 &&& Int32.toUInt32 31)).toInt32) 8 ((mx_gf (mx_sa u 7 ((mx_gf u 0 17)).toNatClampNeg (a1.toUInt32 >>> ((12 : Int32).toUInt32 &&& Int32.toUInt32 31)).toInt32) 0 17)).toNatClampNeg ((mx_gf (mx_sa u 7 ((mx_gf u 0 17)).toNatClampNeg (a1.toUInt32 >>> ((12 : Int32).toUInt32 &&& Int32.toUInt32 31)).toInt32) 0 8) + (6 : Int32))) 0 11) = 0 then
     if (mm_operation a1 ) = 9 then
      if (mm_operation a1 ) = 10 then
       if ((mm_second a1 (mx_sf (mx_sf (mx_sa (mx_sa u 7 ((mx_gf u 0 17)).toNatClampNeg (a1.toUInt32 >>> ((12 : Int32).toUInt32 &&& Int32.toUInt32 31)).toInt32) 8 ((mx_gf (mx_sa u 7 ((mx_gf u 0 17)).toNatClampNeg (a1.toUInt32 >>> ((12 : Int32).toUInt32 &&& Int32.toUInt32 31)).toInt32) 0 17)).toNatClampNeg ((mx_gf (mx_sa u 7 ((mx_gf u 0 17)).toNatClampNeg (a1.toUInt32 >>> ((12 : Int32).toUInt32 &&& Int32.toUInt32 31)).toInt32) 0 8) + (6 : Int32))) 0 11 1) 0 17 ((mx_gf (mx_sf (mx_sa (mx_sa u 7 ((mx_gf u 0 17)).toNatClampNeg (a1.toUInt32 >>> ((12 : Int32).toUInt32 &&& Int32.toUInt32 31)).toInt32) 8 ((mx_gf (mx_sa u 7 ((mx_gf u 0 17)).toNatClampNeg (a1.toUInt32 >>> ((12 : Int32).toUInt32 &&& Int32.toUInt32 31)).toInt32) 0 17)).toNatClampNeg ((mx_gf (mx_sa u 7 ((mx_gf u 0 17)).toNatClampNeg (a1.toUInt32 >>> ((12 : Int32).toUInt32 &&& Int32.toUInt32 31)).toInt32) 0 8) + (6 : Int32))) 0 11 1) 0 17) + (1 : Int32)))) &&& (15 : Int32)) ≤ (mx_gf (mx_sf (mx_sf (mx_sa (mx_sa u 7 ((mx_gf u 0 17)).toNatClampNeg (a1.toUInt32 >>> ((12 : Int32).toUInt32 &&& Int32.toUInt32 31)).toInt32) 8 ((mx_gf (mx_sa u 7 ((mx_gf u 0 17)).toNatClampNeg (a1.toUInt32 >>> ((12 : Int32).toUInt32 &&& Int32.toUInt32 31)).toInt32) 0 17)).toNatClampNeg ((mx_gf (mx_sa u 7 ((mx_gf u 0 17)).toNatClampNeg (a1.toUInt32 >>> ((12 : Int32).toUInt32 &&& Int32.toUInt32 31)).toInt32) 0 8) + (6 : Int32))) 0 11 1) 0 17 ((mx_gf (mx_sf (mx_sa (mx_sa u 7 ((mx_gf u 0 17)).toNatClampNeg (a1.toUInt32 >>> ((12 : Int32).toUInt32 &&& Int32.toUInt32 31)).toInt32) 8 ((mx_gf (mx_sa u 7 ((mx_gf u 0 17)).toNatClampNeg (a1.toUInt32 >>> ((12 : Int32).toUInt32 &&& Int32.toUInt32 31)).toInt32) 0 17)).toNatClampNeg ((mx_gf (mx_sa u 7 ((mx_gf u 0 17)).toNatClampNeg (a1.toUInt32 >>> ((12 : Int32).toUInt32 &&& Int32.toUInt32 31)).toInt32) 0 8) + (6 : Int32))) 0 11 1) 0 17) + (1 : Int32))) 0 9) then
        (mx_sf (mx_sf (mx_sf (mx_sa (mx_sa u 7 ((mx_gf u 0 17)).toNatClampNeg (a1.toUInt32 >>> ((12 : Int32).toUInt32 &&& Int32.toUInt32 31)).toInt32) 8 ((mx_gf (mx_sa u 7 ((mx_gf u 0 17)).toNatClampNeg (a1.toUInt32 >>> ((12 : Int32).toUInt32 &&& Int32.toUInt32 31)).toInt32) 0 17)).toNatClampNeg ((mx_gf (mx_sa u 7 ((mx_gf u 0 17)).toNatClampNeg (a1.toUInt32 >>> ((12 : Int32).toUInt32 &&& Int32.toUInt32 31)).toInt32) 0 8) + (6 : Int32))) 0 11 1) 0 17 ((mx_gf (mx_sf (mx_sa (mx_sa u 7 ((mx_gf u 0 17)).toNatClampNeg (a1.toUInt32 >>> ((12 : Int32).toUInt32 &&& Int32.toUInt32 31)).toInt32) 8 ((mx_gf (mx_sa u 7 ((mx_gf u 0 17)).toNatClampNeg (a1.toUInt32 >>> ((12 : Int32).toUInt32 &&& Int32.toUInt32 31)).toInt32) 0 17)).toNatClampNeg ((mx_gf (mx_sa u 7 ((mx_gf u 0 17)).toNatClampNeg (a1.toUInt32 >>> ((12 : Int32).toUInt32 &&& Int32.toUInt32 31)).toInt32) 0 8) + (6 : Int32))) 0 11 1) 0 17) + (1 : Int32))) 0 9 (mx_gf (mx_sf (mx_sf (mx_sa (mx_sa u 7 ((mx_gf u 0 17)).toNatClampNeg (a1.toUInt32 >>> ((12 : Int32).toUInt32 &&& Int32.toUInt32 31)).toInt32) 8 ((mx_gf (mx_sa u 7 ((mx_gf u 0 17)).toNatClampNeg (a1.toUInt32 >>> ((12 : Int32).toUInt32 &&& Int32.toUInt32 31)).toInt32) 0 17)).toNatClampNeg ((mx_gf (mx_sa u 7 ((mx_gf u 0 17)).toNatClampNeg (a1.toUInt32 >>> ((12 : Int32).toUInt32 &&& Int32.toUInt32 31)).toInt32) 0 8) + (6 : Int32))) 0 11 1) 0 17 ((mx_gf (mx_sf (mx_sa (mx_sa u 7 ((mx_gf u 0 17)).toNatClampNeg (a1.toUInt32 >>> ((12 : Int32).toUInt32 &&& Int32.toUInt32 31)).toInt32) 8 ((mx_gf (mx_sa u 7 ((mx_gf u 0 17)).toNatClampNeg (a1.toUInt32 >>> ((12 : Int32).toUInt32 &&& Int32.toUInt32 31)).toInt32) 0 17)).toNatClampNeg ((mx_gf (mx_sa u 7 ((mx_gf u 0 17)).toNatClampNeg (a1.toUInt32 >>> ((12 : Int32).toUInt32 &&& Int32.toUInt32 31)).toInt32) 0 8) + (6 : Int32))) 0 11 1) 0 17) + (1 : Int32))) 0 9))
       else
        (mx_sf (mx_sf (mx_sf (mx_sa (mx_sa u 7 ((mx_gf u 0 17)).toNatClampNeg (a1.toUInt32 >>> ((12 : Int32).toUInt32 &&& Int32.toUInt32 31)).toInt32) 8 ((mx_gf (mx_sa u 7 ((mx_gf u 0 17)).toNatClampNeg (a1.toUInt32 >>> ((12 : Int32).toUInt32 &&& Int32.toUInt32 31)).toInt32) 0 17)).toNatClampNeg ((mx_gf (mx_sa u 7 ((mx_gf u 0 17)).toNatClampNeg (a1.toUInt32 >>> ((12 : Int32).toUInt32 &&& Int32.toUInt32 31)).toInt32) 0 8) + (6 : Int32))) 0 11 1) 0 17 ((mx_gf (mx_sf (mx_sa (mx_sa u 7 ((mx_gf u 0 17)).toNatClampNeg (a1.toUInt32 >>> ((12 : Int32).toUInt32 &&& Int32.toUInt32 31)).toInt32) 8 ((mx_gf (mx_sa u 7 ((mx_gf u 0 17)).toNatClampNeg (a1.toUInt32 >>> ((12 : Int32).toUInt32 &&& Int32.toUInt32 31)).toInt32) 0 17)).toNatClampNeg ((mx_gf (mx_sa u 7 ((mx_gf u 0 17)).toNatClampNeg (a1.toUInt32 >>> ((12 : Int32).toUInt32 &&& Int32.toUInt32 31)).toInt32) 0 8) + (6 : Int32))) 0 11 1) 0 17) + (1 : Int32))) 0 9 ((mm_second a1 (mx_sf (mx_sf (mx_sa (mx_sa u 7 ((mx_gf u 0 17)).toNatClampNeg (a1.toUInt32 >>> ((12 : Int32).toUInt32 &&& Int32.toUInt32 31)).toInt32) 8 ((mx_gf (mx_sa u 7 ((mx_gf u 0 17)).toNatClampNeg (a1.toUInt32 >>> ((12 : Int32).toUInt32 &&& Int32.toUInt32 31)).toInt32) 0 17)).toNatClampNeg ((mx_gf (mx_sa u 7 ((mx_gf u 0 17)).toNatClampNeg (a1.toUInt32 >>> ((12 : Int32).toUInt32 &&& Int32.toUInt32 31)).toInt32) 0 8) + (6 : Int32))) 0 11 1) 0 17 ((mx_gf (mx_sf (mx_sa (mx_sa u 7 ((mx_gf u 0 17)).toNatClampNeg (a1.toUInt32 >>> ((12 : Int32).toUInt32 &&& Int32.toUInt32 31)).toInt32) 8 ((mx_gf (mx_sa u 7 ((mx_gf u 0 17)).toNatClampNeg (a1.toUInt32 >>> ((12 : Int32).toUInt32 &&& Int32.toUInt32 31)).toInt32) 0 17)).toNatClampNeg ((mx_gf (mx_sa u 7 ((mx_gf u 0 17)).toNatClampNeg (a1.toUInt32 >>> ((12 : Int32).toUInt32 &&& Int32.toUInt32 31)).toInt32) 0 8) + (6 : Int32))) 0 11 1) 0 17) + (1 : Int32)))) &&& (15 : Int32)))
      else
       (mx_sf (mx_sf (mx_sa (mx_sa u 7 ((mx_gf u 0 17)).toNatClampNeg (a1.toUInt32 >>> ((12 : Int32).toUInt32 &&& Int32.toUInt32 31)).toInt32) 8 ((mx_gf (mx_sa u 7 ((mx_gf u 0 17)).toNatClampNeg (a1.toUInt32 >>> ((12 : Int32).toUInt32 &&& Int32.toUInt32 31)).toInt32) 0 17)).toNatClampNeg ((mx_gf (mx_sa u 7 ((mx_gf u 0 17)).toNatClampNeg (a1.toUInt32 >>> ((12 : Int32).toUInt32 &&& Int32.toUInt32 31)).toInt32) 0 8) + (6 : Int32))) 0 11 1) 0 17 ((mx_gf (mx_sf (mx_sa (mx_sa u 7 ((mx_gf u 0 17)).toNatClampNeg (a1.toUInt32 >>> ((12 : Int32).toUInt32 &&& Int32.toUInt32 31)).toInt32) 8 ((mx_gf (mx_sa u 7 ((mx_gf u 0 17)).toNatClampNeg (a1.toUInt32 >>> ((12 : Int32).toUInt32 &&& Int32.toUInt32 31)).toInt32) 0 17)).toNatClampNeg ((mx_gf (mx_sa u 7 ((mx_gf u 0 17)).toNatClampNeg (a1.toUInt32 >>> ((12 : Int32).toUInt32 &&& Int32.toUInt32 31)).toInt32) 0 8) + (6 : Int32))) 0 11 1) 0 17) + (1 : Int32)))
     else
      if (mm_operation a1 ) = 10 then
       if ((mm_second a1 (mx_sf (mx_sf (mx_sa (mx_sa u 7 ((mx_gf u 0 17)).toNatClampNeg (a1.toUInt32 >>> ((12 : Int32).toUInt32 &&& Int32.toUInt32 31)).toInt32) 8 ((mx_gf (mx_sa u 7 ((mx_gf u 0 17)).toNatClampNeg (a1.toUInt32 >>> ((12 : Int32).toUInt32 &&& Int32.toUInt32 31)).toInt32) 0 17)).toNatClampNeg ((mx_gf (mx_sa u 7 ((mx_gf u 0 17)).toNatClampNeg (a1.toUInt32 >>> ((12 : Int32).toUInt32 &&& Int32.toUInt32 31)).toInt32) 0 8) + (6 : Int32))) 0 11 0) 0 17 ((mx_gf (mx_sf (mx_sa (mx_sa u 7 ((mx_gf u 0 17)).toNatClampNeg (a1.toUInt32 >>> ((12 : Int32).toUInt32 &&& Int32.toUInt32 31)).toInt32) 8 ((mx_gf (mx_sa u 7 ((mx_gf u 0 17)).toNatClampNeg (a1.toUInt32 >>> ((12 : Int32).toUInt32 &&& Int32.toUInt32 31)).toInt32) 0 17)).toNatClampNeg ((mx_gf (mx_sa u 7 ((mx_gf u 0 17)).toNatClampNeg (a1.toUInt32 >>> ((12 : Int32).toUInt32 &&& Int32.toUInt32 31)).toInt32) 0 8) + (6 : Int32))) 0 11 0) 0 17) + (1 : Int32)))) &&& (15 : Int32)) ≤ (mx_gf (mx_sf (mx_sf (mx_sa (mx_sa u 7 ((mx_gf u 0 17)).toNatClampNeg (a1.toUInt32 >>> ((12 : Int32).toUInt32 &&& Int32.toUInt32 31)).toInt32) 8 ((mx_gf (mx_sa u 7 ((mx_gf u 0 17)).toNatClampNeg (a1.toUInt32 >>> ((12 : Int32).toUInt32 &&& Int32.toUInt32 31)).toInt32) 0 17)).toNatClampNeg ((mx_gf (mx_sa u 7 ((mx_gf u 0 17)).toNatClampNeg (a1.toUInt32 >>> ((12 : Int32).toUInt32 &&& Int32.toUInt32 31)).toInt32) 0 8) + (6 : Int32))) 0 11 0) 0 17 ((mx_gf (mx_sf (mx_sa (mx_sa u 7 ((mx_gf u 0 17)).toNatClampNeg (a1.toUInt32 >>> ((12 : Int32).toUInt32 &&& Int32.toUInt32 31)).toInt32) 8 ((mx_gf (mx_sa u 7 ((mx_gf u 0 17)).toNatClampNeg (a1.toUInt32 >>> ((12 : Int32).toUInt32 &&& Int32.toUInt32 31)).toInt32) 0 17)).toNatClampNeg ((mx_gf (mx_sa u 7 ((mx_gf u 0 17)).toNatClampNeg (a1.toUInt32 >>> ((12 : Int32).toUInt32 &&& Int32.toUInt32 31)).toInt32) 0 8) + (6 : Int32))) 0 11 0) 0 17) + (1 : Int32))) 0 9) then
        (mx_sf (mx_sf (mx_sf (mx_sa (mx_sa u 7 ((mx_gf u 0 17)).toNatClampNeg (a1.toUInt32 >>> ((12 : Int32).toUInt32 &&& Int32.toUInt32 31)).toInt32) 8 ((mx_gf (mx_sa u 7 ((mx_gf u 0 17)).toNatClampNeg (a1.toUInt32 >>> ((12 : Int32).toUInt32 &&& Int32.toUInt32 31)).toInt32) 0 17)).toNatClampNeg ((mx_gf (mx_sa u 7 ((mx_gf u 0 17)).toNatClampNeg (a1.toUInt32 >>> ((12 : Int32).toUInt32 &&& Int32.toUInt32 31)).toInt32) 0 8) + (6 : Int32))) 0 11 0) 0 17 ((mx_gf (mx_sf (mx_sa (mx_sa u 7 ((mx_gf u 0 17)).toNatClampNeg (a1.toUInt32 >>> ((12 : Int32).toUInt32 &&& Int32.toUInt32 31)).toInt32) 8 ((mx_gf (mx_sa u 7 ((mx_gf u 0 17)).toNatClampNeg (a1.toUInt32 >>> ((12 : Int32).toUInt32 &&& Int32.toUInt32 31)).toInt32) 0 17)).toNatClampNeg ((mx_gf (mx_sa u 7 ((mx_gf u 0 17)).toNatClampNeg (a1.toUInt32 >>> ((12 : Int32).toUInt32 &&& Int32.toUInt32 31)).toInt32) 0 8) + (6 : Int32))) 0 11 0) 0 17) + (1 : Int32))) 0 9 (mx_gf (mx_sf (mx_sf (mx_sa (mx_sa u 7 ((mx_gf u 0 17)).toNatClampNeg (a1.toUInt32 >>> ((12 : Int32).toUInt32 &&& Int32.toUInt32 31)).toInt32) 8 ((mx_gf (mx_sa u 7 ((mx_gf u 0 17)).toNatClampNeg (a1.toUInt32 >>> ((12 : Int32).toUInt32 &&& Int32.toUInt32 31)).toInt32) 0 17)).toNatClampNeg ((mx_gf (mx_sa u 7 ((mx_gf u 0 17)).toNatClampNeg (a1.toUInt32 >>> ((12 : Int32).toUInt32 &&& Int32.toUInt32 31)).toInt32) 0 8) + (6 : Int32))) 0 11 0) 0 17 ((mx_gf (mx_sf (mx_sa (mx_sa u 7 ((mx_gf u 0 17)).toNatClampNeg (a1.toUInt32 >>> ((12 : Int32).toUInt32 &&& Int32.toUInt32 31)).toInt32) 8 ((mx_gf (mx_sa u 7 ((mx_gf u 0 17)).toNatClampNeg (a1.toUInt32 >>> ((12 : Int32).toUInt32 &&& Int32.toUInt32 31)).toInt32) 0 17)).toNatClampNeg ((mx_gf (mx_sa u 7 ((mx_gf u 0 17)).toNatClampNeg (a1.toUInt32 >>> ((12 : Int32).toUInt32 &&& Int32.toUInt32 31)).toInt32) 0 8) + (6 : Int32))) 0 11 0) 0 17) + (1 : Int32))) 0 9))
       else
        (mx_sf (mx_sf (mx_sf (mx_sa (mx_sa u 7 ((mx_gf u 0 17)).toNatClampNeg (a1.toUInt32 >>> ((12 : Int32).toUInt32 &&& Int32.toUInt32 31)).toInt32) 8 ((mx_gf (mx_sa u 7 ((mx_gf u 0 17)).toNatClampNeg (a1.toUInt32 >>> ((12 : Int32).toUInt32 &&& Int32.toUInt32 31)).toInt32) 0 17)).toNatClampNeg ((mx_gf (mx_sa u 7 ((mx_gf u 0 17)).toNatClampNeg (a1.toUInt32 >>> ((12 : Int32).toUInt32 &&& Int32.toUInt32 31)).toInt32) 0 8) + (6 : Int32))) 0 11 0) 0 17 ((mx_gf (mx_sf (mx_sa (mx_sa u 7 ((mx_gf u 0 17)).toNatClampNeg (a1.toUInt32 >>> ((12 : Int32).toUInt32 &&& Int32.toUInt32 31)).toInt32) 8 ((mx_gf (mx_sa u 7 ((mx_gf u 0 17)).toNatClampNeg (a1.toUInt32 >>> ((12 : Int32).toUInt32 &&& Int32.toUInt32 31)).toInt32) 0 17)).toNatClampNeg ((mx_gf (mx_sa u 7 ((mx_gf u 0 17)).toNatClampNeg (a1.toUInt32 >>> ((12 : Int32).toUInt32 &&& Int32.toUInt32 31)).toInt32) 0 8) + (6 : Int32))) 0 11 0) 0 17) + (1 : Int32))) 0 9 ((mm_second a1 (mx_sf (mx_sf (mx_sa (mx_sa u 7 ((mx_gf u 0 17)).toNatClampNeg (a1.toUInt32 >>> ((12 : Int32).toUInt32 &&& Int32.toUInt32 31)).toInt32) 8 ((mx_gf (mx_sa u 7 ((mx_gf u 0 17)).toNatClampNeg (a1.toUInt32 >>> ((12 : Int32).toUInt32 &&& Int32.toUInt32 31)).toInt32) 0 17)).toNatClampNeg ((mx_gf (mx_sa u 7 ((mx_gf u 0 17)).toNatClampNeg (a1.toUInt32 >>> ((12 : Int32).toUInt32 &&& Int32.toUInt32 31)).toInt32) 0 8) + (6 : Int32))) 0 11 0) 0 17 ((mx_gf (mx_sf (mx_sa (mx_sa u 7 ((mx_gf u 0 17)).toNatClampNeg (a1.toUInt32 >>> ((12 : Int32).toUInt32 &&& Int32.toUInt32 31)).toInt32) 8 ((mx_gf (mx_sa u 7 ((mx_gf u 0 17)).toNatClampNeg (a1.toUInt32 >>> ((12 : Int32).toUInt32 &&& Int32.toUInt32 31)).toInt32) 0 17)).toNatClampNeg ((mx_gf (mx_sa u 7 ((mx_gf u 0 17)).toNatClampNeg (a1.toUInt32 >>> ((12 : Int32).toUInt32 &&& Int32.toUInt32 31)).toInt32) 0 8) + (6 : Int32))) 0 11 0) 0 17) + (1 : Int32)))) &&& (15 : Int32)))
      else
       (mx_sf (mx_sf (mx_sa (mx_sa u 7 ((mx_gf u 0 17)).toNatClampNeg (a1.toUInt32 >>> ((12 : Int32).toUInt32 &&& Int32.toUInt32 31)).toInt32) 8 ((mx_gf (mx_sa u 7 ((mx_gf u 0 17)).toNatClampNeg (a1.toUInt32 >>> ((12 : Int32).toUInt32 &&& Int32.toUInt32 31)).toInt32) 0 17)).toNatClampNeg ((mx_gf (mx_sa u 7 ((mx_gf u 0 17)).toNatClampNeg (a1.toUInt32 >>> ((12 : Int32).toUInt32 &&& Int32.toUInt32 31)).toInt32) 0 8) + (6 : Int32))) 0 11 0) 0 17 ((mx_gf (mx_sf (mx_sa (mx_sa u 7 ((mx_gf u 0 17)).toNatClampNeg (a1.toUInt32 >>> ((12 : Int32).toUInt32 &&& Int32.toUInt32 31)).toInt32) 8 ((mx_gf (mx_sa u 7 ((mx_gf u 0 17)).toNatClampNeg (a1.toUInt32 >>> ((12 : Int32).toUInt32 &&& Int32.toUInt32 31)).toInt32) 0 17)).toNatClampNeg ((mx_gf (mx_sa u 7 ((mx_gf u 0 17)).toNatClampNeg (a1.toUInt32 >>> ((12 : Int32).toUInt32 &&& Int32.toUInt32 31)).toInt32) 0 8) + (6 : Int32))) 0 11 0) 0 17) + (1 : Int32)))
    else
     if (mm_operation a1 ) = 10 then
      if ((mm_second a1 (mx_sf (mx_sf (mx_sa (mx_sa u 7 ((mx_gf u 0 17)).toNatClampNeg (a1.toUInt32 >>> ((12 : Int32).toUInt32 &&& Int32.toUInt32 31)).toInt32) 8 ((mx_gf (mx_sa u 7 ((mx_gf u 0 17)).toNatClampNeg (a1.toUInt32 >>> ((12 : Int32).toUInt32 &&& Int32.toUInt32 31)).toInt32) 0 17)).toNatClampNeg ((mx_gf (mx_sa u 7 ((mx_gf u 0 17)).toNatClampNeg (a1.toUInt32 >>> ((12 : Int32).toUInt32 &&& Int32.toUInt32 31)).toInt32) 0 8) + (6 : Int32))) 0 11 1) 0 17 ((mx_gf (mx_sf (mx_sa (mx_sa u 7 ((mx_gf u 0 17)).toNatClampNeg (a1.toUInt32 >>> ((12 : Int32).toUInt32 &&& Int32.toUInt32 31)).toInt32) 8 ((mx_gf (mx_sa u 7 ((mx_gf u 0 17)).toNatClampNeg (a1.toUInt32 >>> ((12 : Int32).toUInt32 &&& Int32.toUInt32 31)).toInt32) 0 17)).toNatClampNeg ((mx_gf (mx_sa u 7 ((mx_gf u 0 17)).toNatClampNeg (a1.toUInt32 >>> ((12 : Int32).toUInt32 &&& Int32.toUInt32 31)).toInt32) 0 8) + (6 : Int32))) 0 11 1) 0 17) + (1 : Int32)))) &&& (15 : Int32)) ≤ (mx_gf (mx_sf (mx_sf (mx_sa (mx_sa u 7 ((mx_gf u 0 17)).toNatClampNeg (a1.toUInt32 >>> ((12 : Int32).toUInt32 &&& Int32.toUInt32 31)).toInt32) 8 ((mx_gf (mx_sa u 7 ((mx_gf u 0 17)).toNatClampNeg (a1.toUInt32 >>> ((12 : Int32).toUInt32 &&& Int32.toUInt32 31)).toInt32) 0 17)).toNatClampNeg ((mx_gf (mx_sa u 7 ((mx_gf u 0 17)).toNatClampNeg (a1.toUInt32 >>> ((12 : Int32).toUInt32 &&& Int32.toUInt32 31)).toInt32) 0 8) + (6 : Int32))) 0 11 1) 0 17 ((mx_gf (mx_sf (mx_sa (mx_sa u 7 ((mx_gf u 0 17)).toNatClampNeg (a1.toUInt32 >>> ((12 : Int32).toUInt32 &&& Int32.toUInt32 31)).toInt32) 8 ((mx_gf (mx_sa u 7 ((mx_gf u 0 17)).toNatClampNeg (a1.toUInt32 >>> ((12 : Int32).toUInt32 &&& Int32.toUInt32 31)).toInt32) 0 17)).toNatClampNeg ((mx_gf (mx_sa u 7 ((mx_gf u 0 17)).toNatClampNeg (a1.toUInt32 >>> ((12 : Int32).toUInt32 &&& Int32.toUInt32 31)).toInt32) 0 8) + (6 : Int32))) 0 11 1) 0 17) + (1 : Int32))) 0 9) then
       (mx_sf (mx_sf (mx_sf (mx_sa (mx_sa u 7 ((mx_gf u 0 17)).toNatClampNeg (a1.toUInt32 >>> ((12 : Int32).toUInt32 &&& Int32.toUInt32 31)).toInt32) 8 ((mx_gf (mx_sa u 7 ((mx_gf u 0 17)).toNatClampNeg (a1.toUInt32 >>> ((12 : Int32).toUInt32 &&& Int32.toUInt32 31)).toInt32) 0 17)).toNatClampNeg ((mx_gf (mx_sa u 7 ((mx_gf u 0 17)).toNatClampNeg (a1.toUInt32 >>> ((12 : Int32).toUInt32 &&& Int32.toUInt32 31)).toInt32) 0 8) + (6 : Int32))) 0 11 1) 0 17 ((mx_gf (mx_sf (mx_sa (mx_sa u 7 ((mx_gf u 0 17)).toNatClampNeg (a1.toUInt32 >>> ((12 : Int32).toUInt32 &&& Int32.toUInt32 31)).toInt32) 8 ((mx_gf (mx_sa u 7 ((mx_gf u 0 17)).toNatClampNeg (a1.toUInt32 >>> ((12 : Int32).toUInt32 &&& Int32.toUInt32 31)).toInt32) 0 17)).toNatClampNeg ((mx_gf (mx_sa u 7 ((mx_gf u 0 17)).toNatClampNeg (a1.toUInt32 >>> ((12 : Int32).toUInt32 &&& Int32.toUInt32 31)).toInt32) 0 8) + (6 : Int32))) 0 11 1) 0 17) + (1 : Int32))) 0 9 (mx_gf (mx_sf (mx_sf (mx_sa (mx_sa u 7 ((mx_gf u 0 17)).toNatClampNeg (a1.toUInt32 >>> ((12 : Int32).toUInt32 &&& Int32.toUInt32 31)).toInt32) 8 ((mx_gf (mx_sa u 7 ((mx_gf u 0 17)).toNatClampNeg (a1.toUInt32 >>> ((12 : Int32).toUInt32 &&& Int32.toUInt32 31)).toInt32) 0 17)).toNatClampNeg ((mx_gf (mx_sa u 7 ((mx_gf u 0 17)).toNatClampNeg (a1.toUInt32 >>> ((12 : Int32).toUInt32 &&& Int32.toUInt32 31)).toInt32) 0 8) + (6 : Int32))) 0 11 1) 0 17 ((mx_gf (mx_sf (mx_sa (mx_sa u 7 ((mx_gf u 0 17)).toNatClampNeg (a1.toUInt32 >>> ((12 : Int32).toUInt32 &&& Int32.toUInt32 31)).toInt32) 8 ((mx_gf (mx_sa u 7 ((mx_gf u 0 17)).toNatClampNeg (a1.toUInt32 >>> ((12 : Int32).toUInt32 &&& Int32.toUInt32 31)).toInt32) 0 17)).toNatClampNeg ((mx_gf (mx_sa u 7 ((mx_gf u 0 17)).toNatClampNeg (a1.toUInt32 >>> ((12 : Int32).toUInt32 &&& Int32.toUInt32 31)).toInt32) 0 8) + (6 : Int32))) 0 11 1) 0 17) + (1 : Int32))) 0 9))
      else
       (mx_sf (mx_sf (mx_sf (mx_sa (mx_sa u 7 ((mx_gf u 0 17)).toNatClampNeg (a1.toUInt32 >>> ((12 : Int32).toUInt32 &&& Int32.toUInt32 31)).toInt32) 8 ((mx_gf (mx_sa u 7 ((mx_gf u 0 17)).toNatClampNeg (a1.toUInt32 >>> ((12 : Int32).toUInt32 &&& Int32.toUInt32 31)).toInt32) 0 17)).toNatClampNeg ((mx_gf (mx_sa u 7 ((mx_gf u 0 17)).toNatClampNeg (a1.toUInt32 >>> ((12 : Int32).toUInt32 &&& Int32.toUInt32 31)).toInt32) 0 8) + (6 : Int32))) 0 11 1) 0 17 ((mx_gf (mx_sf (mx_sa (mx_sa u 7 ((mx_gf u 0 17)).toNatClampNeg (a1.toUInt32 >>> ((12 : Int32).toUInt32 &&& Int32.toUInt32 31)).toInt32) 8 ((mx_gf (mx_sa u 7 ((mx_gf u 0 17)).toNatClampNeg (a1.toUInt32 >>> ((12 : Int32).toUInt32 &&& Int32.toUInt32 31)).toInt32) 0 17)).toNatClampNeg ((mx_gf (mx_sa u 7 ((mx_gf u 0 17)).toNatClampNeg (a1.toUInt32 >>> ((12 : Int32).toUInt32 &&& Int32.toUInt32 31)).toInt32) 0 8) + (6 : Int32))) 0 11 1) 0 17) + (1 : Int32))) 0 9 ((mm_second a1 (mx_sf (mx_sf (mx_sa (mx_sa u 7 ((mx_gf u 0 17)).toNatClampNeg (a1.toUInt32 >>> ((12 : Int32).toUInt32 &&& Int32.toUInt32 31)).toInt32) 8 ((mx_gf (mx_sa u 7 ((mx_gf u 0 17)).toNatClampNeg (a1.toUInt32 >>> ((12 : Int32).toUInt32 &&& Int32.toUInt32 31)).toInt32) 0 17)).toNatClampNeg ((mx_gf (mx_sa u 7 ((mx_gf u 0 17)).toNatClampNeg (a1.toUInt32 >>> ((12 : Int32).toUInt32 &&& Int32.toUInt32 31)).toInt32) 0 8) + (6 : Int32))) 0 11 1) 0 17 ((mx_gf (mx_sf (mx_sa (mx_sa u 7 ((mx_gf u 0 17)).toNatClampNeg (a1.toUInt32 >>> ((12 : Int32).toUInt32 &&& Int32.toUInt32 31)).toInt32) 8 ((mx_gf (mx_sa u 7 ((mx_gf u 0 17)).toNatClampNeg (a1.toUInt32 >>> ((12 : Int32).toUInt32 &&& Int32.toUInt32 31)).toInt32) 0 17)).toNatClampNeg ((mx_gf (mx_sa u 7 ((mx_gf u 0 17)).toNatClampNeg (a1.toUInt32 >>> ((12 : Int32).toUInt32 &&& Int32.toUInt32 31)).toInt32) 0 8) + (6 : Int32))) 0 11 1) 0 17) + (1 : Int32)))) &&& (15 : Int32)))
     else
      (mx_sf (mx_sf (mx_sa (mx_sa u 7 ((mx_gf u 0 17)).toNatClampNeg (a1.toUInt32 >>> ((12 : Int32).toUInt32 &&& Int32.toUInt32 31)).toInt32) 8 ((mx_gf (mx_sa u 7 ((mx_gf u 0 17)).toNatClampNeg (a1.toUInt32 >>> ((12 : Int32).toUInt32 &&& Int32.toUInt32 31)).toInt32) 0 17)).toNatClampNeg ((mx_gf (mx_sa u 7 ((mx_gf u 0 17)).toNatClampNeg (a1.toUInt32 >>> ((12 : Int32).toUInt32 &&& Int32.toUInt32 31)).toInt32) 0 8) + (6 : Int32))) 0 11 1) 0 17 ((mx_gf (mx_sf (mx_sa (mx_sa u 7 ((mx_gf u 0 17)).toNatClampNeg (a1.toUInt32 >>> ((12 : Int32).toUInt32 &&& Int32.toUInt32 31)).toInt32) 8 ((mx_gf (mx_sa u 7 ((mx_gf u 0 17)).toNatClampNeg (a1.toUInt32 >>> ((12 : Int32).toUInt32 &&& Int32.toUInt32 31)).toInt32) 0 17)).toNatClampNeg ((mx_gf (mx_sa u 7 ((mx_gf u 0 17)).toNatClampNeg (a1.toUInt32 >>> ((12 : Int32).toUInt32 &&& Int32.toUInt32 31)).toInt32) 0 8) + (6 : Int32))) 0 11 1) 0 17) + (1 : Int32)))
   else
    if (mm_operation a1 ) = 8 then
     if (mx_gf (mx_sa (mx_sa u 7 ((mx_gf u 0 17)).toNatClampNeg (mm_second a1 u)) 8 ((mx_gf (mx_sa u 7 ((mx_gf u 0 17)).toNatClampNeg (mm_second a1 u)) 0 17)).toNatClampNeg ((mx_gf (mx_sa u 7 ((mx_gf u 0 17)).toNatClampNeg (mm_second a1 u)) 0 8) + (6 : Int32))) 0 11) = 0 then
      if (mm_operation a1 ) = 9 then
       if (mm_operation a1 ) = 10 then
        if ((mm_second a1 (mx_sf (mx_sf (mx_sa (mx_sa u 7 ((mx_gf u 0 17)).toNatClampNeg (mm_second a1 u)) 8 ((mx_gf (mx_sa u 7 ((mx_gf u 0 17)).toNatClampNeg (mm_second a1 u)) 0 17)).toNatClampNeg ((mx_gf (mx_sa u 7 ((mx_gf u 0 17)).toNatClampNeg (mm_second a1 u)) 0 8) + (6 : Int32))) 0 11 1) 0 17 ((mx_gf (mx_sf (mx_sa (mx_sa u 7 ((mx_gf u 0 17)).toNatClampNeg (mm_second a1 u)) 8 ((mx_gf (mx_sa u 7 ((mx_gf u 0 17)).toNatClampNeg (mm_second a1 u)) 0 17)).toNatClampNeg ((mx_gf (mx_sa u 7 ((mx_gf u 0 17)).toNatClampNeg (mm_second a1 u)) 0 8) + (6 : Int32))) 0 11 1) 0 17) + (1 : Int32)))) &&& (15 : Int32)) ≤ (mx_gf (mx_sf (mx_sf (mx_sa (mx_sa u 7 ((mx_gf u 0 17)).toNatClampNeg (mm_second a1 u)) 8 ((mx_gf (mx_sa u 7 ((mx_gf u 0 17)).toNatClampNeg (mm_second a1 u)) 0 17)).toNatClampNeg ((mx_gf (mx_sa u 7 ((mx_gf u 0 17)).toNatClampNeg (mm_second a1 u)) 0 8) + (6 : Int32))) 0 11 1) 0 17 ((mx_gf (mx_sf (mx_sa (mx_sa u 7 ((mx_gf u 0 17)).toNatClampNeg (mm_second a1 u)) 8 ((mx_gf (mx_sa u 7 ((mx_gf u 0 17)).toNatClampNeg (mm_second a1 u)) 0 17)).toNatClampNeg ((mx_gf (mx_sa u 7 ((mx_gf u 0 17)).toNatClampNeg (mm_second a1 u)) 0 8) + (6 : Int32))) 0 11 1) 0 17) + (1 : Int32))) 0 9) then
         (mx_sf (mx_sf (mx_sf (mx_sa (mx_sa u 7 ((mx_gf u 0 17)).toNatClampNeg (mm_second a1 u)) 8 ((mx_gf (mx_sa u 7 ((mx_gf u 0 17)).toNatClampNeg (mm_second a1 u)) 0 17)).toNatClampNeg ((mx_gf (mx_sa u 7 ((mx_gf u 0 17)).toNatClampNeg (mm_second a1 u)) 0 8) + (6 : Int32))) 0 11 1) 0 17 ((mx_gf (mx_sf (mx_sa (mx_sa u 7 ((mx_gf u 0 17)).toNatClampNeg (mm_second a1 u)) 8 ((mx_gf (mx_sa u 7 ((mx_gf u 0 17)).toNatClampNeg (mm_second a1 u)) 0 17)).toNatClampNeg ((mx_gf (mx_sa u 7 ((mx_gf u 0 17)).toNatClampNeg (mm_second a1 u)) 0 8) + (6 : Int32))) 0 11 1) 0 17) + (1 : Int32))) 0 9 (mx_gf (mx_sf (mx_sf (mx_sa (mx_sa u 7 ((mx_gf u 0 17)).toNatClampNeg (mm_second a1 u)) 8 ((mx_gf (mx_sa u 7 ((mx_gf u 0 17)).toNatClampNeg (mm_second a1 u)) 0 17)).toNatClampNeg ((mx_gf (mx_sa u 7 ((mx_gf u 0 17)).toNatClampNeg (mm_second a1 u)) 0 8) + (6 : Int32))) 0 11 1) 0 17 ((mx_gf (mx_sf (mx_sa (mx_sa u 7 ((mx_gf u 0 17)).toNatClampNeg (mm_second a1 u)) 8 ((mx_gf (mx_sa u 7 ((mx_gf u 0 17)).toNatClampNeg (mm_second a1 u)) 0 17)).toNatClampNeg ((mx_gf (mx_sa u 7 ((mx_gf u 0 17)).toNatClampNeg (mm_second a1 u)) 0 8) + (6 : Int32))) 0 11 1) 0 17) + (1 : Int32))) 0 9))
        else
         (mx_sf (mx_sf (mx_sf (mx_sa (mx_sa u 7 ((mx_gf u 0 17)).toNatClampNeg (mm_second a1 u)) 8 ((mx_gf (mx_sa u 7 ((mx_gf u 0 17)).toNatClampNeg (mm_second a1 u)) 0 17)).toNatClampNeg ((mx_gf (mx_sa u 7 ((mx_gf u 0 17)).toNatClampNeg (mm_second a1 u)) 0 8) + (6 : Int32))) 0 11 1) 0 17 ((mx_gf (mx_sf (mx_sa (mx_sa u 7 ((mx_gf u 0 17)).toNatClampNeg (mm_second a1 u)) 8 ((mx_gf (mx_sa u 7 ((mx_gf u 0 17)).toNatClampNeg (mm_second a1 u)) 0 17)).toNatClampNeg ((mx_gf (mx_sa u 7 ((mx_gf u 0 17)).toNatClampNeg (mm_second a1 u)) 0 8) + (6 : Int32))) 0 11 1) 0 17) + (1 : Int32))) 0 9 ((mm_second a1 (mx_sf (mx_sf (mx_sa (mx_sa u 7 ((mx_gf u 0 17)).toNatClampNeg (mm_second a1 u)) 8 ((mx_gf (mx_sa u 7 ((mx_gf u 0 17)).toNatClampNeg (mm_second a1 u)) 0 17)).toNatClampNeg ((mx_gf (mx_sa u 7 ((mx_gf u 0 17)).toNatClampNeg (mm_second a1 u)) 0 8) + (6 : Int32))) 0 11 1) 0 17 ((mx_gf (mx_sf (mx_sa (mx_sa u 7 ((mx_gf u 0 17)).toNatClampNeg (mm_second a1 u)) 8 ((mx_gf (mx_sa u 7 ((mx_gf u 0 17)).toNatClampNeg (mm_second a1 u)) 0 17)).toNatClampNeg ((mx_gf (mx_sa u 7 ((mx_gf u 0 17)).toNatClampNeg (mm_second a1 u)) 0 8) + (6 : Int32))) 0 11 1) 0 17) + (1 : Int32)))) &&& (15 : Int32)))
       else
        (mx_sf (mx_sf (mx_sa (mx_sa u 7 ((mx_gf u 0 17)).toNatClampNeg (mm_second a1 u)) 8 ((mx_gf (mx_sa u 7 ((mx_gf u 0 17)).toNatClampNeg (mm_second a1 u)) 0 17)).toNatClampNeg ((mx_gf (mx_sa u 7 ((mx_gf u 0 17)).toNatClampNeg (mm_second a1 u)) 0 8) + (6 : Int32))) 0 11 1) 0 17 ((mx_gf (mx_sf (mx_sa (mx_sa u 7 ((mx_gf u 0 17)).toNatClampNeg (mm_second a1 u)) 8 ((mx_gf (mx_sa u 7 ((mx_gf u 0 17)).toNatClampNeg (mm_second a1 u)) 0 17)).toNatClampNeg ((mx_gf (mx_sa u 7 ((mx_gf u 0 17)).toNatClampNeg (mm_second a1 u)) 0 8) + (6 : Int32))) 0 11 1) 0 17) + (1 : Int32)))
      else
       if (mm_operation a1 ) = 10 then
        if ((mm_second a1 (mx_sf (mx_sf (mx_sa (mx_sa u 7 ((mx_gf u 0 17)).toNatClampNeg (mm_second a1 u)) 8 ((mx_gf (mx_sa u 7 ((mx_gf u 0 17)).toNatClampNeg (mm_second a1 u)) 0 17)).toNatClampNeg ((mx_gf (mx_sa u 7 ((mx_gf u 0 17)).toNatClampNeg (mm_second a1 u)) 0 8) + (6 : Int32))) 0 11 0) 0 17 ((mx_gf (mx_sf (mx_sa (mx_sa u 7 ((mx_gf u 0 17)).toNatClampNeg (mm_second a1 u)) 8 ((mx_gf (mx_sa u 7 ((mx_gf u 0 17)).toNatClampNeg (mm_second a1 u)) 0 17)).toNatClampNeg ((mx_gf (mx_sa u 7 ((mx_gf u 0 17)).toNatClampNeg (mm_second a1 u)) 0 8) + (6 : Int32))) 0 11 0) 0 17) + (1 : Int32)))) &&& (15 : Int32)) ≤ (mx_gf (mx_sf (mx_sf (mx_sa (mx_sa u 7 ((mx_gf u 0 17)).toNatClampNeg (mm_second a1 u)) 8 ((mx_gf (mx_sa u 7 ((mx_gf u 0 17)).toNatClampNeg (mm_second a1 u)) 0 17)).toNatClampNeg ((mx_gf (mx_sa u 7 ((mx_gf u 0 17)).toNatClampNeg (mm_second a1 u)) 0 8) + (6 : Int32))) 0 11 0) 0 17 ((mx_gf (mx_sf (mx_sa (mx_sa u 7 ((mx_gf u 0 17)).toNatClampNeg (mm_second a1 u)) 8 ((mx_gf (mx_sa u 7 ((mx_gf u 0 17)).toNatClampNeg (mm_second a1 u)) 0 17)).toNatClampNeg ((mx_gf (mx_sa u 7 ((mx_gf u 0 17)).toNatClampNeg (mm_second a1 u)) 0 8) + (6 : Int32))) 0 11 0) 0 17) + (1 : Int32))) 0 9) then
         (mx_sf (mx_sf (mx_sf (mx_sa (mx_sa u 7 ((mx_gf u 0 17)).toNatClampNeg (mm_second a1 u)) 8 ((mx_gf (mx_sa u 7 ((mx_gf u 0 17)).toNatClampNeg (mm_second a1 u)) 0 17)).toNatClampNeg ((mx_gf (mx_sa u 7 ((mx_gf u 0 17)).toNatClampNeg (mm_second a1 u)) 0 8) + (6 : Int32))) 0 11 0) 0 17 ((mx_gf (mx_sf (mx_sa (mx_sa u 7 ((mx_gf u 0 17)).toNatClampNeg (mm_second a1 u)) 8 ((mx_gf (mx_sa u 7 ((mx_gf u 0 17)).toNatClampNeg (mm_second a1 u)) 0 17)).toNatClampNeg ((mx_gf (mx_sa u 7 ((mx_gf u 0 17)).toNatClampNeg (mm_second a1 u)) 0 8) + (6 : Int32))) 0 11 0) 0 17) + (1 : Int32))) 0 9 (mx_gf (mx_sf (mx_sf (mx_sa (mx_sa u 7 ((mx_gf u 0 17)).toNatClampNeg (mm_second a1 u)) 8 ((mx_gf (mx_sa u 7 ((mx_gf u 0 17)).toNatClampNeg (mm_second a1 u)) 0 17)).toNatClampNeg ((mx_gf (mx_sa u 7 ((mx_gf u 0 17)).toNatClampNeg (mm_second a1 u)) 0 8) + (6 : Int32))) 0 11 0) 0 17 ((mx_gf (mx_sf (mx_sa (mx_sa u 7 ((mx_gf u 0 17)).toNatClampNeg (mm_second a1 u)) 8 ((mx_gf (mx_sa u 7 ((mx_gf u 0 17)).toNatClampNeg (mm_second a1 u)) 0 17)).toNatClampNeg ((mx_gf (mx_sa u 7 ((mx_gf u 0 17)).toNatClampNeg (mm_second a1 u)) 0 8) + (6 : Int32))) 0 11 0) 0 17) + (1 : Int32))) 0 9))
        else
         (mx_sf (mx_sf (mx_sf (mx_sa (mx_sa u 7 ((mx_gf u 0 17)).toNatClampNeg (mm_second a1 u)) 8 ((mx_gf (mx_sa u 7 ((mx_gf u 0 17)).toNatClampNeg (mm_second a1 u)) 0 17)).toNatClampNeg ((mx_gf (mx_sa u 7 ((mx_gf u 0 17)).toNatClampNeg (mm_second a1 u)) 0 8) + (6 : Int32))) 0 11 0) 0 17 ((mx_gf (mx_sf (mx_sa (mx_sa u 7 ((mx_gf u 0 17)).toNatClampNeg (mm_second a1 u)) 8 ((mx_gf (mx_sa u 7 ((mx_gf u 0 17)).toNatClampNeg (mm_second a1 u)) 0 17)).toNatClampNeg ((mx_gf (mx_sa u 7 ((mx_gf u 0 17)).toNatClampNeg (mm_second a1 u)) 0 8) + (6 : Int32))) 0 11 0) 0 17) + (1 : Int32))) 0 9 ((mm_second a1 (mx_sf (mx_sf (mx_sa (mx_sa u 7 ((mx_gf u 0 17)).toNatClampNeg (mm_second a1 u)) 8 ((mx_gf (mx_sa u 7 ((mx_gf u 0 17)).toNatClampNeg (mm_second a1 u)) 0 17)).toNatClampNeg ((mx_gf (mx_sa u 7 ((mx_gf u 0 17)).toNatClampNeg (mm_second a1 u)) 0 8) + (6 : Int32))) 0 11 0) 0 17 ((mx_gf (mx_sf (mx_sa (mx_sa u 7 ((mx_gf u 0 17)).toNatClampNeg (mm_second a1 u)) 8 ((mx_gf (mx_sa u 7 ((mx_gf u 0 17)).toNatClampNeg (mm_second a1 u)) 0 17)).toNatClampNeg ((mx_gf (mx_sa u 7 ((mx_gf u 0 17)).toNatClampNeg (mm_second a1 u)) 0 8) + (6 : Int32))) 0 11 0) 0 17) + (1 : Int32)))) &&& (15 : Int32)))
       else
        (mx_sf (mx_sf (mx_sa (mx_sa u 7 ((mx_gf u 0 17)).toNatClampNeg (mm_second a1 u)) 8 ((mx_gf (mx_sa u 7 ((mx_gf u 0 17)).toNatClampNeg (mm_second a1 u)) 0 17)).toNatClampNeg ((mx_gf (mx_sa u 7 ((mx_gf u 0 17)).toNatClampNeg (mm_second a1 u)) 0 8) + (6 : Int32))) 0 11 0) 0 17 ((mx_gf (mx_sf (mx_sa (mx_sa u 7 ((mx_gf u 0 17)).toNatClampNeg (mm_second a1 u)) 8 ((mx_gf (mx_sa u 7 ((mx_gf u 0 17)).toNatClampNeg (mm_second a1 u)) 0 17)).toNatClampNeg ((mx_gf (mx_sa u 7 ((mx_gf u 0 17)).toNatClampNeg (mm_second a1 u)) 0 8) + (6 : Int32))) 0 11 0) 0 17) + (1 : Int32)))
     else
      if (mm_operation a1 ) = 10 then
       if ((mm_second a1 (mx_sf (mx_sf (mx_sa (mx_sa u 7 ((mx_gf u 0 17)).toNatClampNeg (mm_second a1 u)) 8 ((mx_gf (mx_sa u 7 ((mx_gf u 0 17)).toNatClampNeg (mm_second a1 u)) 0 17)).toNatClampNeg ((mx_gf (mx_sa u 7 ((mx_gf u 0 17)).toNatClampNeg (mm_second a1 u)) 0 8) + (6 : Int32))) 0 11 1) 0 17 ((mx_gf (mx_sf (mx_sa (mx_sa u 7 ((mx_gf u 0 17)).toNatClampNeg (mm_second a1 u)) 8 ((mx_gf (mx_sa u 7 ((mx_gf u 0 17)).toNatClampNeg (mm_second a1 u)) 0 17)).toNatClampNeg ((mx_gf (mx_sa u 7 ((mx_gf u 0 17)).toNatClampNeg (mm_second a1 u)) 0 8) + (6 : Int32))) 0 11 1) 0 17) + (1 : Int32)))) &&& (15 : Int32)) ≤ (mx_gf (mx_sf (mx_sf (mx_sa (mx_sa u 7 ((mx_gf u 0 17)).toNatClampNeg (mm_second a1 u)) 8 ((mx_gf (mx_sa u 7 ((mx_gf u 0 17)).toNatClampNeg (mm_second a1 u)) 0 17)).toNatClampNeg ((mx_gf (mx_sa u 7 ((mx_gf u 0 17)).toNatClampNeg (mm_second a1 u)) 0 8) + (6 : Int32))) 0 11 1) 0 17 ((mx_gf (mx_sf (mx_sa (mx_sa u 7 ((mx_gf u 0 17)).toNatClampNeg (mm_second a1 u)) 8 ((mx_gf (mx_sa u 7 ((mx_gf u 0 17)).toNatClampNeg (mm_second a1 u)) 0 17)).toNatClampNeg ((mx_gf (mx_sa u 7 ((mx_gf u 0 17)).toNatClampNeg (mm_second a1 u)) 0 8) + (6 : Int32))) 0 11 1) 0 17) + (1 : Int32))) 0 9) then
        (mx_sf (mx_sf (mx_sf (mx_sa (mx_sa u 7 ((mx_gf u 0 17)).toNatClampNeg (mm_second a1 u)) 8 ((mx_gf (mx_sa u 7 ((mx_gf u 0 17)).toNatClampNeg (mm_second a1 u)) 0 17)).toNatClampNeg ((mx_gf (mx_sa u 7 ((mx_gf u 0 17)).toNatClampNeg (mm_second a1 u)) 0 8) + (6 : Int32))) 0 11 1) 0 17 ((mx_gf (mx_sf (mx_sa (mx_sa u 7 ((mx_gf u 0 17)).toNatClampNeg (mm_second a1 u)) 8 ((mx_gf (mx_sa u 7 ((mx_gf u 0 17)).toNatClampNeg (mm_second a1 u)) 0 17)).toNatClampNeg ((mx_gf (mx_sa u 7 ((mx_gf u 0 17)).toNatClampNeg (mm_second a1 u)) 0 8) + (6 : Int32))) 0 11 1) 0 17) + (1 : Int32))) 0 9 (mx_gf (mx_sf (mx_sf (mx_sa (mx_sa u 7 ((mx_gf u 0 17)).toNatClampNeg (mm_second a1 u)) 8 ((mx_gf (mx_sa u 7 ((mx_gf u 0 17)).toNatClampNeg (mm_second a1 u)) 0 17)).toNatClampNeg ((mx_gf (mx_sa u 7 ((mx_gf u 0 17)).toNatClampNeg (mm_second a1 u)) 0 8) + (6 : Int32))) 0 11 1) 0 17 ((mx_gf (mx_sf (mx_sa (mx_sa u 7 ((mx_gf u 0 17)).toNatClampNeg (mm_second a1 u)) 8 ((mx_gf (mx_sa u 7 ((mx_gf u 0 17)).toNatClampNeg (mm_second a1 u)) 0 17)).toNatClampNeg ((mx_gf (mx_sa u 7 ((mx_gf u 0 17)).toNatClampNeg (mm_second a1 u)) 0 8) + (6 : Int32))) 0 11 1) 0 17) + (1 : Int32))) 0 9))
       else
        (mx_sf (mx_sf (mx_sf (mx_sa (mx_sa u 7 ((mx_gf u 0 17)).toNatClampNeg (mm_second a1 u)) 8 ((mx_gf (mx_sa u 7 ((mx_gf u 0 17)).toNatClampNeg (mm_second a1 u)) 0 17)).toNatClampNeg ((mx_gf (mx_sa u 7 ((mx_gf u 0 17)).toNatClampNeg (mm_second a1 u)) 0 8) + (6 : Int32))) 0 11 1) 0 17 ((mx_gf (mx_sf (mx_sa (mx_sa u 7 ((mx_gf u 0 17)).toNatClampNeg (mm_second a1 u)) 8 ((mx_gf (mx_sa u 7 ((mx_gf u 0 17)).toNatClampNeg (mm_second a1 u)) 0 17)).toNatClampNeg ((mx_gf (mx_sa u 7 ((mx_gf u 0 17)).toNatClampNeg (mm_second a1 u)) 0 8) + (6 : Int32))) 0 11 1) 0 17) + (1 : Int32))) 0 9 ((mm_second a1 (mx_sf (mx_sf (mx_sa (mx_sa u 7 ((mx_gf u 0 17)).toNatClampNeg (mm_second a1 u)) 8 ((mx_gf (mx_sa u 7 ((mx_gf u 0 17)).toNatClampNeg (mm_second a1 u)) 0 17)).toNatClampNeg ((mx_gf (mx_sa u 7 ((mx_gf u 0 17)).toNatClampNeg (mm_second a1 u)) 0 8) + (6 : Int32))) 0 11 1) 0 17 ((mx_gf (mx_sf (mx_sa (mx_sa u 7 ((mx_gf u 0 17)).toNatClampNeg (mm_second a1 u)) 8 ((mx_gf (mx_sa u 7 ((mx_gf u 0 17)).toNatClampNeg (mm_second a1 u)) 0 17)).toNatClampNeg ((mx_gf (mx_sa u 7 ((mx_gf u 0 17)).toNatClampNeg (mm_second a1 u)) 0 8) + (6 : Int32))) 0 11 1) 0 17) + (1 : Int32)))) &&& (15 : Int32)))
      else
       (mx_sf (mx_sf (mx_sa (mx_sa u 7 ((mx_gf u 0 17)).toNatClampNeg (mm_second a1 u)) 8 ((mx_gf (mx_sa u 7 ((mx_gf u 0 17)).toNatClampNeg (mm_second a1 u)) 0 17)).toNatClampNeg ((mx_gf (mx_sa u 7 ((mx_gf u 0 17)).toNatClampNeg (mm_second a1 u)) 0 8) + (6 : Int32))) 0 11 1) 0 17 ((mx_gf (mx_sf (mx_sa (mx_sa u 7 ((mx_gf u 0 17)).toNatClampNeg (mm_second a1 u)) 8 ((mx_gf (mx_sa u 7 ((mx_gf u 0 17)).toNatClampNeg (mm_second a1 u)) 0 17)).toNatClampNeg ((mx_gf (mx_sa u 7 ((mx_gf u 0 17)).toNatClampNeg (mm_second a1 u)) 0 8) + (6 : Int32))) 0 11 1) 0 17) + (1 : Int32)))
    else
     if (mx_gf (mx_sa (mx_sa u 7 ((mx_gf u 0 17)).toNatClampNeg (mx_gf u 0 10)) 8 ((mx_gf (mx_sa u 7 ((mx_gf u 0 17)).toNatClampNeg (mx_gf u 0 10)) 0 17)).toNatClampNeg ((mx_gf (mx_sa u 7 ((mx_gf u 0 17)).toNatClampNeg (mx_gf u 0 10)) 0 8) + (6 : Int32))) 0 11) = 0 then
      if (mm_operation a1 ) = 9 then
       if (mm_operation a1 ) = 10 then
        if ((mm_second a1 (mx_sf (mx_sf (mx_sa (mx_sa u 7 ((mx_gf u 0 17)).toNatClampNeg (mx_gf u 0 10)) 8 ((mx_gf (mx_sa u 7 ((mx_gf u 0 17)).toNatClampNeg (mx_gf u 0 10)) 0 17)).toNatClampNeg ((mx_gf (mx_sa u 7 ((mx_gf u 0 17)).toNatClampNeg (mx_gf u 0 10)) 0 8) + (6 : Int32))) 0 11 1) 0 17 ((mx_gf (mx_sf (mx_sa (mx_sa u 7 ((mx_gf u 0 17)).toNatClampNeg (mx_gf u 0 10)) 8 ((mx_gf (mx_sa u 7 ((mx_gf u 0 17)).toNatClampNeg (mx_gf u 0 10)) 0 17)).toNatClampNeg ((mx_gf (mx_sa u 7 ((mx_gf u 0 17)).toNatClampNeg (mx_gf u 0 10)) 0 8) + (6 : Int32))) 0 11 1) 0 17) + (1 : Int32)))) &&& (15 : Int32)) ≤ (mx_gf (mx_sf (mx_sf (mx_sa (mx_sa u 7 ((mx_gf u 0 17)).toNatClampNeg (mx_gf u 0 10)) 8 ((mx_gf (mx_sa u 7 ((mx_gf u 0 17)).toNatClampNeg (mx_gf u 0 10)) 0 17)).toNatClampNeg ((mx_gf (mx_sa u 7 ((mx_gf u 0 17)).toNatClampNeg (mx_gf u 0 10)) 0 8) + (6 : Int32))) 0 11 1) 0 17 ((mx_gf (mx_sf (mx_sa (mx_sa u 7 ((mx_gf u 0 17)).toNatClampNeg (mx_gf u 0 10)) 8 ((mx_gf (mx_sa u 7 ((mx_gf u 0 17)).toNatClampNeg (mx_gf u 0 10)) 0 17)).toNatClampNeg ((mx_gf (mx_sa u 7 ((mx_gf u 0 17)).toNatClampNeg (mx_gf u 0 10)) 0 8) + (6 : Int32))) 0 11 1) 0 17) + (1 : Int32))) 0 9) then
         (mx_sf (mx_sf (mx_sf (mx_sa (mx_sa u 7 ((mx_gf u 0 17)).toNatClampNeg (mx_gf u 0 10)) 8 ((mx_gf (mx_sa u 7 ((mx_gf u 0 17)).toNatClampNeg (mx_gf u 0 10)) 0 17)).toNatClampNeg ((mx_gf (mx_sa u 7 ((mx_gf u 0 17)).toNatClampNeg (mx_gf u 0 10)) 0 8) + (6 : Int32))) 0 11 1) 0 17 ((mx_gf (mx_sf (mx_sa (mx_sa u 7 ((mx_gf u 0 17)).toNatClampNeg (mx_gf u 0 10)) 8 ((mx_gf (mx_sa u 7 ((mx_gf u 0 17)).toNatClampNeg (mx_gf u 0 10)) 0 17)).toNatClampNeg ((mx_gf (mx_sa u 7 ((mx_gf u 0 17)).toNatClampNeg (mx_gf u 0 10)) 0 8) + (6 : Int32))) 0 11 1) 0 17) + (1 : Int32))) 0 9 (mx_gf (mx_sf (mx_sf (mx_sa (mx_sa u 7 ((mx_gf u 0 17)).toNatClampNeg (mx_gf u 0 10)) 8 ((mx_gf (mx_sa u 7 ((mx_gf u 0 17)).toNatClampNeg (mx_gf u 0 10)) 0 17)).toNatClampNeg ((mx_gf (mx_sa u 7 ((mx_gf u 0 17)).toNatClampNeg (mx_gf u 0 10)) 0 8) + (6 : Int32))) 0 11 1) 0 17 ((mx_gf (mx_sf (mx_sa (mx_sa u 7 ((mx_gf u 0 17)).toNatClampNeg (mx_gf u 0 10)) 8 ((mx_gf (mx_sa u 7 ((mx_gf u 0 17)).toNatClampNeg (mx_gf u 0 10)) 0 17)).toNatClampNeg ((mx_gf (mx_sa u 7 ((mx_gf u 0 17)).toNatClampNeg (mx_gf u 0 10)) 0 8) + (6 : Int32))) 0 11 1) 0 17) + (1 : Int32))) 0 9))
        else
         (mx_sf (mx_sf (mx_sf (mx_sa (mx_sa u 7 ((mx_gf u 0 17)).toNatClampNeg (mx_gf u 0 10)) 8 ((mx_gf (mx_sa u 7 ((mx_gf u 0 17)).toNatClampNeg (mx_gf u 0 10)) 0 17)).toNatClampNeg ((mx_gf (mx_sa u 7 ((mx_gf u 0 17)).toNatClampNeg (mx_gf u 0 10)) 0 8) + (6 : Int32))) 0 11 1) 0 17 ((mx_gf (mx_sf (mx_sa (mx_sa u 7 ((mx_gf u 0 17)).toNatClampNeg (mx_gf u 0 10)) 8 ((mx_gf (mx_sa u 7 ((mx_gf u 0 17)).toNatClampNeg (mx_gf u 0 10)) 0 17)).toNatClampNeg ((mx_gf (mx_sa u 7 ((mx_gf u 0 17)).toNatClampNeg (mx_gf u 0 10)) 0 8) + (6 : Int32))) 0 11 1) 0 17) + (1 : Int32))) 0 9 ((mm_second a1 (mx_sf (mx_sf (mx_sa (mx_sa u 7 ((mx_gf u 0 17)).toNatClampNeg (mx_gf u 0 10)) 8 ((mx_gf (mx_sa u 7 ((mx_gf u 0 17)).toNatClampNeg (mx_gf u 0 10)) 0 17)).toNatClampNeg ((mx_gf (mx_sa u 7 ((mx_gf u 0 17)).toNatClampNeg (mx_gf u 0 10)) 0 8) + (6 : Int32))) 0 11 1) 0 17 ((mx_gf (mx_sf (mx_sa (mx_sa u 7 ((mx_gf u 0 17)).toNatClampNeg (mx_gf u 0 10)) 8 ((mx_gf (mx_sa u 7 ((mx_gf u 0 17)).toNatClampNeg (mx_gf u 0 10)) 0 17)).toNatClampNeg ((mx_gf (mx_sa u 7 ((mx_gf u 0 17)).toNatClampNeg (mx_gf u 0 10)) 0 8) + (6 : Int32))) 0 11 1) 0 17) + (1 : Int32)))) &&& (15 : Int32)))
       else
        (mx_sf (mx_sf (mx_sa (mx_sa u 7 ((mx_gf u 0 17)).toNatClampNeg (mx_gf u 0 10)) 8 ((mx_gf (mx_sa u 7 ((mx_gf u 0 17)).toNatClampNeg (mx_gf u 0 10)) 0 17)).toNatClampNeg ((mx_gf (mx_sa u 7 ((mx_gf u 0 17)).toNatClampNeg (mx_gf u 0 10)) 0 8) + (6 : Int32))) 0 11 1) 0 17 ((mx_gf (mx_sf (mx_sa (mx_sa u 7 ((mx_gf u 0 17)).toNatClampNeg (mx_gf u 0 10)) 8 ((mx_gf (mx_sa u 7 ((mx_gf u 0 17)).toNatClampNeg (mx_gf u 0 10)) 0 17)).toNatClampNeg ((mx_gf (mx_sa u 7 ((mx_gf u 0 17)).toNatClampNeg (mx_gf u 0 10)) 0 8) + (6 : Int32))) 0 11 1) 0 17) + (1 : Int32)))
      else
       if (mm_operation a1 ) = 10 then
        if ((mm_second a1 (mx_sf (mx_sf (mx_sa (mx_sa u 7 ((mx_gf u 0 17)).toNatClampNeg (mx_gf u 0 10)) 8 ((mx_gf (mx_sa u 7 ((mx_gf u 0 17)).toNatClampNeg (mx_gf u 0 10)) 0 17)).toNatClampNeg ((mx_gf (mx_sa u 7 ((mx_gf u 0 17)).toNatClampNeg (mx_gf u 0 10)) 0 8) + (6 : Int32))) 0 11 0) 0 17 ((mx_gf (mx_sf (mx_sa (mx_sa u 7 ((mx_gf u 0 17)).toNatClampNeg (mx_gf u 0 10)) 8 ((mx_gf (mx_sa u 7 ((mx_gf u 0 17)).toNatClampNeg (mx_gf u 0 10)) 0 17)).toNatClampNeg ((mx_gf (mx_sa u 7 ((mx_gf u 0 17)).toNatClampNeg (mx_gf u 0 10)) 0 8) + (6 : Int32))) 0 11 0) 0 17) + (1 : Int32)))) &&& (15 : Int32)) ≤ (mx_gf (mx_sf (mx_sf (mx_sa (mx_sa u 7 ((mx_gf u 0 17)).toNatClampNeg (mx_gf u 0 10)) 8 ((mx_gf (mx_sa u 7 ((mx_gf u 0 17)).toNatClampNeg (mx_gf u 0 10)) 0 17)).toNatClampNeg ((mx_gf (mx_sa u 7 ((mx_gf u 0 17)).toNatClampNeg (mx_gf u 0 10)) 0 8) + (6 : Int32))) 0 11 0) 0 17 ((mx_gf (mx_sf (mx_sa (mx_sa u 7 ((mx_gf u 0 17)).toNatClampNeg (mx_gf u 0 10)) 8 ((mx_gf (mx_sa u 7 ((mx_gf u 0 17)).toNatClampNeg (mx_gf u 0 10)) 0 17)).toNatClampNeg ((mx_gf (mx_sa u 7 ((mx_gf u 0 17)).toNatClampNeg (mx_gf u 0 10)) 0 8) + (6 : Int32))) 0 11 0) 0 17) + (1 : Int32))) 0 9) then
         (mx_sf (mx_sf (mx_sf (mx_sa (mx_sa u 7 ((mx_gf u 0 17)).toNatClampNeg (mx_gf u 0 10)) 8 ((mx_gf (mx_sa u 7 ((mx_gf u 0 17)).toNatClampNeg (mx_gf u 0 10)) 0 17)).toNatClampNeg ((mx_gf (mx_sa u 7 ((mx_gf u 0 17)).toNatClampNeg (mx_gf u 0 10)) 0 8) + (6 : Int32))) 0 11 0) 0 17 ((mx_gf (mx_sf (mx_sa (mx_sa u 7 ((mx_gf u 0 17)).toNatClampNeg (mx_gf u 0 10)) 8 ((mx_gf (mx_sa u 7 ((mx_gf u 0 17)).toNatClampNeg (mx_gf u 0 10)) 0 17)).toNatClampNeg ((mx_gf (mx_sa u 7 ((mx_gf u 0 17)).toNatClampNeg (mx_gf u 0 10)) 0 8) + (6 : Int32))) 0 11 0) 0 17) + (1 : Int32))) 0 9 (mx_gf (mx_sf (mx_sf (mx_sa (mx_sa u 7 ((mx_gf u 0 17)).toNatClampNeg (mx_gf u 0 10)) 8 ((mx_gf (mx_sa u 7 ((mx_gf u 0 17)).toNatClampNeg (mx_gf u 0 10)) 0 17)).toNatClampNeg ((mx_gf (mx_sa u 7 ((mx_gf u 0 17)).toNatClampNeg (mx_gf u 0 10)) 0 8) + (6 : Int32))) 0 11 0) 0 17 ((mx_gf (mx_sf (mx_sa (mx_sa u 7 ((mx_gf u 0 17)).toNatClampNeg (mx_gf u 0 10)) 8 ((mx_gf (mx_sa u 7 ((mx_gf u 0 17)).toNatClampNeg (mx_gf u 0 10)) 0 17)).toNatClampNeg ((mx_gf (mx_sa u 7 ((mx_gf u 0 17)).toNatClampNeg (mx_gf u 0 10)) 0 8) + (6 : Int32))) 0 11 0) 0 17) + (1 : Int32))) 0 9))
        else
         (mx_sf (mx_sf (mx_sf (mx_sa (mx_sa u 7 ((mx_gf u 0 17)).toNatClampNeg (mx_gf u 0 10)) 8 ((mx_gf (mx_sa u 7 ((mx_gf u 0 17)).toNatClampNeg (mx_gf u 0 10)) 0 17)).toNatClampNeg ((mx_gf (mx_sa u 7 ((mx_gf u 0 17)).toNatClampNeg (mx_gf u 0 10)) 0 8) + (6 : Int32))) 0 11 0) 0 17 ((mx_gf (mx_sf (mx_sa (mx_sa u 7 ((mx_gf u 0 17)).toNatClampNeg (mx_gf u 0 10)) 8 ((mx_gf (mx_sa u 7 ((mx_gf u 0 17)).toNatClampNeg (mx_gf u 0 10)) 0 17)).toNatClampNeg ((mx_gf (mx_sa u 7 ((mx_gf u 0 17)).toNatClampNeg (mx_gf u 0 10)) 0 8) + (6 : Int32))) 0 11 0) 0 17) + (1 : Int32))) 0 9 ((mm_second a1 (mx_sf (mx_sf (mx_sa (mx_sa u 7 ((mx_gf u 0 17)).toNatClampNeg (mx_gf u 0 10)) 8 ((mx_gf (mx_sa u 7 ((mx_gf u 0 17)).toNatClampNeg (mx_gf u 0 10)) 0 17)).toNatClampNeg ((mx_gf (mx_sa u 7 ((mx_gf u 0 17)).toNatClampNeg (mx_gf u 0 10)) 0 8) + (6 : Int32))) 0 11 0) 0 17 ((mx_gf (mx_sf (mx_sa (mx_sa u 7 ((mx_gf u 0 17)).toNatClampNeg (mx_gf u 0 10)) 8 ((mx_gf (mx_sa u 7 ((mx_gf u 0 17)).toNatClampNeg (mx_gf u 0 10)) 0 17)).toNatClampNeg ((mx_gf (mx_sa u 7 ((mx_gf u 0 17)).toNatClampNeg (mx_gf u 0 10)) 0 8) + (6 : Int32))) 0 11 0) 0 17) + (1 : Int32)))) &&& (15 : Int32)))
       else
        (mx_sf (mx_sf (mx_sa (mx_sa u 7 ((mx_gf u 0 17)).toNatClampNeg (mx_gf u 0 10)) 8 ((mx_gf (mx_sa u 7 ((mx_gf u 0 17)).toNatClampNeg (mx_gf u 0 10)) 0 17)).toNatClampNeg ((mx_gf (mx_sa u 7 ((mx_gf u 0 17)).toNatClampNeg (mx_gf u 0 10)) 0 8) + (6 : Int32))) 0 11 0) 0 17 ((mx_gf (mx_sf (mx_sa (mx_sa u 7 ((mx_gf u 0 17)).toNatClampNeg (mx_gf u 0 10)) 8 ((mx_gf (mx_sa u 7 ((mx_gf u 0 17)).toNatClampNeg (mx_gf u 0 10)) 0 17)).toNatClampNeg ((mx_gf (mx_sa u 7 ((mx_gf u 0 17)).toNatClampNeg (mx_gf u 0 10)) 0 8) + (6 : Int32))) 0 11 0) 0 17) + (1 : Int32)))
     else
      if (mm_operation a1 ) = 10 then
       if ((mm_second a1 (mx_sf (mx_sf (mx_sa (mx_sa u 7 ((mx_gf u 0 17)).toNatClampNeg (mx_gf u 0 10)) 8 ((mx_gf (mx_sa u 7 ((mx_gf u 0 17)).toNatClampNeg (mx_gf u 0 10)) 0 17)).toNatClampNeg ((mx_gf (mx_sa u 7 ((mx_gf u 0 17)).toNatClampNeg (mx_gf u 0 10)) 0 8) + (6 : Int32))) 0 11 1) 0 17 ((mx_gf (mx_sf (mx_sa (mx_sa u 7 ((mx_gf u 0 17)).toNatClampNeg (mx_gf u 0 10)) 8 ((mx_gf (mx_sa u 7 ((mx_gf u 0 17)).toNatClampNeg (mx_gf u 0 10)) 0 17)).toNatClampNeg ((mx_gf (mx_sa u 7 ((mx_gf u 0 17)).toNatClampNeg (mx_gf u 0 10)) 0 8) + (6 : Int32))) 0 11 1) 0 17) + (1 : Int32)))) &&& (15 : Int32)) ≤ (mx_gf (mx_sf (mx_sf (mx_sa (mx_sa u 7 ((mx_gf u 0 17)).toNatClampNeg (mx_gf u 0 10)) 8 ((mx_gf (mx_sa u 7 ((mx_gf u 0 17)).toNatClampNeg (mx_gf u 0 10)) 0 17)).toNatClampNeg ((mx_gf (mx_sa u 7 ((mx_gf u 0 17)).toNatClampNeg (mx_gf u 0 10)) 0 8) + (6 : Int32))) 0 11 1) 0 17 ((mx_gf (mx_sf (mx_sa (mx_sa u 7 ((mx_gf u 0 17)).toNatClampNeg (mx_gf u 0 10)) 8 ((mx_gf (mx_sa u 7 ((mx_gf u 0 17)).toNatClampNeg (mx_gf u 0 10)) 0 17)).toNatClampNeg ((mx_gf (mx_sa u 7 ((mx_gf u 0 17)).toNatClampNeg (mx_gf u 0 10)) 0 8) + (6 : Int32))) 0 11 1) 0 17) + (1 : Int32))) 0 9) then
        (mx_sf (mx_sf (mx_sf (mx_sa (mx_sa u 7 ((mx_gf u 0 17)).toNatClampNeg (mx_gf u 0 10)) 8 ((mx_gf (mx_sa u 7 ((mx_gf u 0 17)).toNatClampNeg (mx_gf u 0 10)) 0 17)).toNatClampNeg ((mx_gf (mx_sa u 7 ((mx_gf u 0 17)).toNatClampNeg (mx_gf u 0 10)) 0 8) + (6 : Int32))) 0 11 1) 0 17 ((mx_gf (mx_sf (mx_sa (mx_sa u 7 ((mx_gf u 0 17)).toNatClampNeg (mx_gf u 0 10)) 8 ((mx_gf (mx_sa u 7 ((mx_gf u 0 17)).toNatClampNeg (mx_gf u 0 10)) 0 17)).toNatClampNeg ((mx_gf (mx_sa u 7 ((mx_gf u 0 17)).toNatClampNeg (mx_gf u 0 10)) 0 8) + (6 : Int32))) 0 11 1) 0 17) + (1 : Int32))) 0 9 (mx_gf (mx_sf (mx_sf (mx_sa (mx_sa u 7 ((mx_gf u 0 17)).toNatClampNeg (mx_gf u 0 10)) 8 ((mx_gf (mx_sa u 7 ((mx_gf u 0 17)).toNatClampNeg (mx_gf u 0 10)) 0 17)).toNatClampNeg ((mx_gf (mx_sa u 7 ((mx_gf u 0 17)).toNatClampNeg (mx_gf u 0 10)) 0 8) + (6 : Int32))) 0 11 1) 0 17 ((mx_gf (mx_sf (mx_sa (mx_sa u 7 ((mx_gf u 0 17)).toNatClampNeg (mx_gf u 0 10)) 8 ((mx_gf (mx_sa u 7 ((mx_gf u 0 17)).toNatClampNeg (mx_gf u 0 10)) 0 17)).toNatClampNeg ((mx_gf (mx_sa u 7 ((mx_gf u 0 17)).toNatClampNeg (mx_gf u 0 10)) 0 8) + (6 : Int32))) 0 11 1) 0 17) + (1 : Int32))) 0 9))
       else
        (mx_sf (mx_sf (mx_sf (mx_sa (mx_sa u 7 ((mx_gf u 0 17)).toNatClampNeg (mx_gf u 0 10)) 8 ((mx_gf (mx_sa u 7 ((mx_gf u 0 17)).toNatClampNeg (mx_gf u 0 10)) 0 17)).toNatClampNeg ((mx_gf (mx_sa u 7 ((mx_gf u 0 17)).toNatClampNeg (mx_gf u 0 10)) 0 8) + (6 : Int32))) 0 11 1) 0 17 ((mx_gf (mx_sf (mx_sa (mx_sa u 7 ((mx_gf u 0 17)).toNatClampNeg (mx_gf u 0 10)) 8 ((mx_gf (mx_sa u 7 ((mx_gf u 0 17)).toNatClampNeg (mx_gf u 0 10)) 0 17)).toNatClampNeg ((mx_gf (mx_sa u 7 ((mx_gf u 0 17)).toNatClampNeg (mx_gf u 0 10)) 0 8) + (6 : Int32))) 0 11 1) 0 17) + (1 : Int32))) 0 9 ((mm_second a1 (mx_sf (mx_sf (mx_sa (mx_sa u 7 ((mx_gf u 0 17)).toNatClampNeg (mx_gf u 0 10)) 8 ((mx_gf (mx_sa u 7 ((mx_gf u 0 17)).toNatClampNeg (mx_gf u 0 10)) 0 17)).toNatClampNeg ((mx_gf (mx_sa u 7 ((mx_gf u 0 17)).toNatClampNeg (mx_gf u 0 10)) 0 8) + (6 : Int32))) 0 11 1) 0 17 ((mx_gf (mx_sf (mx_sa (mx_sa u 7 ((mx_gf u 0 17)).toNatClampNeg (mx_gf u 0 10)) 8 ((mx_gf (mx_sa u 7 ((mx_gf u 0 17)).toNatClampNeg (mx_gf u 0 10)) 0 17)).toNatClampNeg ((mx_gf (mx_sa u 7 ((mx_gf u 0 17)).toNatClampNeg (mx_gf u 0 10)) 0 8) + (6 : Int32))) 0 11 1) 0 17) + (1 : Int32)))) &&& (15 : Int32)))
      else
       (mx_sf (mx_sf (mx_sa (mx_sa u 7 ((mx_gf u 0 17)).toNatClampNeg (mx_gf u 0 10)) 8 ((mx_gf (mx_sa u 7 ((mx_gf u 0 17)).toNatClampNeg (mx_gf u 0 10)) 0 17)).toNatClampNeg ((mx_gf (mx_sa u 7 ((mx_gf u 0 17)).toNatClampNeg (mx_gf u 0 10)) 0 8) + (6 : Int32))) 0 11 1) 0 17 ((mx_gf (mx_sf (mx_sa (mx_sa u 7 ((mx_gf u 0 17)).toNatClampNeg (mx_gf u 0 10)) 8 ((mx_gf (mx_sa u 7 ((mx_gf u 0 17)).toNatClampNeg (mx_gf u 0 10)) 0 17)).toNatClampNeg ((mx_gf (mx_sa u 7 ((mx_gf u 0 17)).toNatClampNeg (mx_gf u 0 10)) 0 8) + (6 : Int32))) 0 11 1) 0 17) + (1 : Int32)))
theorem mm_controls_ex : ∃ f : Int32 → mx_S → (mx_S), f = mm_controls_b := ⟨_, rfl⟩
noncomputable def mm_controls : Int32 → mx_S → (mx_S) := Classical.choose mm_controls_ex
theorem mm_controls_eq (a1 : Int32) (u : mx_S) : (mm_controls a1 u) = (mm_controls_b a1 u) := by rw [show mm_controls = mm_controls_b from Classical.choose_spec mm_controls_ex]
def q_mm_controls (a1 : Int32) (u : mx_S) : Prop :=
  ((10 ≤ (mm_operation a1 )) → 
   True) ∧ ((¬ (10 ≤ (mm_operation a1 ))) → 
   ((¬ ((mm_operation a1 ) = 7)) → 
    ((¬ ((mm_operation a1 ) = 8)) → 
     (vp_in (mx_gf u 0 17) 32) ∧ (
      (vp_in (mx_gf (mx_sa u 7 ((mx_gf u 0 17)).toNatClampNeg (mx_gf u 0 10)) 0 17) 32))) ∧ (((mm_operation a1 ) = 8) → 
     (vp_in (mx_gf u 0 17) 32) ∧ (
      (vp_in (mx_gf (mx_sa u 7 ((mx_gf u 0 17)).toNatClampNeg (mm_second a1 u)) 0 17) 32)))) ∧ (((mm_operation a1 ) = 7) → 
    (vp_in (mx_gf u 0 17) 32) ∧ (
     (vp_in (mx_gf (mx_sa u 7 ((mx_gf u 0 17)).toNatClampNeg (a1.toUInt32 >>> ((12 : Int32).toUInt32 &&& Int32.toUInt32 31)).toInt32) 0 17) 32))))
def pre_mm_controls : List mx_V → mx_S → Prop := fun as u => ∃ (a1 : Int32), as = [.inr (.inr 0), .inl a1] ∧ q_mm_controls a1 u
noncomputable def fn_mm_controls : mx_F := fun as u => match as with
  | [_, .inl a1] => (none, (mm_controls a1 u))
  | _ => (none, u)
noncomputable def tb_mm_controls : List (Nat × mx_T) := [
  (0, mx_iload_n 1 0),
  (1, mx_invS 1 pre_mm_operation fn_mm_operation 1),
  (4, mx_istore_n 2 4),
  (5, mx_iload_n 2 5),
  (6, mx_bipush 10 6),
  (8, mx_icmp_ge 99 8),
  (11, mx_aload_n 0 11),
  (12, mx_getf km 3 18 12),
  (15, mx_aload_n 0 15),
  (16, mx_getf km 3 17 16),
  (19, mx_iload_n 2 19),
  (20, mx_bipush 7 20),
  (22, mx_icmp_ne 32 22),
  (25, mx_iload_n 1 25),
  (26, mx_bipush 12 26),
  (28, mx_iushr 28),
  (29, mx_goto 50 29),
  (32, mx_iload_n 2 32),
  (33, mx_bipush 8 33),
  (35, mx_icmp_ne 46 35),
  (38, mx_aload_n 0 38),
  (39, mx_iload_n 1 39),
  (40, mx_invV km 3 1 pre_mm_second fn_mm_second 40),
  (43, mx_goto 50 43),
  (46, mx_aload_n 0 46),
  (47, mx_getf km 3 10 47),
  (50, mx_iast km 50),
  (51, mx_aload_n 0 51),
  (52, mx_getf km 3 19 52),
  (55, mx_aload_n 0 55),
  (56, mx_getf km 3 17 56),
  (59, mx_aload_n 0 59),
  (60, mx_getf km 3 8 60),
  (63, mx_bipush 6 63),
  (65, mx_iadd 65),
  (66, mx_iast km 66),
  (67, mx_aload_n 0 67),
  (68, mx_aload_n 0 68),
  (69, mx_getf km 3 11 69),
  (72, mx_if_ne 81 72),
  (75, mx_iload_n 2 75),
  (76, mx_bipush 9 76),
  (78, mx_icmp_ne 85 78),
  (81, mx_iconst 1 81),
  (82, mx_goto 86 82),
  (85, mx_iconst 0 85),
  (86, mx_putz km 3 11 86),
  (89, mx_aload_n 0 89),
  (90, mx_dup 90),
  (91, mx_getf km 3 17 91),
  (94, mx_iconst 1 94),
  (95, mx_iadd 95),
  (96, mx_putf km 3 17 96),
  (99, mx_iload_n 2 99),
  (100, mx_bipush 10 100),
  (102, mx_icmp_ne 134 102),
  (105, mx_aload_n 0 105),
  (106, mx_iload_n 1 106),
  (107, mx_invV km 3 1 pre_mm_second fn_mm_second 107),
  (110, mx_bipush 15 110),
  (112, mx_iand 112),
  (113, mx_istore_n 3 113),
  (114, mx_aload_n 0 114),
  (115, mx_iload_n 3 115),
  (116, mx_aload_n 0 116),
  (117, mx_getf km 3 9 117),
  (120, mx_icmp_le 127 120),
  (123, mx_iload_n 3 123),
  (124, mx_goto 131 124),
  (127, mx_aload_n 0 127),
  (128, mx_getf km 3 9 128),
  (131, mx_putf km 3 9 131),
  (134, mx_vret 134)]
set_option maxRecDepth 100000 in
set_option maxHeartbeats 4000000 in
theorem ok_mm_controls (l : Launch) : ∀ q ∈ tb_mm_controls , mx_Ok l ({ frames := 2, cells := 0, slots := 0, locals := 41 } : Room) b_mm_controls 4 "WideMachineModel" none vw_T vw_cl km q.1 q.2 := by
  refine List.forall_mem_cons.mpr ⟨mx_ok_iload_n (show decode b_mm_controls 0 = .ok (.iload_n 1, 1) by decide +kernel) rfl, ?_⟩
  refine List.forall_mem_cons.mpr ⟨mx_ok_invS vw_G (ct_mm_operation l ) ⟨vm_326, vm_327, vm_324, ⟨by decide +kernel, by decide +kernel, by decide +kernel⟩, ⟨by decide, by decide⟩, rfl, rfl⟩ vm_328 (show decode b_mm_controls 1 = .ok (.invokestatic 85, 3) by decide +kernel), ?_⟩
  refine List.forall_mem_cons.mpr ⟨mx_ok_istore_n (show decode b_mm_controls 4 = .ok (.istore_n 2, 1) by decide +kernel) rfl (by decide), ?_⟩
  refine List.forall_mem_cons.mpr ⟨mx_ok_iload_n (show decode b_mm_controls 5 = .ok (.iload_n 2, 1) by decide +kernel) rfl, ?_⟩
  refine List.forall_mem_cons.mpr ⟨mx_ok_bipush (show decode b_mm_controls 6 = .ok (.bipush 10, 2) by decide +kernel) (by decide), ?_⟩
  refine List.forall_mem_cons.mpr ⟨mx_ok_icmp_ge (show decode b_mm_controls 8 = .ok (.if_icmp .ge 91, 3) by decide +kernel) (by decide), ?_⟩
  refine List.forall_mem_cons.mpr ⟨mx_ok_aload_n (show decode b_mm_controls 11 = .ok (.aload_n 0, 1) by decide +kernel) rfl, ?_⟩
  refine List.forall_mem_cons.mpr ⟨mx_ok_getf fd_mm_28 (show decode b_mm_controls 12 = .ok (.getfield 28, 3) by decide +kernel), ?_⟩
  refine List.forall_mem_cons.mpr ⟨mx_ok_aload_n (show decode b_mm_controls 15 = .ok (.aload_n 0, 1) by decide +kernel) rfl, ?_⟩
  refine List.forall_mem_cons.mpr ⟨mx_ok_getf fd_mm_62 (show decode b_mm_controls 16 = .ok (.getfield 62, 3) by decide +kernel), ?_⟩
  refine List.forall_mem_cons.mpr ⟨mx_ok_iload_n (show decode b_mm_controls 19 = .ok (.iload_n 2, 1) by decide +kernel) rfl, ?_⟩
  refine List.forall_mem_cons.mpr ⟨mx_ok_bipush (show decode b_mm_controls 20 = .ok (.bipush 7, 2) by decide +kernel) (by decide), ?_⟩
  refine List.forall_mem_cons.mpr ⟨mx_ok_icmp_ne (show decode b_mm_controls 22 = .ok (.if_icmp .ne 10, 3) by decide +kernel) (by decide), ?_⟩
  refine List.forall_mem_cons.mpr ⟨mx_ok_iload_n (show decode b_mm_controls 25 = .ok (.iload_n 1, 1) by decide +kernel) rfl, ?_⟩
  refine List.forall_mem_cons.mpr ⟨mx_ok_bipush (show decode b_mm_controls 26 = .ok (.bipush 12, 2) by decide +kernel) (by decide), ?_⟩
  refine List.forall_mem_cons.mpr ⟨mx_ok_iushr (show decode b_mm_controls 28 = .ok (.iushr, 1) by decide +kernel), ?_⟩
  refine List.forall_mem_cons.mpr ⟨mx_ok_goto (show decode b_mm_controls 29 = .ok (.goto 21, 3) by decide +kernel) (by decide), ?_⟩
  refine List.forall_mem_cons.mpr ⟨mx_ok_iload_n (show decode b_mm_controls 32 = .ok (.iload_n 2, 1) by decide +kernel) rfl, ?_⟩
  refine List.forall_mem_cons.mpr ⟨mx_ok_bipush (show decode b_mm_controls 33 = .ok (.bipush 8, 2) by decide +kernel) (by decide), ?_⟩
  refine List.forall_mem_cons.mpr ⟨mx_ok_icmp_ne (show decode b_mm_controls 35 = .ok (.if_icmp .ne 11, 3) by decide +kernel) (by decide), ?_⟩
  refine List.forall_mem_cons.mpr ⟨mx_ok_aload_n (show decode b_mm_controls 38 = .ok (.aload_n 0, 1) by decide +kernel) rfl, ?_⟩
  refine List.forall_mem_cons.mpr ⟨mx_ok_iload_n (show decode b_mm_controls 39 = .ok (.iload_n 1, 1) by decide +kernel) rfl, ?_⟩
  refine List.forall_mem_cons.mpr ⟨mx_ok_invV vw_G (ct_mm_second l ) ⟨vm_359, vm_360, vm_324, ⟨by decide +kernel, by decide +kernel, by decide +kernel⟩, ⟨by decide, by decide⟩, rfl, rfl⟩ vm_361 vm_362 rfl (show decode b_mm_controls 40 = .ok (.invokevirtual 166, 3) by decide +kernel), ?_⟩
  refine List.forall_mem_cons.mpr ⟨mx_ok_goto (show decode b_mm_controls 43 = .ok (.goto 7, 3) by decide +kernel) (by decide), ?_⟩
  refine List.forall_mem_cons.mpr ⟨mx_ok_aload_n (show decode b_mm_controls 46 = .ok (.aload_n 0, 1) by decide +kernel) rfl, ?_⟩
  refine List.forall_mem_cons.mpr ⟨mx_ok_getf fd_mm_68 (show decode b_mm_controls 47 = .ok (.getfield 68, 3) by decide +kernel), ?_⟩
  refine List.forall_mem_cons.mpr ⟨mx_ok_iast (show decode b_mm_controls 50 = .ok (.iastore, 1) by decide +kernel), ?_⟩
  refine List.forall_mem_cons.mpr ⟨mx_ok_aload_n (show decode b_mm_controls 51 = .ok (.aload_n 0, 1) by decide +kernel) rfl, ?_⟩
  refine List.forall_mem_cons.mpr ⟨mx_ok_getf fd_mm_31 (show decode b_mm_controls 52 = .ok (.getfield 31, 3) by decide +kernel), ?_⟩
  refine List.forall_mem_cons.mpr ⟨mx_ok_aload_n (show decode b_mm_controls 55 = .ok (.aload_n 0, 1) by decide +kernel) rfl, ?_⟩
  refine List.forall_mem_cons.mpr ⟨mx_ok_getf fd_mm_62 (show decode b_mm_controls 56 = .ok (.getfield 62, 3) by decide +kernel), ?_⟩
  refine List.forall_mem_cons.mpr ⟨mx_ok_aload_n (show decode b_mm_controls 59 = .ok (.aload_n 0, 1) by decide +kernel) rfl, ?_⟩
  refine List.forall_mem_cons.mpr ⟨mx_ok_getf fd_mm_56 (show decode b_mm_controls 60 = .ok (.getfield 56, 3) by decide +kernel), ?_⟩
  refine List.forall_mem_cons.mpr ⟨mx_ok_bipush (show decode b_mm_controls 63 = .ok (.bipush 6, 2) by decide +kernel) (by decide), ?_⟩
  refine List.forall_mem_cons.mpr ⟨mx_ok_iadd (show decode b_mm_controls 65 = .ok (.iadd, 1) by decide +kernel), ?_⟩
  refine List.forall_mem_cons.mpr ⟨mx_ok_iast (show decode b_mm_controls 66 = .ok (.iastore, 1) by decide +kernel), ?_⟩
  refine List.forall_mem_cons.mpr ⟨mx_ok_aload_n (show decode b_mm_controls 67 = .ok (.aload_n 0, 1) by decide +kernel) rfl, ?_⟩
  refine List.forall_mem_cons.mpr ⟨mx_ok_aload_n (show decode b_mm_controls 68 = .ok (.aload_n 0, 1) by decide +kernel) rfl, ?_⟩
  refine List.forall_mem_cons.mpr ⟨mx_ok_getf fd_mm_71 (show decode b_mm_controls 69 = .ok (.getfield 71, 3) by decide +kernel), ?_⟩
  refine List.forall_mem_cons.mpr ⟨mx_ok_if_ne (show decode b_mm_controls 72 = .ok (.ifCond .ne 9, 3) by decide +kernel) (by decide), ?_⟩
  refine List.forall_mem_cons.mpr ⟨mx_ok_iload_n (show decode b_mm_controls 75 = .ok (.iload_n 2, 1) by decide +kernel) rfl, ?_⟩
  refine List.forall_mem_cons.mpr ⟨mx_ok_bipush (show decode b_mm_controls 76 = .ok (.bipush 9, 2) by decide +kernel) (by decide), ?_⟩
  refine List.forall_mem_cons.mpr ⟨mx_ok_icmp_ne (show decode b_mm_controls 78 = .ok (.if_icmp .ne 7, 3) by decide +kernel) (by decide), ?_⟩
  refine List.forall_mem_cons.mpr ⟨mx_ok_iconst (show decode b_mm_controls 81 = .ok (.iconst 1, 1) by decide +kernel) (by decide), ?_⟩
  refine List.forall_mem_cons.mpr ⟨mx_ok_goto (show decode b_mm_controls 82 = .ok (.goto 4, 3) by decide +kernel) (by decide), ?_⟩
  refine List.forall_mem_cons.mpr ⟨mx_ok_iconst (show decode b_mm_controls 85 = .ok (.iconst 0, 1) by decide +kernel) (by decide), ?_⟩
  refine List.forall_mem_cons.mpr ⟨mx_ok_putz fd_mm_71 fw_3_11 (show decode b_mm_controls 86 = .ok (.putfield 71, 3) by decide +kernel), ?_⟩
  refine List.forall_mem_cons.mpr ⟨mx_ok_aload_n (show decode b_mm_controls 89 = .ok (.aload_n 0, 1) by decide +kernel) rfl, ?_⟩
  refine List.forall_mem_cons.mpr ⟨mx_ok_dup (show decode b_mm_controls 90 = .ok (.dup, 1) by decide +kernel), ?_⟩
  refine List.forall_mem_cons.mpr ⟨mx_ok_getf fd_mm_62 (show decode b_mm_controls 91 = .ok (.getfield 62, 3) by decide +kernel), ?_⟩
  refine List.forall_mem_cons.mpr ⟨mx_ok_iconst (show decode b_mm_controls 94 = .ok (.iconst 1, 1) by decide +kernel) (by decide), ?_⟩
  refine List.forall_mem_cons.mpr ⟨mx_ok_iadd (show decode b_mm_controls 95 = .ok (.iadd, 1) by decide +kernel), ?_⟩
  refine List.forall_mem_cons.mpr ⟨mx_ok_putf fd_mm_62 fw_3_17 (show decode b_mm_controls 96 = .ok (.putfield 62, 3) by decide +kernel), ?_⟩
  refine List.forall_mem_cons.mpr ⟨mx_ok_iload_n (show decode b_mm_controls 99 = .ok (.iload_n 2, 1) by decide +kernel) rfl, ?_⟩
  refine List.forall_mem_cons.mpr ⟨mx_ok_bipush (show decode b_mm_controls 100 = .ok (.bipush 10, 2) by decide +kernel) (by decide), ?_⟩
  refine List.forall_mem_cons.mpr ⟨mx_ok_icmp_ne (show decode b_mm_controls 102 = .ok (.if_icmp .ne 32, 3) by decide +kernel) (by decide), ?_⟩
  refine List.forall_mem_cons.mpr ⟨mx_ok_aload_n (show decode b_mm_controls 105 = .ok (.aload_n 0, 1) by decide +kernel) rfl, ?_⟩
  refine List.forall_mem_cons.mpr ⟨mx_ok_iload_n (show decode b_mm_controls 106 = .ok (.iload_n 1, 1) by decide +kernel) rfl, ?_⟩
  refine List.forall_mem_cons.mpr ⟨mx_ok_invV vw_G (ct_mm_second l ) ⟨vm_359, vm_360, vm_324, ⟨by decide +kernel, by decide +kernel, by decide +kernel⟩, ⟨by decide, by decide⟩, rfl, rfl⟩ vm_361 vm_362 rfl (show decode b_mm_controls 107 = .ok (.invokevirtual 166, 3) by decide +kernel), ?_⟩
  refine List.forall_mem_cons.mpr ⟨mx_ok_bipush (show decode b_mm_controls 110 = .ok (.bipush 15, 2) by decide +kernel) (by decide), ?_⟩
  refine List.forall_mem_cons.mpr ⟨mx_ok_iand (show decode b_mm_controls 112 = .ok (.iand, 1) by decide +kernel), ?_⟩
  refine List.forall_mem_cons.mpr ⟨mx_ok_istore_n (show decode b_mm_controls 113 = .ok (.istore_n 3, 1) by decide +kernel) rfl (by decide), ?_⟩
  refine List.forall_mem_cons.mpr ⟨mx_ok_aload_n (show decode b_mm_controls 114 = .ok (.aload_n 0, 1) by decide +kernel) rfl, ?_⟩
  refine List.forall_mem_cons.mpr ⟨mx_ok_iload_n (show decode b_mm_controls 115 = .ok (.iload_n 3, 1) by decide +kernel) rfl, ?_⟩
  refine List.forall_mem_cons.mpr ⟨mx_ok_aload_n (show decode b_mm_controls 116 = .ok (.aload_n 0, 1) by decide +kernel) rfl, ?_⟩
  refine List.forall_mem_cons.mpr ⟨mx_ok_getf fd_mm_65 (show decode b_mm_controls 117 = .ok (.getfield 65, 3) by decide +kernel), ?_⟩
  refine List.forall_mem_cons.mpr ⟨mx_ok_icmp_le (show decode b_mm_controls 120 = .ok (.if_icmp .le 7, 3) by decide +kernel) (by decide), ?_⟩
  refine List.forall_mem_cons.mpr ⟨mx_ok_iload_n (show decode b_mm_controls 123 = .ok (.iload_n 3, 1) by decide +kernel) rfl, ?_⟩
  refine List.forall_mem_cons.mpr ⟨mx_ok_goto (show decode b_mm_controls 124 = .ok (.goto 7, 3) by decide +kernel) (by decide), ?_⟩
  refine List.forall_mem_cons.mpr ⟨mx_ok_aload_n (show decode b_mm_controls 127 = .ok (.aload_n 0, 1) by decide +kernel) rfl, ?_⟩
  refine List.forall_mem_cons.mpr ⟨mx_ok_getf fd_mm_65 (show decode b_mm_controls 128 = .ok (.getfield 65, 3) by decide +kernel), ?_⟩
  refine List.forall_mem_cons.mpr ⟨mx_ok_putf fd_mm_65 fw_3_9 (show decode b_mm_controls 131 = .ok (.putfield 65, 3) by decide +kernel), ?_⟩
  refine List.forall_mem_cons.mpr ⟨mx_ok_vret (show decode b_mm_controls 134 = .ok (.return_, 1) by decide +kernel) rfl, ?_⟩
  exact fun _ h => absurd h List.not_mem_nil
set_option maxRecDepth 100000 in
set_option maxHeartbeats 4000000 in
theorem ct_mm_controls (l : Launch) : mx_Ct l vw_T vw_cl km { frames := 2, cells := 0, slots := 0, locals := 41 } y_mm_controls b_mm_controls 4 none pre_mm_controls fn_mm_controls := by
  refine mx_ct_of (tb_mm_controls ) (by decide) (ok_mm_controls l ) (fun as u h => by obtain ⟨_, rfl, -⟩ := h; exact Nat.le_of_ble_eq_true rfl) ?_
  intro as u hpre At hc hw
  obtain ⟨a1, rfl, hp⟩ := hpre
  exact hc 200 [] _ _ _ _ (
    And.intro rfl (
    And.intro ⟨_, rfl, trivial⟩ (
    And.intro (fun h8 => 
     And.intro (fun h102 => 
      congrArg (fun z : mx_S => ((none, z) : Option mx_V × mx_S)) (show u = (mm_controls a1 u) from ((mm_controls_eq a1 u).trans ((if_pos h8).trans (if_neg h102))).symm)) (fun h102 => 
      And.intro rfl (
      And.intro ⟨_, rfl, trivial⟩ (
      And.intro (fun h120 => 
       And.intro rfl (
       congrArg (fun z : mx_S => ((none, z) : Option mx_V × mx_S)) (show (mx_sf u 0 9 (mx_gf u 0 9)) = (mm_controls a1 u) from ((mm_controls_eq a1 u).trans ((if_pos h8).trans ((if_pos h102).trans (if_pos h120)))).symm))) (fun h120 => 
       And.intro rfl (
       congrArg (fun z : mx_S => ((none, z) : Option mx_V × mx_S)) (show (mx_sf u 0 9 ((mm_second a1 u) &&& (15 : Int32))) = (mm_controls a1 u) from ((mm_controls_eq a1 u).trans ((if_pos h8).trans ((if_pos h102).trans (if_neg h120)))).symm))))))) (fun h8 => 
     And.intro (fun h22 => 
      And.intro (fun h35 => 
       And.intro ((((hp.2 h8).1 h22).1 h35).1) (
       And.intro ((((hp.2 h8).1 h22).1 h35).2) (
       And.intro (fun h72 => 
        And.intro rfl (
        And.intro (Or.inr rfl) (
        And.intro rfl (
        And.intro (fun h102 => 
         congrArg (fun z : mx_S => ((none, z) : Option mx_V × mx_S)) (show (mx_sf (mx_sf (mx_sa (mx_sa u 7 ((mx_gf u 0 17)).toNatClampNeg (mx_gf u 0 10)) 8 ((mx_gf (mx_sa u 7 ((mx_gf u 0 17)).toNatClampNeg (mx_gf u 0 10)) 0 17)).toNatClampNeg ((mx_gf (mx_sa u 7 ((mx_gf u 0 17)).toNatClampNeg (mx_gf u 0 10)) 0 8) + (6 : Int32))) 0 11 1) 0 17 ((mx_gf (mx_sf (mx_sa (mx_sa u 7 ((mx_gf u 0 17)).toNatClampNeg (mx_gf u 0 10)) 8 ((mx_gf (mx_sa u 7 ((mx_gf u 0 17)).toNatClampNeg (mx_gf u 0 10)) 0 17)).toNatClampNeg ((mx_gf (mx_sa u 7 ((mx_gf u 0 17)).toNatClampNeg (mx_gf u 0 10)) 0 8) + (6 : Int32))) 0 11 1) 0 17) + (1 : Int32))) = (mm_controls a1 u) from ((mm_controls_eq a1 u).trans ((if_neg h8).trans ((if_neg h22).trans ((if_neg h35).trans ((if_neg h72).trans (if_neg h102)))))).symm)) (fun h102 => 
         And.intro rfl (
         And.intro ⟨_, rfl, trivial⟩ (
         And.intro (fun h120 => 
          And.intro rfl (
          congrArg (fun z : mx_S => ((none, z) : Option mx_V × mx_S)) (show (mx_sf (mx_sf (mx_sf (mx_sa (mx_sa u 7 ((mx_gf u 0 17)).toNatClampNeg (mx_gf u 0 10)) 8 ((mx_gf (mx_sa u 7 ((mx_gf u 0 17)).toNatClampNeg (mx_gf u 0 10)) 0 17)).toNatClampNeg ((mx_gf (mx_sa u 7 ((mx_gf u 0 17)).toNatClampNeg (mx_gf u 0 10)) 0 8) + (6 : Int32))) 0 11 1) 0 17 ((mx_gf (mx_sf (mx_sa (mx_sa u 7 ((mx_gf u 0 17)).toNatClampNeg (mx_gf u 0 10)) 8 ((mx_gf (mx_sa u 7 ((mx_gf u 0 17)).toNatClampNeg (mx_gf u 0 10)) 0 17)).toNatClampNeg ((mx_gf (mx_sa u 7 ((mx_gf u 0 17)).toNatClampNeg (mx_gf u 0 10)) 0 8) + (6 : Int32))) 0 11 1) 0 17) + (1 : Int32))) 0 9 (mx_gf (mx_sf (mx_sf (mx_sa (mx_sa u 7 ((mx_gf u 0 17)).toNatClampNeg (mx_gf u 0 10)) 8 ((mx_gf (mx_sa u 7 ((mx_gf u 0 17)).toNatClampNeg (mx_gf u 0 10)) 0 17)).toNatClampNeg ((mx_gf (mx_sa u 7 ((mx_gf u 0 17)).toNatClampNeg (mx_gf u 0 10)) 0 8) + (6 : Int32))) 0 11 1) 0 17 ((mx_gf (mx_sf (mx_sa (mx_sa u 7 ((mx_gf u 0 17)).toNatClampNeg (mx_gf u 0 10)) 8 ((mx_gf (mx_sa u 7 ((mx_gf u 0 17)).toNatClampNeg (mx_gf u 0 10)) 0 17)).toNatClampNeg ((mx_gf (mx_sa u 7 ((mx_gf u 0 17)).toNatClampNeg (mx_gf u 0 10)) 0 8) + (6 : Int32))) 0 11 1) 0 17) + (1 : Int32))) 0 9)) = (mm_controls a1 u) from ((mm_controls_eq a1 u).trans ((if_neg h8).trans ((if_neg h22).trans ((if_neg h35).trans ((if_neg h72).trans ((if_pos h102).trans (if_pos h120))))))).symm))) (fun h120 => 
          And.intro rfl (
          congrArg (fun z : mx_S => ((none, z) : Option mx_V × mx_S)) (show (mx_sf (mx_sf (mx_sf (mx_sa (mx_sa u 7 ((mx_gf u 0 17)).toNatClampNeg (mx_gf u 0 10)) 8 ((mx_gf (mx_sa u 7 ((mx_gf u 0 17)).toNatClampNeg (mx_gf u 0 10)) 0 17)).toNatClampNeg ((mx_gf (mx_sa u 7 ((mx_gf u 0 17)).toNatClampNeg (mx_gf u 0 10)) 0 8) + (6 : Int32))) 0 11 1) 0 17 ((mx_gf (mx_sf (mx_sa (mx_sa u 7 ((mx_gf u 0 17)).toNatClampNeg (mx_gf u 0 10)) 8 ((mx_gf (mx_sa u 7 ((mx_gf u 0 17)).toNatClampNeg (mx_gf u 0 10)) 0 17)).toNatClampNeg ((mx_gf (mx_sa u 7 ((mx_gf u 0 17)).toNatClampNeg (mx_gf u 0 10)) 0 8) + (6 : Int32))) 0 11 1) 0 17) + (1 : Int32))) 0 9 ((mm_second a1 (mx_sf (mx_sf (mx_sa (mx_sa u 7 ((mx_gf u 0 17)).toNatClampNeg (mx_gf u 0 10)) 8 ((mx_gf (mx_sa u 7 ((mx_gf u 0 17)).toNatClampNeg (mx_gf u 0 10)) 0 17)).toNatClampNeg ((mx_gf (mx_sa u 7 ((mx_gf u 0 17)).toNatClampNeg (mx_gf u 0 10)) 0 8) + (6 : Int32))) 0 11 1) 0 17 ((mx_gf (mx_sf (mx_sa (mx_sa u 7 ((mx_gf u 0 17)).toNatClampNeg (mx_gf u 0 10)) 8 ((mx_gf (mx_sa u 7 ((mx_gf u 0 17)).toNatClampNeg (mx_gf u 0 10)) 0 17)).toNatClampNeg ((mx_gf (mx_sa u 7 ((mx_gf u 0 17)).toNatClampNeg (mx_gf u 0 10)) 0 8) + (6 : Int32))) 0 11 1) 0 17) + (1 : Int32)))) &&& (15 : Int32))) = (mm_controls a1 u) from ((mm_controls_eq a1 u).trans ((if_neg h8).trans ((if_neg h22).trans ((if_neg h35).trans ((if_neg h72).trans ((if_pos h102).trans (if_neg h120))))))).symm)))))))))) (fun h72 => 
        And.intro (fun h78 => 
         And.intro rfl (
         And.intro (Or.inl rfl) (
         And.intro rfl (
         And.intro (fun h102 => 
          congrArg (fun z : mx_S => ((none, z) : Option mx_V × mx_S)) (show (mx_sf (mx_sf (mx_sa (mx_sa u 7 ((mx_gf u 0 17)).toNatClampNeg (mx_gf u 0 10)) 8 ((mx_gf (mx_sa u 7 ((mx_gf u 0 17)).toNatClampNeg (mx_gf u 0 10)) 0 17)).toNatClampNeg ((mx_gf (mx_sa u 7 ((mx_gf u 0 17)).toNatClampNeg (mx_gf u 0 10)) 0 8) + (6 : Int32))) 0 11 0) 0 17 ((mx_gf (mx_sf (mx_sa (mx_sa u 7 ((mx_gf u 0 17)).toNatClampNeg (mx_gf u 0 10)) 8 ((mx_gf (mx_sa u 7 ((mx_gf u 0 17)).toNatClampNeg (mx_gf u 0 10)) 0 17)).toNatClampNeg ((mx_gf (mx_sa u 7 ((mx_gf u 0 17)).toNatClampNeg (mx_gf u 0 10)) 0 8) + (6 : Int32))) 0 11 0) 0 17) + (1 : Int32))) = (mm_controls a1 u) from ((mm_controls_eq a1 u).trans ((if_neg h8).trans ((if_neg h22).trans ((if_neg h35).trans ((if_pos h72).trans ((if_neg h78).trans (if_neg h102))))))).symm)) (fun h102 => 
          And.intro rfl (
          And.intro ⟨_, rfl, trivial⟩ (
          And.intro (fun h120 => 
           And.intro rfl (
           congrArg (fun z : mx_S => ((none, z) : Option mx_V × mx_S)) (show (mx_sf (mx_sf (mx_sf (mx_sa (mx_sa u 7 ((mx_gf u 0 17)).toNatClampNeg (mx_gf u 0 10)) 8 ((mx_gf (mx_sa u 7 ((mx_gf u 0 17)).toNatClampNeg (mx_gf u 0 10)) 0 17)).toNatClampNeg ((mx_gf (mx_sa u 7 ((mx_gf u 0 17)).toNatClampNeg (mx_gf u 0 10)) 0 8) + (6 : Int32))) 0 11 0) 0 17 ((mx_gf (mx_sf (mx_sa (mx_sa u 7 ((mx_gf u 0 17)).toNatClampNeg (mx_gf u 0 10)) 8 ((mx_gf (mx_sa u 7 ((mx_gf u 0 17)).toNatClampNeg (mx_gf u 0 10)) 0 17)).toNatClampNeg ((mx_gf (mx_sa u 7 ((mx_gf u 0 17)).toNatClampNeg (mx_gf u 0 10)) 0 8) + (6 : Int32))) 0 11 0) 0 17) + (1 : Int32))) 0 9 (mx_gf (mx_sf (mx_sf (mx_sa (mx_sa u 7 ((mx_gf u 0 17)).toNatClampNeg (mx_gf u 0 10)) 8 ((mx_gf (mx_sa u 7 ((mx_gf u 0 17)).toNatClampNeg (mx_gf u 0 10)) 0 17)).toNatClampNeg ((mx_gf (mx_sa u 7 ((mx_gf u 0 17)).toNatClampNeg (mx_gf u 0 10)) 0 8) + (6 : Int32))) 0 11 0) 0 17 ((mx_gf (mx_sf (mx_sa (mx_sa u 7 ((mx_gf u 0 17)).toNatClampNeg (mx_gf u 0 10)) 8 ((mx_gf (mx_sa u 7 ((mx_gf u 0 17)).toNatClampNeg (mx_gf u 0 10)) 0 17)).toNatClampNeg ((mx_gf (mx_sa u 7 ((mx_gf u 0 17)).toNatClampNeg (mx_gf u 0 10)) 0 8) + (6 : Int32))) 0 11 0) 0 17) + (1 : Int32))) 0 9)) = (mm_controls a1 u) from ((mm_controls_eq a1 u).trans ((if_neg h8).trans ((if_neg h22).trans ((if_neg h35).trans ((if_pos h72).trans ((if_neg h78).trans ((if_pos h102).trans (if_pos h120)))))))).symm))) (fun h120 => 
           And.intro rfl (
           congrArg (fun z : mx_S => ((none, z) : Option mx_V × mx_S)) (show (mx_sf (mx_sf (mx_sf (mx_sa (mx_sa u 7 ((mx_gf u 0 17)).toNatClampNeg (mx_gf u 0 10)) 8 ((mx_gf (mx_sa u 7 ((mx_gf u 0 17)).toNatClampNeg (mx_gf u 0 10)) 0 17)).toNatClampNeg ((mx_gf (mx_sa u 7 ((mx_gf u 0 17)).toNatClampNeg (mx_gf u 0 10)) 0 8) + (6 : Int32))) 0 11 0) 0 17 ((mx_gf (mx_sf (mx_sa (mx_sa u 7 ((mx_gf u 0 17)).toNatClampNeg (mx_gf u 0 10)) 8 ((mx_gf (mx_sa u 7 ((mx_gf u 0 17)).toNatClampNeg (mx_gf u 0 10)) 0 17)).toNatClampNeg ((mx_gf (mx_sa u 7 ((mx_gf u 0 17)).toNatClampNeg (mx_gf u 0 10)) 0 8) + (6 : Int32))) 0 11 0) 0 17) + (1 : Int32))) 0 9 ((mm_second a1 (mx_sf (mx_sf (mx_sa (mx_sa u 7 ((mx_gf u 0 17)).toNatClampNeg (mx_gf u 0 10)) 8 ((mx_gf (mx_sa u 7 ((mx_gf u 0 17)).toNatClampNeg (mx_gf u 0 10)) 0 17)).toNatClampNeg ((mx_gf (mx_sa u 7 ((mx_gf u 0 17)).toNatClampNeg (mx_gf u 0 10)) 0 8) + (6 : Int32))) 0 11 0) 0 17 ((mx_gf (mx_sf (mx_sa (mx_sa u 7 ((mx_gf u 0 17)).toNatClampNeg (mx_gf u 0 10)) 8 ((mx_gf (mx_sa u 7 ((mx_gf u 0 17)).toNatClampNeg (mx_gf u 0 10)) 0 17)).toNatClampNeg ((mx_gf (mx_sa u 7 ((mx_gf u 0 17)).toNatClampNeg (mx_gf u 0 10)) 0 8) + (6 : Int32))) 0 11 0) 0 17) + (1 : Int32)))) &&& (15 : Int32))) = (mm_controls a1 u) from ((mm_controls_eq a1 u).trans ((if_neg h8).trans ((if_neg h22).trans ((if_neg h35).trans ((if_pos h72).trans ((if_neg h78).trans ((if_pos h102).trans (if_neg h120)))))))).symm)))))))))) (fun h78 => 
         And.intro rfl (
         And.intro (Or.inr rfl) (
         And.intro rfl (
         And.intro (fun h102 => 
          congrArg (fun z : mx_S => ((none, z) : Option mx_V × mx_S)) (show (mx_sf (mx_sf (mx_sa (mx_sa u 7 ((mx_gf u 0 17)).toNatClampNeg (mx_gf u 0 10)) 8 ((mx_gf (mx_sa u 7 ((mx_gf u 0 17)).toNatClampNeg (mx_gf u 0 10)) 0 17)).toNatClampNeg ((mx_gf (mx_sa u 7 ((mx_gf u 0 17)).toNatClampNeg (mx_gf u 0 10)) 0 8) + (6 : Int32))) 0 11 1) 0 17 ((mx_gf (mx_sf (mx_sa (mx_sa u 7 ((mx_gf u 0 17)).toNatClampNeg (mx_gf u 0 10)) 8 ((mx_gf (mx_sa u 7 ((mx_gf u 0 17)).toNatClampNeg (mx_gf u 0 10)) 0 17)).toNatClampNeg ((mx_gf (mx_sa u 7 ((mx_gf u 0 17)).toNatClampNeg (mx_gf u 0 10)) 0 8) + (6 : Int32))) 0 11 1) 0 17) + (1 : Int32))) = (mm_controls a1 u) from ((mm_controls_eq a1 u).trans ((if_neg h8).trans ((if_neg h22).trans ((if_neg h35).trans ((if_pos h72).trans ((if_pos h78).trans (if_neg h102))))))).symm)) (fun h102 => 
          And.intro rfl (
          And.intro ⟨_, rfl, trivial⟩ (
          And.intro (fun h120 => 
           And.intro rfl (
           congrArg (fun z : mx_S => ((none, z) : Option mx_V × mx_S)) (show (mx_sf (mx_sf (mx_sf (mx_sa (mx_sa u 7 ((mx_gf u 0 17)).toNatClampNeg (mx_gf u 0 10)) 8 ((mx_gf (mx_sa u 7 ((mx_gf u 0 17)).toNatClampNeg (mx_gf u 0 10)) 0 17)).toNatClampNeg ((mx_gf (mx_sa u 7 ((mx_gf u 0 17)).toNatClampNeg (mx_gf u 0 10)) 0 8) + (6 : Int32))) 0 11 1) 0 17 ((mx_gf (mx_sf (mx_sa (mx_sa u 7 ((mx_gf u 0 17)).toNatClampNeg (mx_gf u 0 10)) 8 ((mx_gf (mx_sa u 7 ((mx_gf u 0 17)).toNatClampNeg (mx_gf u 0 10)) 0 17)).toNatClampNeg ((mx_gf (mx_sa u 7 ((mx_gf u 0 17)).toNatClampNeg (mx_gf u 0 10)) 0 8) + (6 : Int32))) 0 11 1) 0 17) + (1 : Int32))) 0 9 (mx_gf (mx_sf (mx_sf (mx_sa (mx_sa u 7 ((mx_gf u 0 17)).toNatClampNeg (mx_gf u 0 10)) 8 ((mx_gf (mx_sa u 7 ((mx_gf u 0 17)).toNatClampNeg (mx_gf u 0 10)) 0 17)).toNatClampNeg ((mx_gf (mx_sa u 7 ((mx_gf u 0 17)).toNatClampNeg (mx_gf u 0 10)) 0 8) + (6 : Int32))) 0 11 1) 0 17 ((mx_gf (mx_sf (mx_sa (mx_sa u 7 ((mx_gf u 0 17)).toNatClampNeg (mx_gf u 0 10)) 8 ((mx_gf (mx_sa u 7 ((mx_gf u 0 17)).toNatClampNeg (mx_gf u 0 10)) 0 17)).toNatClampNeg ((mx_gf (mx_sa u 7 ((mx_gf u 0 17)).toNatClampNeg (mx_gf u 0 10)) 0 8) + (6 : Int32))) 0 11 1) 0 17) + (1 : Int32))) 0 9)) = (mm_controls a1 u) from ((mm_controls_eq a1 u).trans ((if_neg h8).trans ((if_neg h22).trans ((if_neg h35).trans ((if_pos h72).trans ((if_pos h78).trans ((if_pos h102).trans (if_pos h120)))))))).symm))) (fun h120 => 
           And.intro rfl (
           congrArg (fun z : mx_S => ((none, z) : Option mx_V × mx_S)) (show (mx_sf (mx_sf (mx_sf (mx_sa (mx_sa u 7 ((mx_gf u 0 17)).toNatClampNeg (mx_gf u 0 10)) 8 ((mx_gf (mx_sa u 7 ((mx_gf u 0 17)).toNatClampNeg (mx_gf u 0 10)) 0 17)).toNatClampNeg ((mx_gf (mx_sa u 7 ((mx_gf u 0 17)).toNatClampNeg (mx_gf u 0 10)) 0 8) + (6 : Int32))) 0 11 1) 0 17 ((mx_gf (mx_sf (mx_sa (mx_sa u 7 ((mx_gf u 0 17)).toNatClampNeg (mx_gf u 0 10)) 8 ((mx_gf (mx_sa u 7 ((mx_gf u 0 17)).toNatClampNeg (mx_gf u 0 10)) 0 17)).toNatClampNeg ((mx_gf (mx_sa u 7 ((mx_gf u 0 17)).toNatClampNeg (mx_gf u 0 10)) 0 8) + (6 : Int32))) 0 11 1) 0 17) + (1 : Int32))) 0 9 ((mm_second a1 (mx_sf (mx_sf (mx_sa (mx_sa u 7 ((mx_gf u 0 17)).toNatClampNeg (mx_gf u 0 10)) 8 ((mx_gf (mx_sa u 7 ((mx_gf u 0 17)).toNatClampNeg (mx_gf u 0 10)) 0 17)).toNatClampNeg ((mx_gf (mx_sa u 7 ((mx_gf u 0 17)).toNatClampNeg (mx_gf u 0 10)) 0 8) + (6 : Int32))) 0 11 1) 0 17 ((mx_gf (mx_sf (mx_sa (mx_sa u 7 ((mx_gf u 0 17)).toNatClampNeg (mx_gf u 0 10)) 8 ((mx_gf (mx_sa u 7 ((mx_gf u 0 17)).toNatClampNeg (mx_gf u 0 10)) 0 17)).toNatClampNeg ((mx_gf (mx_sa u 7 ((mx_gf u 0 17)).toNatClampNeg (mx_gf u 0 10)) 0 8) + (6 : Int32))) 0 11 1) 0 17) + (1 : Int32)))) &&& (15 : Int32))) = (mm_controls a1 u) from ((mm_controls_eq a1 u).trans ((if_neg h8).trans ((if_neg h22).trans ((if_neg h35).trans ((if_pos h72).trans ((if_pos h78).trans ((if_pos h102).trans (if_neg h120)))))))).symm)))))))))))))) (fun h35 => 
       And.intro rfl (
       And.intro ⟨_, rfl, trivial⟩ (
       And.intro ((((hp.2 h8).1 h22).2 h35).1) (
       And.intro ((((hp.2 h8).1 h22).2 h35).2) (
       And.intro (fun h72 => 
        And.intro rfl (
        And.intro (Or.inr rfl) (
        And.intro rfl (
        And.intro (fun h102 => 
         congrArg (fun z : mx_S => ((none, z) : Option mx_V × mx_S)) (show (mx_sf (mx_sf (mx_sa (mx_sa u 7 ((mx_gf u 0 17)).toNatClampNeg (mm_second a1 u)) 8 ((mx_gf (mx_sa u 7 ((mx_gf u 0 17)).toNatClampNeg (mm_second a1 u)) 0 17)).toNatClampNeg ((mx_gf (mx_sa u 7 ((mx_gf u 0 17)).toNatClampNeg (mm_second a1 u)) 0 8) + (6 : Int32))) 0 11 1) 0 17 ((mx_gf (mx_sf (mx_sa (mx_sa u 7 ((mx_gf u 0 17)).toNatClampNeg (mm_second a1 u)) 8 ((mx_gf (mx_sa u 7 ((mx_gf u 0 17)).toNatClampNeg (mm_second a1 u)) 0 17)).toNatClampNeg ((mx_gf (mx_sa u 7 ((mx_gf u 0 17)).toNatClampNeg (mm_second a1 u)) 0 8) + (6 : Int32))) 0 11 1) 0 17) + (1 : Int32))) = (mm_controls a1 u) from ((mm_controls_eq a1 u).trans ((if_neg h8).trans ((if_neg h22).trans ((if_pos h35).trans ((if_neg h72).trans (if_neg h102)))))).symm)) (fun h102 => 
         And.intro rfl (
         And.intro ⟨_, rfl, trivial⟩ (
         And.intro (fun h120 => 
          And.intro rfl (
          congrArg (fun z : mx_S => ((none, z) : Option mx_V × mx_S)) (show (mx_sf (mx_sf (mx_sf (mx_sa (mx_sa u 7 ((mx_gf u 0 17)).toNatClampNeg (mm_second a1 u)) 8 ((mx_gf (mx_sa u 7 ((mx_gf u 0 17)).toNatClampNeg (mm_second a1 u)) 0 17)).toNatClampNeg ((mx_gf (mx_sa u 7 ((mx_gf u 0 17)).toNatClampNeg (mm_second a1 u)) 0 8) + (6 : Int32))) 0 11 1) 0 17 ((mx_gf (mx_sf (mx_sa (mx_sa u 7 ((mx_gf u 0 17)).toNatClampNeg (mm_second a1 u)) 8 ((mx_gf (mx_sa u 7 ((mx_gf u 0 17)).toNatClampNeg (mm_second a1 u)) 0 17)).toNatClampNeg ((mx_gf (mx_sa u 7 ((mx_gf u 0 17)).toNatClampNeg (mm_second a1 u)) 0 8) + (6 : Int32))) 0 11 1) 0 17) + (1 : Int32))) 0 9 (mx_gf (mx_sf (mx_sf (mx_sa (mx_sa u 7 ((mx_gf u 0 17)).toNatClampNeg (mm_second a1 u)) 8 ((mx_gf (mx_sa u 7 ((mx_gf u 0 17)).toNatClampNeg (mm_second a1 u)) 0 17)).toNatClampNeg ((mx_gf (mx_sa u 7 ((mx_gf u 0 17)).toNatClampNeg (mm_second a1 u)) 0 8) + (6 : Int32))) 0 11 1) 0 17 ((mx_gf (mx_sf (mx_sa (mx_sa u 7 ((mx_gf u 0 17)).toNatClampNeg (mm_second a1 u)) 8 ((mx_gf (mx_sa u 7 ((mx_gf u 0 17)).toNatClampNeg (mm_second a1 u)) 0 17)).toNatClampNeg ((mx_gf (mx_sa u 7 ((mx_gf u 0 17)).toNatClampNeg (mm_second a1 u)) 0 8) + (6 : Int32))) 0 11 1) 0 17) + (1 : Int32))) 0 9)) = (mm_controls a1 u) from ((mm_controls_eq a1 u).trans ((if_neg h8).trans ((if_neg h22).trans ((if_pos h35).trans ((if_neg h72).trans ((if_pos h102).trans (if_pos h120))))))).symm))) (fun h120 => 
          And.intro rfl (
          congrArg (fun z : mx_S => ((none, z) : Option mx_V × mx_S)) (show (mx_sf (mx_sf (mx_sf (mx_sa (mx_sa u 7 ((mx_gf u 0 17)).toNatClampNeg (mm_second a1 u)) 8 ((mx_gf (mx_sa u 7 ((mx_gf u 0 17)).toNatClampNeg (mm_second a1 u)) 0 17)).toNatClampNeg ((mx_gf (mx_sa u 7 ((mx_gf u 0 17)).toNatClampNeg (mm_second a1 u)) 0 8) + (6 : Int32))) 0 11 1) 0 17 ((mx_gf (mx_sf (mx_sa (mx_sa u 7 ((mx_gf u 0 17)).toNatClampNeg (mm_second a1 u)) 8 ((mx_gf (mx_sa u 7 ((mx_gf u 0 17)).toNatClampNeg (mm_second a1 u)) 0 17)).toNatClampNeg ((mx_gf (mx_sa u 7 ((mx_gf u 0 17)).toNatClampNeg (mm_second a1 u)) 0 8) + (6 : Int32))) 0 11 1) 0 17) + (1 : Int32))) 0 9 ((mm_second a1 (mx_sf (mx_sf (mx_sa (mx_sa u 7 ((mx_gf u 0 17)).toNatClampNeg (mm_second a1 u)) 8 ((mx_gf (mx_sa u 7 ((mx_gf u 0 17)).toNatClampNeg (mm_second a1 u)) 0 17)).toNatClampNeg ((mx_gf (mx_sa u 7 ((mx_gf u 0 17)).toNatClampNeg (mm_second a1 u)) 0 8) + (6 : Int32))) 0 11 1) 0 17 ((mx_gf (mx_sf (mx_sa (mx_sa u 7 ((mx_gf u 0 17)).toNatClampNeg (mm_second a1 u)) 8 ((mx_gf (mx_sa u 7 ((mx_gf u 0 17)).toNatClampNeg (mm_second a1 u)) 0 17)).toNatClampNeg ((mx_gf (mx_sa u 7 ((mx_gf u 0 17)).toNatClampNeg (mm_second a1 u)) 0 8) + (6 : Int32))) 0 11 1) 0 17) + (1 : Int32)))) &&& (15 : Int32))) = (mm_controls a1 u) from ((mm_controls_eq a1 u).trans ((if_neg h8).trans ((if_neg h22).trans ((if_pos h35).trans ((if_neg h72).trans ((if_pos h102).trans (if_neg h120))))))).symm)))))))))) (fun h72 => 
        And.intro (fun h78 => 
         And.intro rfl (
         And.intro (Or.inl rfl) (
         And.intro rfl (
         And.intro (fun h102 => 
          congrArg (fun z : mx_S => ((none, z) : Option mx_V × mx_S)) (show (mx_sf (mx_sf (mx_sa (mx_sa u 7 ((mx_gf u 0 17)).toNatClampNeg (mm_second a1 u)) 8 ((mx_gf (mx_sa u 7 ((mx_gf u 0 17)).toNatClampNeg (mm_second a1 u)) 0 17)).toNatClampNeg ((mx_gf (mx_sa u 7 ((mx_gf u 0 17)).toNatClampNeg (mm_second a1 u)) 0 8) + (6 : Int32))) 0 11 0) 0 17 ((mx_gf (mx_sf (mx_sa (mx_sa u 7 ((mx_gf u 0 17)).toNatClampNeg (mm_second a1 u)) 8 ((mx_gf (mx_sa u 7 ((mx_gf u 0 17)).toNatClampNeg (mm_second a1 u)) 0 17)).toNatClampNeg ((mx_gf (mx_sa u 7 ((mx_gf u 0 17)).toNatClampNeg (mm_second a1 u)) 0 8) + (6 : Int32))) 0 11 0) 0 17) + (1 : Int32))) = (mm_controls a1 u) from ((mm_controls_eq a1 u).trans ((if_neg h8).trans ((if_neg h22).trans ((if_pos h35).trans ((if_pos h72).trans ((if_neg h78).trans (if_neg h102))))))).symm)) (fun h102 => 
          And.intro rfl (
          And.intro ⟨_, rfl, trivial⟩ (
          And.intro (fun h120 => 
           And.intro rfl (
           congrArg (fun z : mx_S => ((none, z) : Option mx_V × mx_S)) (show (mx_sf (mx_sf (mx_sf (mx_sa (mx_sa u 7 ((mx_gf u 0 17)).toNatClampNeg (mm_second a1 u)) 8 ((mx_gf (mx_sa u 7 ((mx_gf u 0 17)).toNatClampNeg (mm_second a1 u)) 0 17)).toNatClampNeg ((mx_gf (mx_sa u 7 ((mx_gf u 0 17)).toNatClampNeg (mm_second a1 u)) 0 8) + (6 : Int32))) 0 11 0) 0 17 ((mx_gf (mx_sf (mx_sa (mx_sa u 7 ((mx_gf u 0 17)).toNatClampNeg (mm_second a1 u)) 8 ((mx_gf (mx_sa u 7 ((mx_gf u 0 17)).toNatClampNeg (mm_second a1 u)) 0 17)).toNatClampNeg ((mx_gf (mx_sa u 7 ((mx_gf u 0 17)).toNatClampNeg (mm_second a1 u)) 0 8) + (6 : Int32))) 0 11 0) 0 17) + (1 : Int32))) 0 9 (mx_gf (mx_sf (mx_sf (mx_sa (mx_sa u 7 ((mx_gf u 0 17)).toNatClampNeg (mm_second a1 u)) 8 ((mx_gf (mx_sa u 7 ((mx_gf u 0 17)).toNatClampNeg (mm_second a1 u)) 0 17)).toNatClampNeg ((mx_gf (mx_sa u 7 ((mx_gf u 0 17)).toNatClampNeg (mm_second a1 u)) 0 8) + (6 : Int32))) 0 11 0) 0 17 ((mx_gf (mx_sf (mx_sa (mx_sa u 7 ((mx_gf u 0 17)).toNatClampNeg (mm_second a1 u)) 8 ((mx_gf (mx_sa u 7 ((mx_gf u 0 17)).toNatClampNeg (mm_second a1 u)) 0 17)).toNatClampNeg ((mx_gf (mx_sa u 7 ((mx_gf u 0 17)).toNatClampNeg (mm_second a1 u)) 0 8) + (6 : Int32))) 0 11 0) 0 17) + (1 : Int32))) 0 9)) = (mm_controls a1 u) from ((mm_controls_eq a1 u).trans ((if_neg h8).trans ((if_neg h22).trans ((if_pos h35).trans ((if_pos h72).trans ((if_neg h78).trans ((if_pos h102).trans (if_pos h120)))))))).symm))) (fun h120 => 
           And.intro rfl (
           congrArg (fun z : mx_S => ((none, z) : Option mx_V × mx_S)) (show (mx_sf (mx_sf (mx_sf (mx_sa (mx_sa u 7 ((mx_gf u 0 17)).toNatClampNeg (mm_second a1 u)) 8 ((mx_gf (mx_sa u 7 ((mx_gf u 0 17)).toNatClampNeg (mm_second a1 u)) 0 17)).toNatClampNeg ((mx_gf (mx_sa u 7 ((mx_gf u 0 17)).toNatClampNeg (mm_second a1 u)) 0 8) + (6 : Int32))) 0 11 0) 0 17 ((mx_gf (mx_sf (mx_sa (mx_sa u 7 ((mx_gf u 0 17)).toNatClampNeg (mm_second a1 u)) 8 ((mx_gf (mx_sa u 7 ((mx_gf u 0 17)).toNatClampNeg (mm_second a1 u)) 0 17)).toNatClampNeg ((mx_gf (mx_sa u 7 ((mx_gf u 0 17)).toNatClampNeg (mm_second a1 u)) 0 8) + (6 : Int32))) 0 11 0) 0 17) + (1 : Int32))) 0 9 ((mm_second a1 (mx_sf (mx_sf (mx_sa (mx_sa u 7 ((mx_gf u 0 17)).toNatClampNeg (mm_second a1 u)) 8 ((mx_gf (mx_sa u 7 ((mx_gf u 0 17)).toNatClampNeg (mm_second a1 u)) 0 17)).toNatClampNeg ((mx_gf (mx_sa u 7 ((mx_gf u 0 17)).toNatClampNeg (mm_second a1 u)) 0 8) + (6 : Int32))) 0 11 0) 0 17 ((mx_gf (mx_sf (mx_sa (mx_sa u 7 ((mx_gf u 0 17)).toNatClampNeg (mm_second a1 u)) 8 ((mx_gf (mx_sa u 7 ((mx_gf u 0 17)).toNatClampNeg (mm_second a1 u)) 0 17)).toNatClampNeg ((mx_gf (mx_sa u 7 ((mx_gf u 0 17)).toNatClampNeg (mm_second a1 u)) 0 8) + (6 : Int32))) 0 11 0) 0 17) + (1 : Int32)))) &&& (15 : Int32))) = (mm_controls a1 u) from ((mm_controls_eq a1 u).trans ((if_neg h8).trans ((if_neg h22).trans ((if_pos h35).trans ((if_pos h72).trans ((if_neg h78).trans ((if_pos h102).trans (if_neg h120)))))))).symm)))))))))) (fun h78 => 
         And.intro rfl (
         And.intro (Or.inr rfl) (
         And.intro rfl (
         And.intro (fun h102 => 
          congrArg (fun z : mx_S => ((none, z) : Option mx_V × mx_S)) (show (mx_sf (mx_sf (mx_sa (mx_sa u 7 ((mx_gf u 0 17)).toNatClampNeg (mm_second a1 u)) 8 ((mx_gf (mx_sa u 7 ((mx_gf u 0 17)).toNatClampNeg (mm_second a1 u)) 0 17)).toNatClampNeg ((mx_gf (mx_sa u 7 ((mx_gf u 0 17)).toNatClampNeg (mm_second a1 u)) 0 8) + (6 : Int32))) 0 11 1) 0 17 ((mx_gf (mx_sf (mx_sa (mx_sa u 7 ((mx_gf u 0 17)).toNatClampNeg (mm_second a1 u)) 8 ((mx_gf (mx_sa u 7 ((mx_gf u 0 17)).toNatClampNeg (mm_second a1 u)) 0 17)).toNatClampNeg ((mx_gf (mx_sa u 7 ((mx_gf u 0 17)).toNatClampNeg (mm_second a1 u)) 0 8) + (6 : Int32))) 0 11 1) 0 17) + (1 : Int32))) = (mm_controls a1 u) from ((mm_controls_eq a1 u).trans ((if_neg h8).trans ((if_neg h22).trans ((if_pos h35).trans ((if_pos h72).trans ((if_pos h78).trans (if_neg h102))))))).symm)) (fun h102 => 
          And.intro rfl (
          And.intro ⟨_, rfl, trivial⟩ (
          And.intro (fun h120 => 
           And.intro rfl (
           congrArg (fun z : mx_S => ((none, z) : Option mx_V × mx_S)) (show (mx_sf (mx_sf (mx_sf (mx_sa (mx_sa u 7 ((mx_gf u 0 17)).toNatClampNeg (mm_second a1 u)) 8 ((mx_gf (mx_sa u 7 ((mx_gf u 0 17)).toNatClampNeg (mm_second a1 u)) 0 17)).toNatClampNeg ((mx_gf (mx_sa u 7 ((mx_gf u 0 17)).toNatClampNeg (mm_second a1 u)) 0 8) + (6 : Int32))) 0 11 1) 0 17 ((mx_gf (mx_sf (mx_sa (mx_sa u 7 ((mx_gf u 0 17)).toNatClampNeg (mm_second a1 u)) 8 ((mx_gf (mx_sa u 7 ((mx_gf u 0 17)).toNatClampNeg (mm_second a1 u)) 0 17)).toNatClampNeg ((mx_gf (mx_sa u 7 ((mx_gf u 0 17)).toNatClampNeg (mm_second a1 u)) 0 8) + (6 : Int32))) 0 11 1) 0 17) + (1 : Int32))) 0 9 (mx_gf (mx_sf (mx_sf (mx_sa (mx_sa u 7 ((mx_gf u 0 17)).toNatClampNeg (mm_second a1 u)) 8 ((mx_gf (mx_sa u 7 ((mx_gf u 0 17)).toNatClampNeg (mm_second a1 u)) 0 17)).toNatClampNeg ((mx_gf (mx_sa u 7 ((mx_gf u 0 17)).toNatClampNeg (mm_second a1 u)) 0 8) + (6 : Int32))) 0 11 1) 0 17 ((mx_gf (mx_sf (mx_sa (mx_sa u 7 ((mx_gf u 0 17)).toNatClampNeg (mm_second a1 u)) 8 ((mx_gf (mx_sa u 7 ((mx_gf u 0 17)).toNatClampNeg (mm_second a1 u)) 0 17)).toNatClampNeg ((mx_gf (mx_sa u 7 ((mx_gf u 0 17)).toNatClampNeg (mm_second a1 u)) 0 8) + (6 : Int32))) 0 11 1) 0 17) + (1 : Int32))) 0 9)) = (mm_controls a1 u) from ((mm_controls_eq a1 u).trans ((if_neg h8).trans ((if_neg h22).trans ((if_pos h35).trans ((if_pos h72).trans ((if_pos h78).trans ((if_pos h102).trans (if_pos h120)))))))).symm))) (fun h120 => 
           And.intro rfl (
           congrArg (fun z : mx_S => ((none, z) : Option mx_V × mx_S)) (show (mx_sf (mx_sf (mx_sf (mx_sa (mx_sa u 7 ((mx_gf u 0 17)).toNatClampNeg (mm_second a1 u)) 8 ((mx_gf (mx_sa u 7 ((mx_gf u 0 17)).toNatClampNeg (mm_second a1 u)) 0 17)).toNatClampNeg ((mx_gf (mx_sa u 7 ((mx_gf u 0 17)).toNatClampNeg (mm_second a1 u)) 0 8) + (6 : Int32))) 0 11 1) 0 17 ((mx_gf (mx_sf (mx_sa (mx_sa u 7 ((mx_gf u 0 17)).toNatClampNeg (mm_second a1 u)) 8 ((mx_gf (mx_sa u 7 ((mx_gf u 0 17)).toNatClampNeg (mm_second a1 u)) 0 17)).toNatClampNeg ((mx_gf (mx_sa u 7 ((mx_gf u 0 17)).toNatClampNeg (mm_second a1 u)) 0 8) + (6 : Int32))) 0 11 1) 0 17) + (1 : Int32))) 0 9 ((mm_second a1 (mx_sf (mx_sf (mx_sa (mx_sa u 7 ((mx_gf u 0 17)).toNatClampNeg (mm_second a1 u)) 8 ((mx_gf (mx_sa u 7 ((mx_gf u 0 17)).toNatClampNeg (mm_second a1 u)) 0 17)).toNatClampNeg ((mx_gf (mx_sa u 7 ((mx_gf u 0 17)).toNatClampNeg (mm_second a1 u)) 0 8) + (6 : Int32))) 0 11 1) 0 17 ((mx_gf (mx_sf (mx_sa (mx_sa u 7 ((mx_gf u 0 17)).toNatClampNeg (mm_second a1 u)) 8 ((mx_gf (mx_sa u 7 ((mx_gf u 0 17)).toNatClampNeg (mm_second a1 u)) 0 17)).toNatClampNeg ((mx_gf (mx_sa u 7 ((mx_gf u 0 17)).toNatClampNeg (mm_second a1 u)) 0 8) + (6 : Int32))) 0 11 1) 0 17) + (1 : Int32)))) &&& (15 : Int32))) = (mm_controls a1 u) from ((mm_controls_eq a1 u).trans ((if_neg h8).trans ((if_neg h22).trans ((if_pos h35).trans ((if_pos h72).trans ((if_pos h78).trans ((if_pos h102).trans (if_neg h120)))))))).symm))))))))))))))))) (fun h22 => 
      And.intro (((hp.2 h8).2 h22).1) (
      And.intro (((hp.2 h8).2 h22).2) (
      And.intro (fun h72 => 
       And.intro rfl (
       And.intro (Or.inr rfl) (
       And.intro rfl (
       And.intro (fun h102 => 
        congrArg (fun z : mx_S => ((none, z) : Option mx_V × mx_S)) (show (mx_sf (mx_sf (mx_sa (mx_sa u 7 ((mx_gf u 0 17)).toNatClampNeg (a1.toUInt32 >>> ((12 : Int32).toUInt32 &&& Int32.toUInt32 31)).toInt32) 8 ((mx_gf (mx_sa u 7 ((mx_gf u 0 17)).toNatClampNeg (a1.toUInt32 >>> ((12 : Int32).toUInt32 &&& Int32.toUInt32 31)).toInt32) 0 17)).toNatClampNeg ((mx_gf (mx_sa u 7 ((mx_gf u 0 17)).toNatClampNeg (a1.toUInt32 >>> ((12 : Int32).toUInt32 &&& Int32.toUInt32 31)).toInt32) 0 8) + (6 : Int32))) 0 11 1) 0 17 ((mx_gf (mx_sf (mx_sa (mx_sa u 7 ((mx_gf u 0 17)).toNatClampNeg (a1.toUInt32 >>> ((12 : Int32).toUInt32 &&& Int32.toUInt32 31)).toInt32) 8 ((mx_gf (mx_sa u 7 ((mx_gf u 0 17)).toNatClampNeg (a1.toUInt32 >>> ((12 : Int32).toUInt32 &&& Int32.toUInt32 31)).toInt32) 0 17)).toNatClampNeg ((mx_gf (mx_sa u 7 ((mx_gf u 0 17)).toNatClampNeg (a1.toUInt32 >>> ((12 : Int32).toUInt32 &&& Int32.toUInt32 31)).toInt32) 0 8) + (6 : Int32))) 0 11 1) 0 17) + (1 : Int32))) = (mm_controls a1 u) from ((mm_controls_eq a1 u).trans ((if_neg h8).trans ((if_pos h22).trans ((if_neg h72).trans (if_neg h102))))).symm)) (fun h102 => 
        And.intro rfl (
        And.intro ⟨_, rfl, trivial⟩ (
        And.intro (fun h120 => 
         And.intro rfl (
         congrArg (fun z : mx_S => ((none, z) : Option mx_V × mx_S)) (show (mx_sf (mx_sf (mx_sf (mx_sa (mx_sa u 7 ((mx_gf u 0 17)).toNatClampNeg (a1.toUInt32 >>> ((12 : Int32).toUInt32 &&& Int32.toUInt32 31)).toInt32) 8 ((mx_gf (mx_sa u 7 ((mx_gf u 0 17)).toNatClampNeg (a1.toUInt32 >>> ((12 : Int32).toUInt32 &&& Int32.toUInt32 31)).toInt32) 0 17)).toNatClampNeg ((mx_gf (mx_sa u 7 ((mx_gf u 0 17)).toNatClampNeg (a1.toUInt32 >>> ((12 : Int32).toUInt32 &&& Int32.toUInt32 31)).toInt32) 0 8) + (6 : Int32))) 0 11 1) 0 17 ((mx_gf (mx_sf (mx_sa (mx_sa u 7 ((mx_gf u 0 17)).toNatClampNeg (a1.toUInt32 >>> ((12 : Int32).toUInt32 &&& Int32.toUInt32 31)).toInt32) 8 ((mx_gf (mx_sa u 7 ((mx_gf u 0 17)).toNatClampNeg (a1.toUInt32 >>> ((12 : Int32).toUInt32 &&& Int32.toUInt32 31)).toInt32) 0 17)).toNatClampNeg ((mx_gf (mx_sa u 7 ((mx_gf u 0 17)).toNatClampNeg (a1.toUInt32 >>> ((12 : Int32).toUInt32 &&& Int32.toUInt32 31)).toInt32) 0 8) + (6 : Int32))) 0 11 1) 0 17) + (1 : Int32))) 0 9 (mx_gf (mx_sf (mx_sf (mx_sa (mx_sa u 7 ((mx_gf u 0 17)).toNatClampNeg (a1.toUInt32 >>> ((12 : Int32).toUInt32 &&& Int32.toUInt32 31)).toInt32) 8 ((mx_gf (mx_sa u 7 ((mx_gf u 0 17)).toNatClampNeg (a1.toUInt32 >>> ((12 : Int32).toUInt32 &&& Int32.toUInt32 31)).toInt32) 0 17)).toNatClampNeg ((mx_gf (mx_sa u 7 ((mx_gf u 0 17)).toNatClampNeg (a1.toUInt32 >>> ((12 : Int32).toUInt32 &&& Int32.toUInt32 31)).toInt32) 0 8) + (6 : Int32))) 0 11 1) 0 17 ((mx_gf (mx_sf (mx_sa (mx_sa u 7 ((mx_gf u 0 17)).toNatClampNeg (a1.toUInt32 >>> ((12 : Int32).toUInt32 &&& Int32.toUInt32 31)).toInt32) 8 ((mx_gf (mx_sa u 7 ((mx_gf u 0 17)).toNatClampNeg (a1.toUInt32 >>> ((12 : Int32).toUInt32 &&& Int32.toUInt32 31)).toInt32) 0 17)).toNatClampNeg ((mx_gf (mx_sa u 7 ((mx_gf u 0 17)).toNatClampNeg (a1.toUInt32 >>> ((12 : Int32).toUInt32 &&& Int32.toUInt32 31)).toInt32) 0 8) + (6 : Int32))) 0 11 1) 0 17) + (1 : Int32))) 0 9)) = (mm_controls a1 u) from ((mm_controls_eq a1 u).trans ((if_neg h8).trans ((if_pos h22).trans ((if_neg h72).trans ((if_pos h102).trans (if_pos h120)))))).symm))) (fun h120 => 
         And.intro rfl (
         congrArg (fun z : mx_S => ((none, z) : Option mx_V × mx_S)) (show (mx_sf (mx_sf (mx_sf (mx_sa (mx_sa u 7 ((mx_gf u 0 17)).toNatClampNeg (a1.toUInt32 >>> ((12 : Int32).toUInt32 &&& Int32.toUInt32 31)).toInt32) 8 ((mx_gf (mx_sa u 7 ((mx_gf u 0 17)).toNatClampNeg (a1.toUInt32 >>> ((12 : Int32).toUInt32 &&& Int32.toUInt32 31)).toInt32) 0 17)).toNatClampNeg ((mx_gf (mx_sa u 7 ((mx_gf u 0 17)).toNatClampNeg (a1.toUInt32 >>> ((12 : Int32).toUInt32 &&& Int32.toUInt32 31)).toInt32) 0 8) + (6 : Int32))) 0 11 1) 0 17 ((mx_gf (mx_sf (mx_sa (mx_sa u 7 ((mx_gf u 0 17)).toNatClampNeg (a1.toUInt32 >>> ((12 : Int32).toUInt32 &&& Int32.toUInt32 31)).toInt32) 8 ((mx_gf (mx_sa u 7 ((mx_gf u 0 17)).toNatClampNeg (a1.toUInt32 >>> ((12 : Int32).toUInt32 &&& Int32.toUInt32 31)).toInt32) 0 17)).toNatClampNeg ((mx_gf (mx_sa u 7 ((mx_gf u 0 17)).toNatClampNeg (a1.toUInt32 >>> ((12 : Int32).toUInt32 &&& Int32.toUInt32 31)).toInt32) 0 8) + (6 : Int32))) 0 11 1) 0 17) + (1 : Int32))) 0 9 ((mm_second a1 (mx_sf (mx_sf (mx_sa (mx_sa u 7 ((mx_gf u 0 17)).toNatClampNeg (a1.toUInt32 >>> ((12 : Int32).toUInt32 &&& Int32.toUInt32 31)).toInt32) 8 ((mx_gf (mx_sa u 7 ((mx_gf u 0 17)).toNatClampNeg (a1.toUInt32 >>> ((12 : Int32).toUInt32 &&& Int32.toUInt32 31)).toInt32) 0 17)).toNatClampNeg ((mx_gf (mx_sa u 7 ((mx_gf u 0 17)).toNatClampNeg (a1.toUInt32 >>> ((12 : Int32).toUInt32 &&& Int32.toUInt32 31)).toInt32) 0 8) + (6 : Int32))) 0 11 1) 0 17 ((mx_gf (mx_sf (mx_sa (mx_sa u 7 ((mx_gf u 0 17)).toNatClampNeg (a1.toUInt32 >>> ((12 : Int32).toUInt32 &&& Int32.toUInt32 31)).toInt32) 8 ((mx_gf (mx_sa u 7 ((mx_gf u 0 17)).toNatClampNeg (a1.toUInt32 >>> ((12 : Int32).toUInt32 &&& Int32.toUInt32 31)).toInt32) 0 17)).toNatClampNeg ((mx_gf (mx_sa u 7 ((mx_gf u 0 17)).toNatClampNeg (a1.toUInt32 >>> ((12 : Int32).toUInt32 &&& Int32.toUInt32 31)).toInt32) 0 8) + (6 : Int32))) 0 11 1) 0 17) + (1 : Int32)))) &&& (15 : Int32))) = (mm_controls a1 u) from ((mm_controls_eq a1 u).trans ((if_neg h8).trans ((if_pos h22).trans ((if_neg h72).trans ((if_pos h102).trans (if_neg h120)))))).symm)))))))))) (fun h72 => 
       And.intro (fun h78 => 
        And.intro rfl (
        And.intro (Or.inl rfl) (
        And.intro rfl (
        And.intro (fun h102 => 
         congrArg (fun z : mx_S => ((none, z) : Option mx_V × mx_S)) (show (mx_sf (mx_sf (mx_sa (mx_sa u 7 ((mx_gf u 0 17)).toNatClampNeg (a1.toUInt32 >>> ((12 : Int32).toUInt32 &&& Int32.toUInt32 31)).toInt32) 8 ((mx_gf (mx_sa u 7 ((mx_gf u 0 17)).toNatClampNeg (a1.toUInt32 >>> ((12 : Int32).toUInt32 &&& Int32.toUInt32 31)).toInt32) 0 17)).toNatClampNeg ((mx_gf (mx_sa u 7 ((mx_gf u 0 17)).toNatClampNeg (a1.toUInt32 >>> ((12 : Int32).toUInt32 &&& Int32.toUInt32 31)).toInt32) 0 8) + (6 : Int32))) 0 11 0) 0 17 ((mx_gf (mx_sf (mx_sa (mx_sa u 7 ((mx_gf u 0 17)).toNatClampNeg (a1.toUInt32 >>> ((12 : Int32).toUInt32 &&& Int32.toUInt32 31)).toInt32) 8 ((mx_gf (mx_sa u 7 ((mx_gf u 0 17)).toNatClampNeg (a1.toUInt32 >>> ((12 : Int32).toUInt32 &&& Int32.toUInt32 31)).toInt32) 0 17)).toNatClampNeg ((mx_gf (mx_sa u 7 ((mx_gf u 0 17)).toNatClampNeg (a1.toUInt32 >>> ((12 : Int32).toUInt32 &&& Int32.toUInt32 31)).toInt32) 0 8) + (6 : Int32))) 0 11 0) 0 17) + (1 : Int32))) = (mm_controls a1 u) from ((mm_controls_eq a1 u).trans ((if_neg h8).trans ((if_pos h22).trans ((if_pos h72).trans ((if_neg h78).trans (if_neg h102)))))).symm)) (fun h102 => 
         And.intro rfl (
         And.intro ⟨_, rfl, trivial⟩ (
         And.intro (fun h120 => 
          And.intro rfl (
          congrArg (fun z : mx_S => ((none, z) : Option mx_V × mx_S)) (show (mx_sf (mx_sf (mx_sf (mx_sa (mx_sa u 7 ((mx_gf u 0 17)).toNatClampNeg (a1.toUInt32 >>> ((12 : Int32).toUInt32 &&& Int32.toUInt32 31)).toInt32) 8 ((mx_gf (mx_sa u 7 ((mx_gf u 0 17)).toNatClampNeg (a1.toUInt32 >>> ((12 : Int32).toUInt32 &&& Int32.toUInt32 31)).toInt32) 0 17)).toNatClampNeg ((mx_gf (mx_sa u 7 ((mx_gf u 0 17)).toNatClampNeg (a1.toUInt32 >>> ((12 : Int32).toUInt32 &&& Int32.toUInt32 31)).toInt32) 0 8) + (6 : Int32))) 0 11 0) 0 17 ((mx_gf (mx_sf (mx_sa (mx_sa u 7 ((mx_gf u 0 17)).toNatClampNeg (a1.toUInt32 >>> ((12 : Int32).toUInt32 &&& Int32.toUInt32 31)).toInt32) 8 ((mx_gf (mx_sa u 7 ((mx_gf u 0 17)).toNatClampNeg (a1.toUInt32 >>> ((12 : Int32).toUInt32 &&& Int32.toUInt32 31)).toInt32) 0 17)).toNatClampNeg ((mx_gf (mx_sa u 7 ((mx_gf u 0 17)).toNatClampNeg (a1.toUInt32 >>> ((12 : Int32).toUInt32 &&& Int32.toUInt32 31)).toInt32) 0 8) + (6 : Int32))) 0 11 0) 0 17) + (1 : Int32))) 0 9 (mx_gf (mx_sf (mx_sf (mx_sa (mx_sa u 7 ((mx_gf u 0 17)).toNatClampNeg (a1.toUInt32 >>> ((12 : Int32).toUInt32 &&& Int32.toUInt32 31)).toInt32) 8 ((mx_gf (mx_sa u 7 ((mx_gf u 0 17)).toNatClampNeg (a1.toUInt32 >>> ((12 : Int32).toUInt32 &&& Int32.toUInt32 31)).toInt32) 0 17)).toNatClampNeg ((mx_gf (mx_sa u 7 ((mx_gf u 0 17)).toNatClampNeg (a1.toUInt32 >>> ((12 : Int32).toUInt32 &&& Int32.toUInt32 31)).toInt32) 0 8) + (6 : Int32))) 0 11 0) 0 17 ((mx_gf (mx_sf (mx_sa (mx_sa u 7 ((mx_gf u 0 17)).toNatClampNeg (a1.toUInt32 >>> ((12 : Int32).toUInt32 &&& Int32.toUInt32 31)).toInt32) 8 ((mx_gf (mx_sa u 7 ((mx_gf u 0 17)).toNatClampNeg (a1.toUInt32 >>> ((12 : Int32).toUInt32 &&& Int32.toUInt32 31)).toInt32) 0 17)).toNatClampNeg ((mx_gf (mx_sa u 7 ((mx_gf u 0 17)).toNatClampNeg (a1.toUInt32 >>> ((12 : Int32).toUInt32 &&& Int32.toUInt32 31)).toInt32) 0 8) + (6 : Int32))) 0 11 0) 0 17) + (1 : Int32))) 0 9)) = (mm_controls a1 u) from ((mm_controls_eq a1 u).trans ((if_neg h8).trans ((if_pos h22).trans ((if_pos h72).trans ((if_neg h78).trans ((if_pos h102).trans (if_pos h120))))))).symm))) (fun h120 => 
          And.intro rfl (
          congrArg (fun z : mx_S => ((none, z) : Option mx_V × mx_S)) (show (mx_sf (mx_sf (mx_sf (mx_sa (mx_sa u 7 ((mx_gf u 0 17)).toNatClampNeg (a1.toUInt32 >>> ((12 : Int32).toUInt32 &&& Int32.toUInt32 31)).toInt32) 8 ((mx_gf (mx_sa u 7 ((mx_gf u 0 17)).toNatClampNeg (a1.toUInt32 >>> ((12 : Int32).toUInt32 &&& Int32.toUInt32 31)).toInt32) 0 17)).toNatClampNeg ((mx_gf (mx_sa u 7 ((mx_gf u 0 17)).toNatClampNeg (a1.toUInt32 >>> ((12 : Int32).toUInt32 &&& Int32.toUInt32 31)).toInt32) 0 8) + (6 : Int32))) 0 11 0) 0 17 ((mx_gf (mx_sf (mx_sa (mx_sa u 7 ((mx_gf u 0 17)).toNatClampNeg (a1.toUInt32 >>> ((12 : Int32).toUInt32 &&& Int32.toUInt32 31)).toInt32) 8 ((mx_gf (mx_sa u 7 ((mx_gf u 0 17)).toNatClampNeg (a1.toUInt32 >>> ((12 : Int32).toUInt32 &&& Int32.toUInt32 31)).toInt32) 0 17)).toNatClampNeg ((mx_gf (mx_sa u 7 ((mx_gf u 0 17)).toNatClampNeg (a1.toUInt32 >>> ((12 : Int32).toUInt32 &&& Int32.toUInt32 31)).toInt32) 0 8) + (6 : Int32))) 0 11 0) 0 17) + (1 : Int32))) 0 9 ((mm_second a1 (mx_sf (mx_sf (mx_sa (mx_sa u 7 ((mx_gf u 0 17)).toNatClampNeg (a1.toUInt32 >>> ((12 : Int32).toUInt32 &&& Int32.toUInt32 31)).toInt32) 8 ((mx_gf (mx_sa u 7 ((mx_gf u 0 17)).toNatClampNeg (a1.toUInt32 >>> ((12 : Int32).toUInt32 &&& Int32.toUInt32 31)).toInt32) 0 17)).toNatClampNeg ((mx_gf (mx_sa u 7 ((mx_gf u 0 17)).toNatClampNeg (a1.toUInt32 >>> ((12 : Int32).toUInt32 &&& Int32.toUInt32 31)).toInt32) 0 8) + (6 : Int32))) 0 11 0) 0 17 ((mx_gf (mx_sf (mx_sa (mx_sa u 7 ((mx_gf u 0 17)).toNatClampNeg (a1.toUInt32 >>> ((12 : Int32).toUInt32 &&& Int32.toUInt32 31)).toInt32) 8 ((mx_gf (mx_sa u 7 ((mx_gf u 0 17)).toNatClampNeg (a1.toUInt32 >>> ((12 : Int32).toUInt32 &&& Int32.toUInt32 31)).toInt32) 0 17)).toNatClampNeg ((mx_gf (mx_sa u 7 ((mx_gf u 0 17)).toNatClampNeg (a1.toUInt32 >>> ((12 : Int32).toUInt32 &&& Int32.toUInt32 31)).toInt32) 0 8) + (6 : Int32))) 0 11 0) 0 17) + (1 : Int32)))) &&& (15 : Int32))) = (mm_controls a1 u) from ((mm_controls_eq a1 u).trans ((if_neg h8).trans ((if_pos h22).trans ((if_pos h72).trans ((if_neg h78).trans ((if_pos h102).trans (if_neg h120))))))).symm)))))))))) (fun h78 => 
        And.intro rfl (
        And.intro (Or.inr rfl) (
        And.intro rfl (
        And.intro (fun h102 => 
         congrArg (fun z : mx_S => ((none, z) : Option mx_V × mx_S)) (show (mx_sf (mx_sf (mx_sa (mx_sa u 7 ((mx_gf u 0 17)).toNatClampNeg (a1.toUInt32 >>> ((12 : Int32).toUInt32 &&& Int32.toUInt32 31)).toInt32) 8 ((mx_gf (mx_sa u 7 ((mx_gf u 0 17)).toNatClampNeg (a1.toUInt32 >>> ((12 : Int32).toUInt32 &&& Int32.toUInt32 31)).toInt32) 0 17)).toNatClampNeg ((mx_gf (mx_sa u 7 ((mx_gf u 0 17)).toNatClampNeg (a1.toUInt32 >>> ((12 : Int32).toUInt32 &&& Int32.toUInt32 31)).toInt32) 0 8) + (6 : Int32))) 0 11 1) 0 17 ((mx_gf (mx_sf (mx_sa (mx_sa u 7 ((mx_gf u 0 17)).toNatClampNeg (a1.toUInt32 >>> ((12 : Int32).toUInt32 &&& Int32.toUInt32 31)).toInt32) 8 ((mx_gf (mx_sa u 7 ((mx_gf u 0 17)).toNatClampNeg (a1.toUInt32 >>> ((12 : Int32).toUInt32 &&& Int32.toUInt32 31)).toInt32) 0 17)).toNatClampNeg ((mx_gf (mx_sa u 7 ((mx_gf u 0 17)).toNatClampNeg (a1.toUInt32 >>> ((12 : Int32).toUInt32 &&& Int32.toUInt32 31)).toInt32) 0 8) + (6 : Int32))) 0 11 1) 0 17) + (1 : Int32))) = (mm_controls a1 u) from ((mm_controls_eq a1 u).trans ((if_neg h8).trans ((if_pos h22).trans ((if_pos h72).trans ((if_pos h78).trans (if_neg h102)))))).symm)) (fun h102 => 
         And.intro rfl (
         And.intro ⟨_, rfl, trivial⟩ (
         And.intro (fun h120 => 
          And.intro rfl (
          congrArg (fun z : mx_S => ((none, z) : Option mx_V × mx_S)) (show (mx_sf (mx_sf (mx_sf (mx_sa (mx_sa u 7 ((mx_gf u 0 17)).toNatClampNeg (a1.toUInt32 >>> ((12 : Int32).toUInt32 &&& Int32.toUInt32 31)).toInt32) 8 ((mx_gf (mx_sa u 7 ((mx_gf u 0 17)).toNatClampNeg (a1.toUInt32 >>> ((12 : Int32).toUInt32 &&& Int32.toUInt32 31)).toInt32) 0 17)).toNatClampNeg ((mx_gf (mx_sa u 7 ((mx_gf u 0 17)).toNatClampNeg (a1.toUInt32 >>> ((12 : Int32).toUInt32 &&& Int32.toUInt32 31)).toInt32) 0 8) + (6 : Int32))) 0 11 1) 0 17 ((mx_gf (mx_sf (mx_sa (mx_sa u 7 ((mx_gf u 0 17)).toNatClampNeg (a1.toUInt32 >>> ((12 : Int32).toUInt32 &&& Int32.toUInt32 31)).toInt32) 8 ((mx_gf (mx_sa u 7 ((mx_gf u 0 17)).toNatClampNeg (a1.toUInt32 >>> ((12 : Int32).toUInt32 &&& Int32.toUInt32 31)).toInt32) 0 17)).toNatClampNeg ((mx_gf (mx_sa u 7 ((mx_gf u 0 17)).toNatClampNeg (a1.toUInt32 >>> ((12 : Int32).toUInt32 &&& Int32.toUInt32 31)).toInt32) 0 8) + (6 : Int32))) 0 11 1) 0 17) + (1 : Int32))) 0 9 (mx_gf (mx_sf (mx_sf (mx_sa (mx_sa u 7 ((mx_gf u 0 17)).toNatClampNeg (a1.toUInt32 >>> ((12 : Int32).toUInt32 &&& Int32.toUInt32 31)).toInt32) 8 ((mx_gf (mx_sa u 7 ((mx_gf u 0 17)).toNatClampNeg (a1.toUInt32 >>> ((12 : Int32).toUInt32 &&& Int32.toUInt32 31)).toInt32) 0 17)).toNatClampNeg ((mx_gf (mx_sa u 7 ((mx_gf u 0 17)).toNatClampNeg (a1.toUInt32 >>> ((12 : Int32).toUInt32 &&& Int32.toUInt32 31)).toInt32) 0 8) + (6 : Int32))) 0 11 1) 0 17 ((mx_gf (mx_sf (mx_sa (mx_sa u 7 ((mx_gf u 0 17)).toNatClampNeg (a1.toUInt32 >>> ((12 : Int32).toUInt32 &&& Int32.toUInt32 31)).toInt32) 8 ((mx_gf (mx_sa u 7 ((mx_gf u 0 17)).toNatClampNeg (a1.toUInt32 >>> ((12 : Int32).toUInt32 &&& Int32.toUInt32 31)).toInt32) 0 17)).toNatClampNeg ((mx_gf (mx_sa u 7 ((mx_gf u 0 17)).toNatClampNeg (a1.toUInt32 >>> ((12 : Int32).toUInt32 &&& Int32.toUInt32 31)).toInt32) 0 8) + (6 : Int32))) 0 11 1) 0 17) + (1 : Int32))) 0 9)) = (mm_controls a1 u) from ((mm_controls_eq a1 u).trans ((if_neg h8).trans ((if_pos h22).trans ((if_pos h72).trans ((if_pos h78).trans ((if_pos h102).trans (if_pos h120))))))).symm))) (fun h120 => 
          And.intro rfl (
          congrArg (fun z : mx_S => ((none, z) : Option mx_V × mx_S)) (show (mx_sf (mx_sf (mx_sf (mx_sa (mx_sa u 7 ((mx_gf u 0 17)).toNatClampNeg (a1.toUInt32 >>> ((12 : Int32).toUInt32 &&& Int32.toUInt32 31)).toInt32) 8 ((mx_gf (mx_sa u 7 ((mx_gf u 0 17)).toNatClampNeg (a1.toUInt32 >>> ((12 : Int32).toUInt32 &&& Int32.toUInt32 31)).toInt32) 0 17)).toNatClampNeg ((mx_gf (mx_sa u 7 ((mx_gf u 0 17)).toNatClampNeg (a1.toUInt32 >>> ((12 : Int32).toUInt32 &&& Int32.toUInt32 31)).toInt32) 0 8) + (6 : Int32))) 0 11 1) 0 17 ((mx_gf (mx_sf (mx_sa (mx_sa u 7 ((mx_gf u 0 17)).toNatClampNeg (a1.toUInt32 >>> ((12 : Int32).toUInt32 &&& Int32.toUInt32 31)).toInt32) 8 ((mx_gf (mx_sa u 7 ((mx_gf u 0 17)).toNatClampNeg (a1.toUInt32 >>> ((12 : Int32).toUInt32 &&& Int32.toUInt32 31)).toInt32) 0 17)).toNatClampNeg ((mx_gf (mx_sa u 7 ((mx_gf u 0 17)).toNatClampNeg (a1.toUInt32 >>> ((12 : Int32).toUInt32 &&& Int32.toUInt32 31)).toInt32) 0 8) + (6 : Int32))) 0 11 1) 0 17) + (1 : Int32))) 0 9 ((mm_second a1 (mx_sf (mx_sf (mx_sa (mx_sa u 7 ((mx_gf u 0 17)).toNatClampNeg (a1.toUInt32 >>> ((12 : Int32).toUInt32 &&& Int32.toUInt32 31)).toInt32) 8 ((mx_gf (mx_sa u 7 ((mx_gf u 0 17)).toNatClampNeg (a1.toUInt32 >>> ((12 : Int32).toUInt32 &&& Int32.toUInt32 31)).toInt32) 0 17)).toNatClampNeg ((mx_gf (mx_sa u 7 ((mx_gf u 0 17)).toNatClampNeg (a1.toUInt32 >>> ((12 : Int32).toUInt32 &&& Int32.toUInt32 31)).toInt32) 0 8) + (6 : Int32))) 0 11 1) 0 17 ((mx_gf (mx_sf (mx_sa (mx_sa u 7 ((mx_gf u 0 17)).toNatClampNeg (a1.toUInt32 >>> ((12 : Int32).toUInt32 &&& Int32.toUInt32 31)).toInt32) 8 ((mx_gf (mx_sa u 7 ((mx_gf u 0 17)).toNatClampNeg (a1.toUInt32 >>> ((12 : Int32).toUInt32 &&& Int32.toUInt32 31)).toInt32) 0 17)).toNatClampNeg ((mx_gf (mx_sa u 7 ((mx_gf u 0 17)).toNatClampNeg (a1.toUInt32 >>> ((12 : Int32).toUInt32 &&& Int32.toUInt32 31)).toInt32) 0 8) + (6 : Int32))) 0 11 1) 0 17) + (1 : Int32)))) &&& (15 : Int32))) = (mm_controls a1 u) from ((mm_controls_eq a1 u).trans ((if_neg h8).trans ((if_pos h22).trans ((if_pos h72).trans ((if_pos h78).trans ((if_pos h102).trans (if_neg h120))))))).symm))))))))))))))))))
/-! WideMachineModel.write(III)V -/
noncomputable def mm_write (a1 : Int32) (a2 : Int32) (a3 : Int32) (u : mx_S) : mx_S :=
  (mx_sf (mx_sa (mx_sa (mx_sa u 4 ((mx_gf u 0 13)).toNatClampNeg a1) 5 ((mx_gf (mx_sa u 4 ((mx_gf u 0 13)).toNatClampNeg a1) 0 13)).toNatClampNeg a2) 6 ((mx_gf (mx_sa (mx_sa u 4 ((mx_gf u 0 13)).toNatClampNeg a1) 5 ((mx_gf (mx_sa u 4 ((mx_gf u 0 13)).toNatClampNeg a1) 0 13)).toNatClampNeg a2) 0 13)).toNatClampNeg ((mx_gf (mx_sa (mx_sa u 4 ((mx_gf u 0 13)).toNatClampNeg a1) 5 ((mx_gf (mx_sa u 4 ((mx_gf u 0 13)).toNatClampNeg a1) 0 13)).toNatClampNeg a2) 0 8) + a3)) 0 13 ((mx_gf (mx_sa (mx_sa (mx_sa u 4 ((mx_gf u 0 13)).toNatClampNeg a1) 5 ((mx_gf (mx_sa u 4 ((mx_gf u 0 13)).toNatClampNeg a1) 0 13)).toNatClampNeg a2) 6 ((mx_gf (mx_sa (mx_sa u 4 ((mx_gf u 0 13)).toNatClampNeg a1) 5 ((mx_gf (mx_sa u 4 ((mx_gf u 0 13)).toNatClampNeg a1) 0 13)).toNatClampNeg a2) 0 13)).toNatClampNeg ((mx_gf (mx_sa (mx_sa u 4 ((mx_gf u 0 13)).toNatClampNeg a1) 5 ((mx_gf (mx_sa u 4 ((mx_gf u 0 13)).toNatClampNeg a1) 0 13)).toNatClampNeg a2) 0 8) + a3)) 0 13) + (1 : Int32)))
def q_mm_write (a1 : Int32) (a2 : Int32) (a3 : Int32) (u : mx_S) : Prop :=
  (vp_in (mx_gf u 0 13) 64) ∧ (
   (vp_in (mx_gf (mx_sa u 4 ((mx_gf u 0 13)).toNatClampNeg a1) 0 13) 64) ∧ (
    (vp_in (mx_gf (mx_sa (mx_sa u 4 ((mx_gf u 0 13)).toNatClampNeg a1) 5 ((mx_gf (mx_sa u 4 ((mx_gf u 0 13)).toNatClampNeg a1) 0 13)).toNatClampNeg a2) 0 13) 64)))
def pre_mm_write : List mx_V → mx_S → Prop := fun as u => ∃ (a1 : Int32) (a2 : Int32) (a3 : Int32), as = [.inr (.inr 0), .inl a1, .inl a2, .inl a3] ∧ q_mm_write a1 a2 a3 u
noncomputable def fn_mm_write : mx_F := fun as u => match as with
  | [_, .inl a1, .inl a2, .inl a3] => (none, (mm_write a1 a2 a3 u))
  | _ => (none, u)
noncomputable def tb_mm_write : List (Nat × mx_T) := [
  (0, mx_aload_n 0 0),
  (1, mx_getf km 3 14 1),
  (4, mx_aload_n 0 4),
  (5, mx_getf km 3 13 5),
  (8, mx_iload_n 1 8),
  (9, mx_iast km 9),
  (10, mx_aload_n 0 10),
  (11, mx_getf km 3 15 11),
  (14, mx_aload_n 0 14),
  (15, mx_getf km 3 13 15),
  (18, mx_iload_n 2 18),
  (19, mx_iast km 19),
  (20, mx_aload_n 0 20),
  (21, mx_getf km 3 16 21),
  (24, mx_aload_n 0 24),
  (25, mx_getf km 3 13 25),
  (28, mx_aload_n 0 28),
  (29, mx_getf km 3 8 29),
  (32, mx_iload_n 3 32),
  (33, mx_iadd 33),
  (34, mx_iast km 34),
  (35, mx_aload_n 0 35),
  (36, mx_dup 36),
  (37, mx_getf km 3 13 37),
  (40, mx_iconst 1 40),
  (41, mx_iadd 41),
  (42, mx_putf km 3 13 42),
  (45, mx_vret 45)]
set_option maxRecDepth 100000 in
set_option maxHeartbeats 4000000 in
theorem ok_mm_write (l : Launch) : ∀ q ∈ tb_mm_write , mx_Ok l ({ frames := 0, cells := 0, slots := 0, locals := 0 } : Room) b_mm_write 4 "WideMachineModel" none vw_T vw_cl km q.1 q.2 := by
  refine List.forall_mem_cons.mpr ⟨mx_ok_aload_n (show decode b_mm_write 0 = .ok (.aload_n 0, 1) by decide +kernel) rfl, ?_⟩
  refine List.forall_mem_cons.mpr ⟨mx_ok_getf fd_mm_19 (show decode b_mm_write 1 = .ok (.getfield 19, 3) by decide +kernel), ?_⟩
  refine List.forall_mem_cons.mpr ⟨mx_ok_aload_n (show decode b_mm_write 4 = .ok (.aload_n 0, 1) by decide +kernel) rfl, ?_⟩
  refine List.forall_mem_cons.mpr ⟨mx_ok_getf fd_mm_59 (show decode b_mm_write 5 = .ok (.getfield 59, 3) by decide +kernel), ?_⟩
  refine List.forall_mem_cons.mpr ⟨mx_ok_iload_n (show decode b_mm_write 8 = .ok (.iload_n 1, 1) by decide +kernel) rfl, ?_⟩
  refine List.forall_mem_cons.mpr ⟨mx_ok_iast (show decode b_mm_write 9 = .ok (.iastore, 1) by decide +kernel), ?_⟩
  refine List.forall_mem_cons.mpr ⟨mx_ok_aload_n (show decode b_mm_write 10 = .ok (.aload_n 0, 1) by decide +kernel) rfl, ?_⟩
  refine List.forall_mem_cons.mpr ⟨mx_ok_getf fd_mm_22 (show decode b_mm_write 11 = .ok (.getfield 22, 3) by decide +kernel), ?_⟩
  refine List.forall_mem_cons.mpr ⟨mx_ok_aload_n (show decode b_mm_write 14 = .ok (.aload_n 0, 1) by decide +kernel) rfl, ?_⟩
  refine List.forall_mem_cons.mpr ⟨mx_ok_getf fd_mm_59 (show decode b_mm_write 15 = .ok (.getfield 59, 3) by decide +kernel), ?_⟩
  refine List.forall_mem_cons.mpr ⟨mx_ok_iload_n (show decode b_mm_write 18 = .ok (.iload_n 2, 1) by decide +kernel) rfl, ?_⟩
  refine List.forall_mem_cons.mpr ⟨mx_ok_iast (show decode b_mm_write 19 = .ok (.iastore, 1) by decide +kernel), ?_⟩
  refine List.forall_mem_cons.mpr ⟨mx_ok_aload_n (show decode b_mm_write 20 = .ok (.aload_n 0, 1) by decide +kernel) rfl, ?_⟩
  refine List.forall_mem_cons.mpr ⟨mx_ok_getf fd_mm_25 (show decode b_mm_write 21 = .ok (.getfield 25, 3) by decide +kernel), ?_⟩
  refine List.forall_mem_cons.mpr ⟨mx_ok_aload_n (show decode b_mm_write 24 = .ok (.aload_n 0, 1) by decide +kernel) rfl, ?_⟩
  refine List.forall_mem_cons.mpr ⟨mx_ok_getf fd_mm_59 (show decode b_mm_write 25 = .ok (.getfield 59, 3) by decide +kernel), ?_⟩
  refine List.forall_mem_cons.mpr ⟨mx_ok_aload_n (show decode b_mm_write 28 = .ok (.aload_n 0, 1) by decide +kernel) rfl, ?_⟩
  refine List.forall_mem_cons.mpr ⟨mx_ok_getf fd_mm_56 (show decode b_mm_write 29 = .ok (.getfield 56, 3) by decide +kernel), ?_⟩
  refine List.forall_mem_cons.mpr ⟨mx_ok_iload_n (show decode b_mm_write 32 = .ok (.iload_n 3, 1) by decide +kernel) rfl, ?_⟩
  refine List.forall_mem_cons.mpr ⟨mx_ok_iadd (show decode b_mm_write 33 = .ok (.iadd, 1) by decide +kernel), ?_⟩
  refine List.forall_mem_cons.mpr ⟨mx_ok_iast (show decode b_mm_write 34 = .ok (.iastore, 1) by decide +kernel), ?_⟩
  refine List.forall_mem_cons.mpr ⟨mx_ok_aload_n (show decode b_mm_write 35 = .ok (.aload_n 0, 1) by decide +kernel) rfl, ?_⟩
  refine List.forall_mem_cons.mpr ⟨mx_ok_dup (show decode b_mm_write 36 = .ok (.dup, 1) by decide +kernel), ?_⟩
  refine List.forall_mem_cons.mpr ⟨mx_ok_getf fd_mm_59 (show decode b_mm_write 37 = .ok (.getfield 59, 3) by decide +kernel), ?_⟩
  refine List.forall_mem_cons.mpr ⟨mx_ok_iconst (show decode b_mm_write 40 = .ok (.iconst 1, 1) by decide +kernel) (by decide), ?_⟩
  refine List.forall_mem_cons.mpr ⟨mx_ok_iadd (show decode b_mm_write 41 = .ok (.iadd, 1) by decide +kernel), ?_⟩
  refine List.forall_mem_cons.mpr ⟨mx_ok_putf fd_mm_59 fw_3_13 (show decode b_mm_write 42 = .ok (.putfield 59, 3) by decide +kernel), ?_⟩
  refine List.forall_mem_cons.mpr ⟨mx_ok_vret (show decode b_mm_write 45 = .ok (.return_, 1) by decide +kernel) rfl, ?_⟩
  exact fun _ h => absurd h List.not_mem_nil
set_option maxRecDepth 100000 in
set_option maxHeartbeats 4000000 in
theorem ct_mm_write (l : Launch) : mx_Ct l vw_T vw_cl km { frames := 0, cells := 0, slots := 0, locals := 0 } y_mm_write b_mm_write 4 none pre_mm_write fn_mm_write := by
  refine mx_ct_of (tb_mm_write ) (by decide) (ok_mm_write l ) (fun as u h => by obtain ⟨_, _, _, rfl, -⟩ := h; exact Nat.le_of_ble_eq_true rfl) ?_
  intro as u hpre At hc hw
  obtain ⟨a1, a2, a3, rfl, hp⟩ := hpre
  exact hc 200 [] _ _ _ _ (
    And.intro (hp.1) (
    And.intro (hp.2.1) (
    And.intro (hp.2.2) (
    And.intro rfl (
    congrArg (fun z : mx_S => ((none, z) : Option mx_V × mx_S)) (show (mx_sf (mx_sa (mx_sa (mx_sa u 4 ((mx_gf u 0 13)).toNatClampNeg a1) 5 ((mx_gf (mx_sa u 4 ((mx_gf u 0 13)).toNatClampNeg a1) 0 13)).toNatClampNeg a2) 6 ((mx_gf (mx_sa (mx_sa u 4 ((mx_gf u 0 13)).toNatClampNeg a1) 5 ((mx_gf (mx_sa u 4 ((mx_gf u 0 13)).toNatClampNeg a1) 0 13)).toNatClampNeg a2) 0 13)).toNatClampNeg ((mx_gf (mx_sa (mx_sa u 4 ((mx_gf u 0 13)).toNatClampNeg a1) 5 ((mx_gf (mx_sa u 4 ((mx_gf u 0 13)).toNatClampNeg a1) 0 13)).toNatClampNeg a2) 0 8) + a3)) 0 13 ((mx_gf (mx_sa (mx_sa (mx_sa u 4 ((mx_gf u 0 13)).toNatClampNeg a1) 5 ((mx_gf (mx_sa u 4 ((mx_gf u 0 13)).toNatClampNeg a1) 0 13)).toNatClampNeg a2) 6 ((mx_gf (mx_sa (mx_sa u 4 ((mx_gf u 0 13)).toNatClampNeg a1) 5 ((mx_gf (mx_sa u 4 ((mx_gf u 0 13)).toNatClampNeg a1) 0 13)).toNatClampNeg a2) 0 13)).toNatClampNeg ((mx_gf (mx_sa (mx_sa u 4 ((mx_gf u 0 13)).toNatClampNeg a1) 5 ((mx_gf (mx_sa u 4 ((mx_gf u 0 13)).toNatClampNeg a1) 0 13)).toNatClampNeg a2) 0 8) + a3)) 0 13) + (1 : Int32))) = (mm_write a1 a2 a3 u) from (rfl).symm))))))
/-! WideMachineModel.meets(I)V -/
noncomputable def mm_meets_b (a1 : Int32) (u : mx_S) : mx_S :=
  if (mm_operation a1 ) = 2 then
   (mm_write (mm_d a1 ) (mx_ga u 2 (((mx_ga u 3 ((mm_a a1 )).toNatClampNeg) + (mm_second a1 u))).toNatClampNeg) 5 u)
  else
   (mx_sf (mx_sa (mx_sa u 9 ((mx_gf u 0 20)).toNatClampNeg ((mx_ga u 3 ((mm_a a1 )).toNatClampNeg) + (mm_second a1 u))) 10 ((mx_gf (mx_sa u 9 ((mx_gf u 0 20)).toNatClampNeg ((mx_ga u 3 ((mm_a a1 )).toNatClampNeg) + (mm_second a1 u))) 0 20)).toNatClampNeg (mx_ga (mx_sa u 9 ((mx_gf u 0 20)).toNatClampNeg ((mx_ga u 3 ((mm_a a1 )).toNatClampNeg) + (mm_second a1 u))) 3 ((mm_d a1 )).toNatClampNeg)) 0 20 ((mx_gf (mx_sa (mx_sa u 9 ((mx_gf u 0 20)).toNatClampNeg ((mx_ga u 3 ((mm_a a1 )).toNatClampNeg) + (mm_second a1 u))) 10 ((mx_gf (mx_sa u 9 ((mx_gf u 0 20)).toNatClampNeg ((mx_ga u 3 ((mm_a a1 )).toNatClampNeg) + (mm_second a1 u))) 0 20)).toNatClampNeg (mx_ga (mx_sa u 9 ((mx_gf u 0 20)).toNatClampNeg ((mx_ga u 3 ((mm_a a1 )).toNatClampNeg) + (mm_second a1 u))) 3 ((mm_d a1 )).toNatClampNeg)) 0 20) + (1 : Int32)))
theorem mm_meets_ex : ∃ f : Int32 → mx_S → (mx_S), f = mm_meets_b := ⟨_, rfl⟩
noncomputable def mm_meets : Int32 → mx_S → (mx_S) := Classical.choose mm_meets_ex
theorem mm_meets_eq (a1 : Int32) (u : mx_S) : (mm_meets a1 u) = (mm_meets_b a1 u) := by rw [show mm_meets = mm_meets_b from Classical.choose_spec mm_meets_ex]
def q_mm_meets (a1 : Int32) (u : mx_S) : Prop :=
  ((¬ ((mm_operation a1 ) = 2)) → 
   (vp_in (mx_gf u 0 20) 8) ∧ (
    (vp_in (mx_gf (mx_sa u 9 ((mx_gf u 0 20)).toNatClampNeg ((mx_ga u 3 ((mm_a a1 )).toNatClampNeg) + (mm_second a1 u))) 0 20) 8))) ∧ (((mm_operation a1 ) = 2) → 
   (vp_in ((mx_ga u 3 ((mm_a a1 )).toNatClampNeg) + (mm_second a1 u)) 256) ∧ (
    ((q_mm_write (mm_d a1 ) (mx_ga u 2 (((mx_ga u 3 ((mm_a a1 )).toNatClampNeg) + (mm_second a1 u))).toNatClampNeg) 5 u))))
def pre_mm_meets : List mx_V → mx_S → Prop := fun as u => ∃ (a1 : Int32), as = [.inr (.inr 0), .inl a1] ∧ q_mm_meets a1 u
noncomputable def fn_mm_meets : mx_F := fun as u => match as with
  | [_, .inl a1] => (none, (mm_meets a1 u))
  | _ => (none, u)
noncomputable def tb_mm_meets : List (Nat × mx_T) := [
  (0, mx_aload_n 0 0),
  (1, mx_getf km 3 5 1),
  (4, mx_iload_n 1 4),
  (5, mx_invS 1 pre_mm_a fn_mm_a 5),
  (8, mx_iald km 8),
  (9, mx_aload_n 0 9),
  (10, mx_iload_n 1 10),
  (11, mx_invV km 3 1 pre_mm_second fn_mm_second 11),
  (14, mx_iadd 14),
  (15, mx_istore_n 2 15),
  (16, mx_iload_n 1 16),
  (17, mx_invS 1 pre_mm_operation fn_mm_operation 17),
  (20, mx_iconst 2 20),
  (21, mx_icmp_ne 42 21),
  (24, mx_aload_n 0 24),
  (25, mx_iload_n 1 25),
  (26, mx_invS 1 pre_mm_d fn_mm_d 26),
  (29, mx_aload_n 0 29),
  (30, mx_getf km 3 4 30),
  (33, mx_iload_n 2 33),
  (34, mx_iald km 34),
  (35, mx_iconst 5 35),
  (36, mx_invV km 3 3 pre_mm_write fn_mm_write 36),
  (39, mx_goto 80 39),
  (42, mx_aload_n 0 42),
  (43, mx_getf km 3 21 43),
  (46, mx_aload_n 0 46),
  (47, mx_getf km 3 20 47),
  (50, mx_iload_n 2 50),
  (51, mx_iast km 51),
  (52, mx_aload_n 0 52),
  (53, mx_getf km 3 22 53),
  (56, mx_aload_n 0 56),
  (57, mx_getf km 3 20 57),
  (60, mx_aload_n 0 60),
  (61, mx_getf km 3 5 61),
  (64, mx_iload_n 1 64),
  (65, mx_invS 1 pre_mm_d fn_mm_d 65),
  (68, mx_iald km 68),
  (69, mx_iast km 69),
  (70, mx_aload_n 0 70),
  (71, mx_dup 71),
  (72, mx_getf km 3 20 72),
  (75, mx_iconst 1 75),
  (76, mx_iadd 76),
  (77, mx_putf km 3 20 77),
  (80, mx_vret 80)]
set_option maxRecDepth 100000 in
set_option maxHeartbeats 4000000 in
theorem ok_mm_meets (l : Launch) : ∀ q ∈ tb_mm_meets , mx_Ok l ({ frames := 2, cells := 0, slots := 0, locals := 41 } : Room) b_mm_meets 3 "WideMachineModel" none vw_T vw_cl km q.1 q.2 := by
  refine List.forall_mem_cons.mpr ⟨mx_ok_aload_n (show decode b_mm_meets 0 = .ok (.aload_n 0, 1) by decide +kernel) rfl, ?_⟩
  refine List.forall_mem_cons.mpr ⟨mx_ok_getf fd_mm_16 (show decode b_mm_meets 1 = .ok (.getfield 16, 3) by decide +kernel), ?_⟩
  refine List.forall_mem_cons.mpr ⟨mx_ok_iload_n (show decode b_mm_meets 4 = .ok (.iload_n 1, 1) by decide +kernel) rfl, ?_⟩
  refine List.forall_mem_cons.mpr ⟨mx_ok_invS vw_G (ct_mm_a l ) ⟨vm_350, vm_351, vm_324, ⟨by decide +kernel, by decide +kernel, by decide +kernel⟩, ⟨by decide, by decide⟩, rfl, rfl⟩ vm_352 (show decode b_mm_meets 5 = .ok (.invokestatic 112, 3) by decide +kernel), ?_⟩
  refine List.forall_mem_cons.mpr ⟨mx_ok_iald (show decode b_mm_meets 8 = .ok (.iaload, 1) by decide +kernel), ?_⟩
  refine List.forall_mem_cons.mpr ⟨mx_ok_aload_n (show decode b_mm_meets 9 = .ok (.aload_n 0, 1) by decide +kernel) rfl, ?_⟩
  refine List.forall_mem_cons.mpr ⟨mx_ok_iload_n (show decode b_mm_meets 10 = .ok (.iload_n 1, 1) by decide +kernel) rfl, ?_⟩
  refine List.forall_mem_cons.mpr ⟨mx_ok_invV vw_G (ct_mm_second l ) ⟨vm_359, vm_360, vm_324, ⟨by decide +kernel, by decide +kernel, by decide +kernel⟩, ⟨by decide, by decide⟩, rfl, rfl⟩ vm_361 vm_362 rfl (show decode b_mm_meets 11 = .ok (.invokevirtual 166, 3) by decide +kernel), ?_⟩
  refine List.forall_mem_cons.mpr ⟨mx_ok_iadd (show decode b_mm_meets 14 = .ok (.iadd, 1) by decide +kernel), ?_⟩
  refine List.forall_mem_cons.mpr ⟨mx_ok_istore_n (show decode b_mm_meets 15 = .ok (.istore_n 2, 1) by decide +kernel) rfl (by decide), ?_⟩
  refine List.forall_mem_cons.mpr ⟨mx_ok_iload_n (show decode b_mm_meets 16 = .ok (.iload_n 1, 1) by decide +kernel) rfl, ?_⟩
  refine List.forall_mem_cons.mpr ⟨mx_ok_invS vw_G (ct_mm_operation l ) ⟨vm_326, vm_327, vm_324, ⟨by decide +kernel, by decide +kernel, by decide +kernel⟩, ⟨by decide, by decide⟩, rfl, rfl⟩ vm_328 (show decode b_mm_meets 17 = .ok (.invokestatic 85, 3) by decide +kernel), ?_⟩
  refine List.forall_mem_cons.mpr ⟨mx_ok_iconst (show decode b_mm_meets 20 = .ok (.iconst 2, 1) by decide +kernel) (by decide), ?_⟩
  refine List.forall_mem_cons.mpr ⟨mx_ok_icmp_ne (show decode b_mm_meets 21 = .ok (.if_icmp .ne 21, 3) by decide +kernel) (by decide), ?_⟩
  refine List.forall_mem_cons.mpr ⟨mx_ok_aload_n (show decode b_mm_meets 24 = .ok (.aload_n 0, 1) by decide +kernel) rfl, ?_⟩
  refine List.forall_mem_cons.mpr ⟨mx_ok_iload_n (show decode b_mm_meets 25 = .ok (.iload_n 1, 1) by decide +kernel) rfl, ?_⟩
  refine List.forall_mem_cons.mpr ⟨mx_ok_invS vw_G (ct_mm_d l ) ⟨vm_341, vm_342, vm_324, ⟨by decide +kernel, by decide +kernel, by decide +kernel⟩, ⟨by decide, by decide⟩, rfl, rfl⟩ vm_343 (show decode b_mm_meets 26 = .ok (.invokestatic 102, 3) by decide +kernel), ?_⟩
  refine List.forall_mem_cons.mpr ⟨mx_ok_aload_n (show decode b_mm_meets 29 = .ok (.aload_n 0, 1) by decide +kernel) rfl, ?_⟩
  refine List.forall_mem_cons.mpr ⟨mx_ok_getf fd_mm_13 (show decode b_mm_meets 30 = .ok (.getfield 13, 3) by decide +kernel), ?_⟩
  refine List.forall_mem_cons.mpr ⟨mx_ok_iload_n (show decode b_mm_meets 33 = .ok (.iload_n 2, 1) by decide +kernel) rfl, ?_⟩
  refine List.forall_mem_cons.mpr ⟨mx_ok_iald (show decode b_mm_meets 34 = .ok (.iaload, 1) by decide +kernel), ?_⟩
  refine List.forall_mem_cons.mpr ⟨mx_ok_iconst (show decode b_mm_meets 35 = .ok (.iconst 5, 1) by decide +kernel) (by decide), ?_⟩
  refine List.forall_mem_cons.mpr ⟨mx_ok_invV vw_G (ct_mm_write l ) ⟨vm_377, vm_378, vm_324, ⟨by decide +kernel, by decide +kernel, by decide +kernel⟩, ⟨by decide, by decide⟩, rfl, rfl⟩ vm_379 vm_380 rfl (show decode b_mm_meets 36 = .ok (.invokevirtual 162, 3) by decide +kernel), ?_⟩
  refine List.forall_mem_cons.mpr ⟨mx_ok_goto (show decode b_mm_meets 39 = .ok (.goto 41, 3) by decide +kernel) (by decide), ?_⟩
  refine List.forall_mem_cons.mpr ⟨mx_ok_aload_n (show decode b_mm_meets 42 = .ok (.aload_n 0, 1) by decide +kernel) rfl, ?_⟩
  refine List.forall_mem_cons.mpr ⟨mx_ok_getf fd_mm_34 (show decode b_mm_meets 43 = .ok (.getfield 34, 3) by decide +kernel), ?_⟩
  refine List.forall_mem_cons.mpr ⟨mx_ok_aload_n (show decode b_mm_meets 46 = .ok (.aload_n 0, 1) by decide +kernel) rfl, ?_⟩
  refine List.forall_mem_cons.mpr ⟨mx_ok_getf fd_mm_150 (show decode b_mm_meets 47 = .ok (.getfield 150, 3) by decide +kernel), ?_⟩
  refine List.forall_mem_cons.mpr ⟨mx_ok_iload_n (show decode b_mm_meets 50 = .ok (.iload_n 2, 1) by decide +kernel) rfl, ?_⟩
  refine List.forall_mem_cons.mpr ⟨mx_ok_iast (show decode b_mm_meets 51 = .ok (.iastore, 1) by decide +kernel), ?_⟩
  refine List.forall_mem_cons.mpr ⟨mx_ok_aload_n (show decode b_mm_meets 52 = .ok (.aload_n 0, 1) by decide +kernel) rfl, ?_⟩
  refine List.forall_mem_cons.mpr ⟨mx_ok_getf fd_mm_37 (show decode b_mm_meets 53 = .ok (.getfield 37, 3) by decide +kernel), ?_⟩
  refine List.forall_mem_cons.mpr ⟨mx_ok_aload_n (show decode b_mm_meets 56 = .ok (.aload_n 0, 1) by decide +kernel) rfl, ?_⟩
  refine List.forall_mem_cons.mpr ⟨mx_ok_getf fd_mm_150 (show decode b_mm_meets 57 = .ok (.getfield 150, 3) by decide +kernel), ?_⟩
  refine List.forall_mem_cons.mpr ⟨mx_ok_aload_n (show decode b_mm_meets 60 = .ok (.aload_n 0, 1) by decide +kernel) rfl, ?_⟩
  refine List.forall_mem_cons.mpr ⟨mx_ok_getf fd_mm_16 (show decode b_mm_meets 61 = .ok (.getfield 16, 3) by decide +kernel), ?_⟩
  refine List.forall_mem_cons.mpr ⟨mx_ok_iload_n (show decode b_mm_meets 64 = .ok (.iload_n 1, 1) by decide +kernel) rfl, ?_⟩
  refine List.forall_mem_cons.mpr ⟨mx_ok_invS vw_G (ct_mm_d l ) ⟨vm_341, vm_342, vm_324, ⟨by decide +kernel, by decide +kernel, by decide +kernel⟩, ⟨by decide, by decide⟩, rfl, rfl⟩ vm_343 (show decode b_mm_meets 65 = .ok (.invokestatic 102, 3) by decide +kernel), ?_⟩
  refine List.forall_mem_cons.mpr ⟨mx_ok_iald (show decode b_mm_meets 68 = .ok (.iaload, 1) by decide +kernel), ?_⟩
  refine List.forall_mem_cons.mpr ⟨mx_ok_iast (show decode b_mm_meets 69 = .ok (.iastore, 1) by decide +kernel), ?_⟩
  refine List.forall_mem_cons.mpr ⟨mx_ok_aload_n (show decode b_mm_meets 70 = .ok (.aload_n 0, 1) by decide +kernel) rfl, ?_⟩
  refine List.forall_mem_cons.mpr ⟨mx_ok_dup (show decode b_mm_meets 71 = .ok (.dup, 1) by decide +kernel), ?_⟩
  refine List.forall_mem_cons.mpr ⟨mx_ok_getf fd_mm_150 (show decode b_mm_meets 72 = .ok (.getfield 150, 3) by decide +kernel), ?_⟩
  refine List.forall_mem_cons.mpr ⟨mx_ok_iconst (show decode b_mm_meets 75 = .ok (.iconst 1, 1) by decide +kernel) (by decide), ?_⟩
  refine List.forall_mem_cons.mpr ⟨mx_ok_iadd (show decode b_mm_meets 76 = .ok (.iadd, 1) by decide +kernel), ?_⟩
  refine List.forall_mem_cons.mpr ⟨mx_ok_putf fd_mm_150 fw_3_20 (show decode b_mm_meets 77 = .ok (.putfield 150, 3) by decide +kernel), ?_⟩
  refine List.forall_mem_cons.mpr ⟨mx_ok_vret (show decode b_mm_meets 80 = .ok (.return_, 1) by decide +kernel) rfl, ?_⟩
  exact fun _ h => absurd h List.not_mem_nil
set_option maxRecDepth 100000 in
set_option maxHeartbeats 4000000 in
theorem ct_mm_meets (l : Launch) : mx_Ct l vw_T vw_cl km { frames := 2, cells := 0, slots := 0, locals := 41 } y_mm_meets b_mm_meets 3 none pre_mm_meets fn_mm_meets := by
  refine mx_ct_of (tb_mm_meets ) (by decide) (ok_mm_meets l ) (fun as u h => by obtain ⟨_, rfl, -⟩ := h; exact Nat.le_of_ble_eq_true rfl) ?_
  intro as u hpre At hc hw
  obtain ⟨a1, rfl, hp⟩ := hpre
  exact hc 200 [] _ _ _ _ (
    And.intro rfl (
    And.intro ⟨_, rfl, trivial⟩ (
    And.intro (mm_a_in _) (
    And.intro rfl (
    And.intro ⟨_, rfl, trivial⟩ (
    And.intro rfl (
    And.intro ⟨_, rfl, trivial⟩ (
    And.intro (fun h21 => 
     And.intro ((hp.1 h21).1) (
     And.intro rfl (
     And.intro ⟨_, rfl, trivial⟩ (
     And.intro (mm_d_in _) (
     And.intro ((hp.1 h21).2) (
     And.intro rfl (
     congrArg (fun z : mx_S => ((none, z) : Option mx_V × mx_S)) (show (mx_sf (mx_sa (mx_sa u 9 ((mx_gf u 0 20)).toNatClampNeg ((mx_ga u 3 ((mm_a a1 )).toNatClampNeg) + (mm_second a1 u))) 10 ((mx_gf (mx_sa u 9 ((mx_gf u 0 20)).toNatClampNeg ((mx_ga u 3 ((mm_a a1 )).toNatClampNeg) + (mm_second a1 u))) 0 20)).toNatClampNeg (mx_ga (mx_sa u 9 ((mx_gf u 0 20)).toNatClampNeg ((mx_ga u 3 ((mm_a a1 )).toNatClampNeg) + (mm_second a1 u))) 3 ((mm_d a1 )).toNatClampNeg)) 0 20 ((mx_gf (mx_sa (mx_sa u 9 ((mx_gf u 0 20)).toNatClampNeg ((mx_ga u 3 ((mm_a a1 )).toNatClampNeg) + (mm_second a1 u))) 10 ((mx_gf (mx_sa u 9 ((mx_gf u 0 20)).toNatClampNeg ((mx_ga u 3 ((mm_a a1 )).toNatClampNeg) + (mm_second a1 u))) 0 20)).toNatClampNeg (mx_ga (mx_sa u 9 ((mx_gf u 0 20)).toNatClampNeg ((mx_ga u 3 ((mm_a a1 )).toNatClampNeg) + (mm_second a1 u))) 3 ((mm_d a1 )).toNatClampNeg)) 0 20) + (1 : Int32))) = (mm_meets a1 u) from ((mm_meets_eq a1 u).trans (if_neg h21)).symm)))))))) (fun h21 => 
     And.intro rfl (
     And.intro ⟨_, rfl, trivial⟩ (
     And.intro ((hp.2 h21).1) (
     And.intro rfl (
     And.intro ⟨_, _, _, rfl, (hp.2 h21).2⟩ (
     congrArg (fun z : mx_S => ((none, z) : Option mx_V × mx_S)) (show (mm_write (mm_d a1 ) (mx_ga u 2 (((mx_ga u 3 ((mm_a a1 )).toNatClampNeg) + (mm_second a1 u))).toNatClampNeg) 5 u) = (mm_meets a1 u) from ((mm_meets_eq a1 u).trans (if_pos h21)).symm)))))))))))))))
/-! WideMachineModel.shift(III)I -/
noncomputable def mm_shift_b (a1 : Int32) (a2 : Int32) (a3 : Int32) (u : mx_S) : Int32 :=
  if (mm_operation a1 ) = 0 then
   (a2 + a3)
  else
  if (mm_operation a1 ) = 1 then
   (a2 - a3)
  else
  if (mm_operation a1 ) = 2 then
   (a2 <<< ((a3 &&& (31 : Int32)) &&& 31))
  else
  if (mm_operation a1 ) = 3 then
   (a2 >>> ((a3 &&& (31 : Int32)) &&& 31))
  else
  if (mm_operation a1 ) = 4 then
   (a2.toUInt32 >>> ((a3 &&& (31 : Int32)).toUInt32 &&& Int32.toUInt32 31)).toInt32
  else
  if (mm_operation a1 ) = 5 then
   (a1 >>> ((17 : Int32) &&& 31))
  else
  (((a1 >>> ((17 : Int32) &&& 31)) <<< ((16 : Int32) &&& 31)) ||| ((mx_ga u 3 ((mm_d a1 )).toNatClampNeg) &&& (65535 : Int32)))
theorem mm_shift_ex : ∃ f : Int32 → Int32 → Int32 → mx_S → (Int32), f = mm_shift_b := ⟨_, rfl⟩
noncomputable def mm_shift : Int32 → Int32 → Int32 → mx_S → (Int32) := Classical.choose mm_shift_ex
theorem mm_shift_eq (a1 : Int32) (a2 : Int32) (a3 : Int32) (u : mx_S) : (mm_shift a1 a2 a3 u) = (mm_shift_b a1 a2 a3 u) := by rw [show mm_shift = mm_shift_b from Classical.choose_spec mm_shift_ex]
def pre_mm_shift : List mx_V → mx_S → Prop := fun as u => ∃ (a1 : Int32) (a2 : Int32) (a3 : Int32), as = [.inr (.inr 0), .inl a1, .inl a2, .inl a3] ∧ True
noncomputable def fn_mm_shift : mx_F := fun as u => match as with
  | [_, .inl a1, .inl a2, .inl a3] => mx_rI u (mm_shift a1 a2 a3 u)
  | _ => (none, u)
noncomputable def tb_mm_shift : List (Nat × mx_T) := [
  (0, mx_iload_n 1 0),
  (1, mx_bipush 17 1),
  (3, mx_ishr 3),
  (4, mx_istore 4 4),
  (6, mx_iload_n 1 6),
  (7, mx_invS 1 pre_mm_operation fn_mm_operation 7),
  (10, mx_tsw 80 [(0, 48), (1, 52), (2, 56), (3, 63), (4, 70), (5, 77)] 10),
  (48, mx_iload_n 2 48),
  (49, mx_iload_n 3 49),
  (50, mx_iadd 50),
  (51, mx_iret 51),
  (52, mx_iload_n 2 52),
  (53, mx_iload_n 3 53),
  (54, mx_isub 54),
  (55, mx_iret 55),
  (56, mx_iload_n 2 56),
  (57, mx_iload_n 3 57),
  (58, mx_bipush 31 58),
  (60, mx_iand 60),
  (61, mx_ishl 61),
  (62, mx_iret 62),
  (63, mx_iload_n 2 63),
  (64, mx_iload_n 3 64),
  (65, mx_bipush 31 65),
  (67, mx_iand 67),
  (68, mx_ishr 68),
  (69, mx_iret 69),
  (70, mx_iload_n 2 70),
  (71, mx_iload_n 3 71),
  (72, mx_bipush 31 72),
  (74, mx_iand 74),
  (75, mx_iushr 75),
  (76, mx_iret 76),
  (77, mx_iload 4 77),
  (79, mx_iret 79),
  (80, mx_iload 4 80),
  (82, mx_bipush 16 82),
  (84, mx_ishl 84),
  (85, mx_aload_n 0 85),
  (86, mx_getf km 3 5 86),
  (89, mx_iload_n 1 89),
  (90, mx_invS 1 pre_mm_d fn_mm_d 90),
  (93, mx_iald km 93),
  (94, mx_ldc 65535 94),
  (96, mx_iand 96),
  (97, mx_ior 97),
  (98, mx_iret 98)]
set_option maxRecDepth 100000 in
set_option maxHeartbeats 4000000 in
theorem ok_mm_shift (l : Launch) : ∀ q ∈ tb_mm_shift , mx_Ok l ({ frames := 1, cells := 0, slots := 0, locals := 20 } : Room) b_mm_shift 5 "WideMachineModel" (some .int) vw_T vw_cl km q.1 q.2 := by
  refine List.forall_mem_cons.mpr ⟨mx_ok_iload_n (show decode b_mm_shift 0 = .ok (.iload_n 1, 1) by decide +kernel) rfl, ?_⟩
  refine List.forall_mem_cons.mpr ⟨mx_ok_bipush (show decode b_mm_shift 1 = .ok (.bipush 17, 2) by decide +kernel) (by decide), ?_⟩
  refine List.forall_mem_cons.mpr ⟨mx_ok_ishr (show decode b_mm_shift 3 = .ok (.ishr, 1) by decide +kernel), ?_⟩
  refine List.forall_mem_cons.mpr ⟨mx_ok_istore (show decode b_mm_shift 4 = .ok (.istore 4, 2) by decide +kernel) (by decide), ?_⟩
  refine List.forall_mem_cons.mpr ⟨mx_ok_iload_n (show decode b_mm_shift 6 = .ok (.iload_n 1, 1) by decide +kernel) rfl, ?_⟩
  refine List.forall_mem_cons.mpr ⟨mx_ok_invS vw_G (ct_mm_operation l ) ⟨vm_326, vm_327, vm_324, ⟨by decide +kernel, by decide +kernel, by decide +kernel⟩, ⟨by decide, by decide⟩, rfl, rfl⟩ vm_328 (show decode b_mm_shift 7 = .ok (.invokestatic 85, 3) by decide +kernel), ?_⟩
  refine List.forall_mem_cons.mpr ⟨mx_ok_tsw (show decode b_mm_shift 10 = .ok (.tableswitch 70 0 5 #[38, 42, 46, 53, 60, 67], 38) by decide +kernel) (by decide) (by decide), ?_⟩
  refine List.forall_mem_cons.mpr ⟨mx_ok_iload_n (show decode b_mm_shift 48 = .ok (.iload_n 2, 1) by decide +kernel) rfl, ?_⟩
  refine List.forall_mem_cons.mpr ⟨mx_ok_iload_n (show decode b_mm_shift 49 = .ok (.iload_n 3, 1) by decide +kernel) rfl, ?_⟩
  refine List.forall_mem_cons.mpr ⟨mx_ok_iadd (show decode b_mm_shift 50 = .ok (.iadd, 1) by decide +kernel), ?_⟩
  refine List.forall_mem_cons.mpr ⟨mx_ok_iret (show decode b_mm_shift 51 = .ok (.ireturn, 1) by decide +kernel) rfl, ?_⟩
  refine List.forall_mem_cons.mpr ⟨mx_ok_iload_n (show decode b_mm_shift 52 = .ok (.iload_n 2, 1) by decide +kernel) rfl, ?_⟩
  refine List.forall_mem_cons.mpr ⟨mx_ok_iload_n (show decode b_mm_shift 53 = .ok (.iload_n 3, 1) by decide +kernel) rfl, ?_⟩
  refine List.forall_mem_cons.mpr ⟨mx_ok_isub (show decode b_mm_shift 54 = .ok (.isub, 1) by decide +kernel), ?_⟩
  refine List.forall_mem_cons.mpr ⟨mx_ok_iret (show decode b_mm_shift 55 = .ok (.ireturn, 1) by decide +kernel) rfl, ?_⟩
  refine List.forall_mem_cons.mpr ⟨mx_ok_iload_n (show decode b_mm_shift 56 = .ok (.iload_n 2, 1) by decide +kernel) rfl, ?_⟩
  refine List.forall_mem_cons.mpr ⟨mx_ok_iload_n (show decode b_mm_shift 57 = .ok (.iload_n 3, 1) by decide +kernel) rfl, ?_⟩
  refine List.forall_mem_cons.mpr ⟨mx_ok_bipush (show decode b_mm_shift 58 = .ok (.bipush 31, 2) by decide +kernel) (by decide), ?_⟩
  refine List.forall_mem_cons.mpr ⟨mx_ok_iand (show decode b_mm_shift 60 = .ok (.iand, 1) by decide +kernel), ?_⟩
  refine List.forall_mem_cons.mpr ⟨mx_ok_ishl (show decode b_mm_shift 61 = .ok (.ishl, 1) by decide +kernel), ?_⟩
  refine List.forall_mem_cons.mpr ⟨mx_ok_iret (show decode b_mm_shift 62 = .ok (.ireturn, 1) by decide +kernel) rfl, ?_⟩
  refine List.forall_mem_cons.mpr ⟨mx_ok_iload_n (show decode b_mm_shift 63 = .ok (.iload_n 2, 1) by decide +kernel) rfl, ?_⟩
  refine List.forall_mem_cons.mpr ⟨mx_ok_iload_n (show decode b_mm_shift 64 = .ok (.iload_n 3, 1) by decide +kernel) rfl, ?_⟩
  refine List.forall_mem_cons.mpr ⟨mx_ok_bipush (show decode b_mm_shift 65 = .ok (.bipush 31, 2) by decide +kernel) (by decide), ?_⟩
  refine List.forall_mem_cons.mpr ⟨mx_ok_iand (show decode b_mm_shift 67 = .ok (.iand, 1) by decide +kernel), ?_⟩
  refine List.forall_mem_cons.mpr ⟨mx_ok_ishr (show decode b_mm_shift 68 = .ok (.ishr, 1) by decide +kernel), ?_⟩
  refine List.forall_mem_cons.mpr ⟨mx_ok_iret (show decode b_mm_shift 69 = .ok (.ireturn, 1) by decide +kernel) rfl, ?_⟩
  refine List.forall_mem_cons.mpr ⟨mx_ok_iload_n (show decode b_mm_shift 70 = .ok (.iload_n 2, 1) by decide +kernel) rfl, ?_⟩
  refine List.forall_mem_cons.mpr ⟨mx_ok_iload_n (show decode b_mm_shift 71 = .ok (.iload_n 3, 1) by decide +kernel) rfl, ?_⟩
  refine List.forall_mem_cons.mpr ⟨mx_ok_bipush (show decode b_mm_shift 72 = .ok (.bipush 31, 2) by decide +kernel) (by decide), ?_⟩
  refine List.forall_mem_cons.mpr ⟨mx_ok_iand (show decode b_mm_shift 74 = .ok (.iand, 1) by decide +kernel), ?_⟩
  refine List.forall_mem_cons.mpr ⟨mx_ok_iushr (show decode b_mm_shift 75 = .ok (.iushr, 1) by decide +kernel), ?_⟩
  refine List.forall_mem_cons.mpr ⟨mx_ok_iret (show decode b_mm_shift 76 = .ok (.ireturn, 1) by decide +kernel) rfl, ?_⟩
  refine List.forall_mem_cons.mpr ⟨mx_ok_iload (show decode b_mm_shift 77 = .ok (.iload 4, 2) by decide +kernel), ?_⟩
  refine List.forall_mem_cons.mpr ⟨mx_ok_iret (show decode b_mm_shift 79 = .ok (.ireturn, 1) by decide +kernel) rfl, ?_⟩
  refine List.forall_mem_cons.mpr ⟨mx_ok_iload (show decode b_mm_shift 80 = .ok (.iload 4, 2) by decide +kernel), ?_⟩
  refine List.forall_mem_cons.mpr ⟨mx_ok_bipush (show decode b_mm_shift 82 = .ok (.bipush 16, 2) by decide +kernel) (by decide), ?_⟩
  refine List.forall_mem_cons.mpr ⟨mx_ok_ishl (show decode b_mm_shift 84 = .ok (.ishl, 1) by decide +kernel), ?_⟩
  refine List.forall_mem_cons.mpr ⟨mx_ok_aload_n (show decode b_mm_shift 85 = .ok (.aload_n 0, 1) by decide +kernel) rfl, ?_⟩
  refine List.forall_mem_cons.mpr ⟨mx_ok_getf fd_mm_16 (show decode b_mm_shift 86 = .ok (.getfield 16, 3) by decide +kernel), ?_⟩
  refine List.forall_mem_cons.mpr ⟨mx_ok_iload_n (show decode b_mm_shift 89 = .ok (.iload_n 1, 1) by decide +kernel) rfl, ?_⟩
  refine List.forall_mem_cons.mpr ⟨mx_ok_invS vw_G (ct_mm_d l ) ⟨vm_341, vm_342, vm_324, ⟨by decide +kernel, by decide +kernel, by decide +kernel⟩, ⟨by decide, by decide⟩, rfl, rfl⟩ vm_343 (show decode b_mm_shift 90 = .ok (.invokestatic 102, 3) by decide +kernel), ?_⟩
  refine List.forall_mem_cons.mpr ⟨mx_ok_iald (show decode b_mm_shift 93 = .ok (.iaload, 1) by decide +kernel), ?_⟩
  refine List.forall_mem_cons.mpr ⟨mx_ok_ldc (show decode b_mm_shift 94 = .ok (.ldc 185, 2) by decide +kernel) vm_388, ?_⟩
  refine List.forall_mem_cons.mpr ⟨mx_ok_iand (show decode b_mm_shift 96 = .ok (.iand, 1) by decide +kernel), ?_⟩
  refine List.forall_mem_cons.mpr ⟨mx_ok_ior (show decode b_mm_shift 97 = .ok (.ior, 1) by decide +kernel), ?_⟩
  refine List.forall_mem_cons.mpr ⟨mx_ok_iret (show decode b_mm_shift 98 = .ok (.ireturn, 1) by decide +kernel) rfl, ?_⟩
  exact fun _ h => absurd h List.not_mem_nil
set_option maxRecDepth 100000 in
set_option maxHeartbeats 4000000 in
theorem ct_mm_shift (l : Launch) : mx_Ct l vw_T vw_cl km { frames := 1, cells := 0, slots := 0, locals := 20 } y_mm_shift b_mm_shift 5 (some .int) pre_mm_shift fn_mm_shift := by
  refine mx_ct_of (tb_mm_shift ) (by decide) (ok_mm_shift l ) (fun as u h => by obtain ⟨_, _, _, rfl, -⟩ := h; exact Nat.le_of_ble_eq_true rfl) ?_
  intro as u hpre At hc hw
  obtain ⟨a1, a2, a3, rfl, hp⟩ := hpre
  exact hc 200 [] _ _ _ _ (
    And.intro rfl (
    And.intro ⟨_, rfl, trivial⟩ (
    And.intro (fun h10_0 => 
     congrArg (mx_rI u) (show (a2 + a3) = (mm_shift a1 a2 a3 u) from ((mm_shift_eq a1 a2 a3 u).trans (if_pos h10_0)).symm)) (fun h10_0 => 
    And.intro (fun h10_1 => 
     congrArg (mx_rI u) (show (a2 - a3) = (mm_shift a1 a2 a3 u) from ((mm_shift_eq a1 a2 a3 u).trans ((if_neg h10_0).trans (if_pos h10_1))).symm)) (fun h10_1 => 
    And.intro (fun h10_2 => 
     congrArg (mx_rI u) (show (a2 <<< ((a3 &&& (31 : Int32)) &&& 31)) = (mm_shift a1 a2 a3 u) from ((mm_shift_eq a1 a2 a3 u).trans ((if_neg h10_0).trans ((if_neg h10_1).trans (if_pos h10_2)))).symm)) (fun h10_2 => 
    And.intro (fun h10_3 => 
     congrArg (mx_rI u) (show (a2 >>> ((a3 &&& (31 : Int32)) &&& 31)) = (mm_shift a1 a2 a3 u) from ((mm_shift_eq a1 a2 a3 u).trans ((if_neg h10_0).trans ((if_neg h10_1).trans ((if_neg h10_2).trans (if_pos h10_3))))).symm)) (fun h10_3 => 
    And.intro (fun h10_4 => 
     congrArg (mx_rI u) (show (a2.toUInt32 >>> ((a3 &&& (31 : Int32)).toUInt32 &&& Int32.toUInt32 31)).toInt32 = (mm_shift a1 a2 a3 u) from ((mm_shift_eq a1 a2 a3 u).trans ((if_neg h10_0).trans ((if_neg h10_1).trans ((if_neg h10_2).trans ((if_neg h10_3).trans (if_pos h10_4)))))).symm)) (fun h10_4 => 
    And.intro (fun h10_5 => 
     congrArg (mx_rI u) (show (a1 >>> ((17 : Int32) &&& 31)) = (mm_shift a1 a2 a3 u) from ((mm_shift_eq a1 a2 a3 u).trans ((if_neg h10_0).trans ((if_neg h10_1).trans ((if_neg h10_2).trans ((if_neg h10_3).trans ((if_neg h10_4).trans (if_pos h10_5))))))).symm)) (fun h10_5 => 
     And.intro rfl (
     And.intro ⟨_, rfl, trivial⟩ (
     And.intro (mm_d_in _) (
     congrArg (mx_rI u) (show (((a1 >>> ((17 : Int32) &&& 31)) <<< ((16 : Int32) &&& 31)) ||| ((mx_ga u 3 ((mm_d a1 )).toNatClampNeg) &&& (65535 : Int32))) = (mm_shift a1 a2 a3 u) from ((mm_shift_eq a1 a2 a3 u).trans ((if_neg h10_0).trans ((if_neg h10_1).trans ((if_neg h10_2).trans ((if_neg h10_3).trans ((if_neg h10_4).trans (if_neg h10_5))))))).symm)))))))))))))
/-! WideMachineModel.works(I)I -/
noncomputable def mm_works_b (a1 : Int32) (u : mx_S) : Int32 :=
  if (mm_hasB a1 ) = 0 then
   if (mm_kind a1 ) = 0 then
    (mm_logic (mm_operation a1 ) (mx_ga u 3 ((mm_a a1 )).toNatClampNeg) 0 )
   else
    if (mm_kind a1 ) = 1 then
     (mm_shift a1 (mx_ga u 3 ((mm_a a1 )).toNatClampNeg) 0 u)
    else
     if (mm_kind a1 ) = 2 then
      (mm_product (mm_operation a1 ) (mx_ga u 3 ((mm_a a1 )).toNatClampNeg) 0 )
     else
      if (mm_operation a1 ) = 0 then
       ((mx_ga u 3 ((mm_a a1 )).toNatClampNeg) + (0 : Int32))
      else
       ((mx_ga u 3 ((mm_a a1 )).toNatClampNeg) - (0 : Int32))
  else
   if (mm_kind a1 ) = 0 then
    (mm_logic (mm_operation a1 ) (mx_ga u 3 ((mm_a a1 )).toNatClampNeg) (mm_second a1 u) )
   else
    if (mm_kind a1 ) = 1 then
     (mm_shift a1 (mx_ga u 3 ((mm_a a1 )).toNatClampNeg) (mm_second a1 u) u)
    else
     if (mm_kind a1 ) = 2 then
      (mm_product (mm_operation a1 ) (mx_ga u 3 ((mm_a a1 )).toNatClampNeg) (mm_second a1 u) )
     else
      if (mm_operation a1 ) = 0 then
       ((mx_ga u 3 ((mm_a a1 )).toNatClampNeg) + (mm_second a1 u))
      else
       ((mx_ga u 3 ((mm_a a1 )).toNatClampNeg) - (mm_second a1 u))
theorem mm_works_ex : ∃ f : Int32 → mx_S → (Int32), f = mm_works_b := ⟨_, rfl⟩
noncomputable def mm_works : Int32 → mx_S → (Int32) := Classical.choose mm_works_ex
theorem mm_works_eq (a1 : Int32) (u : mx_S) : (mm_works a1 u) = (mm_works_b a1 u) := by rw [show mm_works = mm_works_b from Classical.choose_spec mm_works_ex]
def q_mm_works (a1 : Int32) (u : mx_S) : Prop :=
  (((mm_hasB a1 ) = 0) → 
   ((¬ ((mm_kind a1 ) = 0)) → 
    True) ∧ (((mm_kind a1 ) = 0) → 
    ((q_mm_logic (mm_operation a1 ) (mx_ga u 3 ((mm_a a1 )).toNatClampNeg) 0 u)))) ∧ ((¬ ((mm_hasB a1 ) = 0)) → 
   ((¬ ((mm_kind a1 ) = 0)) → 
    True) ∧ (((mm_kind a1 ) = 0) → 
    ((q_mm_logic (mm_operation a1 ) (mx_ga u 3 ((mm_a a1 )).toNatClampNeg) (mm_second a1 u) u))))
def pre_mm_works : List mx_V → mx_S → Prop := fun as u => ∃ (a1 : Int32), as = [.inr (.inr 0), .inl a1] ∧ q_mm_works a1 u
noncomputable def fn_mm_works : mx_F := fun as u => match as with
  | [_, .inl a1] => mx_rI u (mm_works a1 u)
  | _ => (none, u)
noncomputable def tb_mm_works : List (Nat × mx_T) := [
  (0, mx_aload_n 0 0),
  (1, mx_getf km 3 5 1),
  (4, mx_iload_n 1 4),
  (5, mx_invS 1 pre_mm_a fn_mm_a 5),
  (8, mx_iald km 8),
  (9, mx_istore_n 2 9),
  (10, mx_iload_n 1 10),
  (11, mx_invS 1 pre_mm_hasB fn_mm_hasB 11),
  (14, mx_if_eq 25 14),
  (17, mx_aload_n 0 17),
  (18, mx_iload_n 1 18),
  (19, mx_invV km 3 1 pre_mm_second fn_mm_second 19),
  (22, mx_goto 26 22),
  (25, mx_iconst 0 25),
  (26, mx_istore_n 3 26),
  (27, mx_iload_n 1 27),
  (28, mx_invS 1 pre_mm_kind fn_mm_kind 28),
  (31, mx_istore 4 31),
  (33, mx_iload 4 33),
  (35, mx_if_ne 50 35),
  (38, mx_iload_n 1 38),
  (39, mx_invS 1 pre_mm_operation fn_mm_operation 39),
  (42, mx_iload_n 2 42),
  (43, mx_iload_n 3 43),
  (44, mx_invS 3 pre_mm_logic fn_mm_logic 44),
  (47, mx_goto 100 47),
  (50, mx_iload 4 50),
  (52, mx_iconst 1 52),
  (53, mx_icmp_ne 66 53),
  (56, mx_aload_n 0 56),
  (57, mx_iload_n 1 57),
  (58, mx_iload_n 2 58),
  (59, mx_iload_n 3 59),
  (60, mx_invV km 3 3 pre_mm_shift fn_mm_shift 60),
  (63, mx_goto 100 63),
  (66, mx_iload 4 66),
  (68, mx_iconst 2 68),
  (69, mx_icmp_ne 84 69),
  (72, mx_iload_n 1 72),
  (73, mx_invS 1 pre_mm_operation fn_mm_operation 73),
  (76, mx_iload_n 2 76),
  (77, mx_iload_n 3 77),
  (78, mx_invS 3 pre_mm_product fn_mm_product 78),
  (81, mx_goto 100 81),
  (84, mx_iload_n 1 84),
  (85, mx_invS 1 pre_mm_operation fn_mm_operation 85),
  (88, mx_if_ne 97 88),
  (91, mx_iload_n 2 91),
  (92, mx_iload_n 3 92),
  (93, mx_iadd 93),
  (94, mx_goto 100 94),
  (97, mx_iload_n 2 97),
  (98, mx_iload_n 3 98),
  (99, mx_isub 99),
  (100, mx_iret 100)]
set_option maxRecDepth 100000 in
set_option maxHeartbeats 4000000 in
theorem ok_mm_works (l : Launch) : ∀ q ∈ tb_mm_works , mx_Ok l ({ frames := 3, cells := 0, slots := 0, locals := 62 } : Room) b_mm_works 5 "WideMachineModel" (some .int) vw_T vw_cl km q.1 q.2 := by
  refine List.forall_mem_cons.mpr ⟨mx_ok_aload_n (show decode b_mm_works 0 = .ok (.aload_n 0, 1) by decide +kernel) rfl, ?_⟩
  refine List.forall_mem_cons.mpr ⟨mx_ok_getf fd_mm_16 (show decode b_mm_works 1 = .ok (.getfield 16, 3) by decide +kernel), ?_⟩
  refine List.forall_mem_cons.mpr ⟨mx_ok_iload_n (show decode b_mm_works 4 = .ok (.iload_n 1, 1) by decide +kernel) rfl, ?_⟩
  refine List.forall_mem_cons.mpr ⟨mx_ok_invS vw_G (ct_mm_a l ) ⟨vm_350, vm_351, vm_324, ⟨by decide +kernel, by decide +kernel, by decide +kernel⟩, ⟨by decide, by decide⟩, rfl, rfl⟩ vm_352 (show decode b_mm_works 5 = .ok (.invokestatic 112, 3) by decide +kernel), ?_⟩
  refine List.forall_mem_cons.mpr ⟨mx_ok_iald (show decode b_mm_works 8 = .ok (.iaload, 1) by decide +kernel), ?_⟩
  refine List.forall_mem_cons.mpr ⟨mx_ok_istore_n (show decode b_mm_works 9 = .ok (.istore_n 2, 1) by decide +kernel) rfl (by decide), ?_⟩
  refine List.forall_mem_cons.mpr ⟨mx_ok_iload_n (show decode b_mm_works 10 = .ok (.iload_n 1, 1) by decide +kernel) rfl, ?_⟩
  refine List.forall_mem_cons.mpr ⟨mx_ok_invS vw_G (ct_mm_hasB l ) ⟨vm_366, vm_367, vm_324, ⟨by decide +kernel, by decide +kernel, by decide +kernel⟩, ⟨by decide, by decide⟩, rfl, rfl⟩ vm_368 (show decode b_mm_works 11 = .ok (.invokestatic 135, 3) by decide +kernel), ?_⟩
  refine List.forall_mem_cons.mpr ⟨mx_ok_if_eq (show decode b_mm_works 14 = .ok (.ifCond .eq 11, 3) by decide +kernel) (by decide), ?_⟩
  refine List.forall_mem_cons.mpr ⟨mx_ok_aload_n (show decode b_mm_works 17 = .ok (.aload_n 0, 1) by decide +kernel) rfl, ?_⟩
  refine List.forall_mem_cons.mpr ⟨mx_ok_iload_n (show decode b_mm_works 18 = .ok (.iload_n 1, 1) by decide +kernel) rfl, ?_⟩
  refine List.forall_mem_cons.mpr ⟨mx_ok_invV vw_G (ct_mm_second l ) ⟨vm_359, vm_360, vm_324, ⟨by decide +kernel, by decide +kernel, by decide +kernel⟩, ⟨by decide, by decide⟩, rfl, rfl⟩ vm_361 vm_362 rfl (show decode b_mm_works 19 = .ok (.invokevirtual 166, 3) by decide +kernel), ?_⟩
  refine List.forall_mem_cons.mpr ⟨mx_ok_goto (show decode b_mm_works 22 = .ok (.goto 4, 3) by decide +kernel) (by decide), ?_⟩
  refine List.forall_mem_cons.mpr ⟨mx_ok_iconst (show decode b_mm_works 25 = .ok (.iconst 0, 1) by decide +kernel) (by decide), ?_⟩
  refine List.forall_mem_cons.mpr ⟨mx_ok_istore_n (show decode b_mm_works 26 = .ok (.istore_n 3, 1) by decide +kernel) rfl (by decide), ?_⟩
  refine List.forall_mem_cons.mpr ⟨mx_ok_iload_n (show decode b_mm_works 27 = .ok (.iload_n 1, 1) by decide +kernel) rfl, ?_⟩
  refine List.forall_mem_cons.mpr ⟨mx_ok_invS vw_G (ct_mm_kind l ) ⟨vm_322, vm_323, vm_324, ⟨by decide +kernel, by decide +kernel, by decide +kernel⟩, ⟨by decide, by decide⟩, rfl, rfl⟩ vm_325 (show decode b_mm_works 28 = .ok (.invokestatic 81, 3) by decide +kernel), ?_⟩
  refine List.forall_mem_cons.mpr ⟨mx_ok_istore (show decode b_mm_works 31 = .ok (.istore 4, 2) by decide +kernel) (by decide), ?_⟩
  refine List.forall_mem_cons.mpr ⟨mx_ok_iload (show decode b_mm_works 33 = .ok (.iload 4, 2) by decide +kernel), ?_⟩
  refine List.forall_mem_cons.mpr ⟨mx_ok_if_ne (show decode b_mm_works 35 = .ok (.ifCond .ne 15, 3) by decide +kernel) (by decide), ?_⟩
  refine List.forall_mem_cons.mpr ⟨mx_ok_iload_n (show decode b_mm_works 38 = .ok (.iload_n 1, 1) by decide +kernel) rfl, ?_⟩
  refine List.forall_mem_cons.mpr ⟨mx_ok_invS vw_G (ct_mm_operation l ) ⟨vm_326, vm_327, vm_324, ⟨by decide +kernel, by decide +kernel, by decide +kernel⟩, ⟨by decide, by decide⟩, rfl, rfl⟩ vm_328 (show decode b_mm_works 39 = .ok (.invokestatic 85, 3) by decide +kernel), ?_⟩
  refine List.forall_mem_cons.mpr ⟨mx_ok_iload_n (show decode b_mm_works 42 = .ok (.iload_n 2, 1) by decide +kernel) rfl, ?_⟩
  refine List.forall_mem_cons.mpr ⟨mx_ok_iload_n (show decode b_mm_works 43 = .ok (.iload_n 3, 1) by decide +kernel) rfl, ?_⟩
  refine List.forall_mem_cons.mpr ⟨mx_ok_invS vw_G (ct_mm_logic l ) ⟨vm_390, vm_391, vm_324, ⟨by decide +kernel, by decide +kernel, by decide +kernel⟩, ⟨by decide, by decide⟩, rfl, rfl⟩ vm_392 (show decode b_mm_works 44 = .ok (.invokestatic 169, 3) by decide +kernel), ?_⟩
  refine List.forall_mem_cons.mpr ⟨mx_ok_goto (show decode b_mm_works 47 = .ok (.goto 53, 3) by decide +kernel) (by decide), ?_⟩
  refine List.forall_mem_cons.mpr ⟨mx_ok_iload (show decode b_mm_works 50 = .ok (.iload 4, 2) by decide +kernel), ?_⟩
  refine List.forall_mem_cons.mpr ⟨mx_ok_iconst (show decode b_mm_works 52 = .ok (.iconst 1, 1) by decide +kernel) (by decide), ?_⟩
  refine List.forall_mem_cons.mpr ⟨mx_ok_icmp_ne (show decode b_mm_works 53 = .ok (.if_icmp .ne 13, 3) by decide +kernel) (by decide), ?_⟩
  refine List.forall_mem_cons.mpr ⟨mx_ok_aload_n (show decode b_mm_works 56 = .ok (.aload_n 0, 1) by decide +kernel) rfl, ?_⟩
  refine List.forall_mem_cons.mpr ⟨mx_ok_iload_n (show decode b_mm_works 57 = .ok (.iload_n 1, 1) by decide +kernel) rfl, ?_⟩
  refine List.forall_mem_cons.mpr ⟨mx_ok_iload_n (show decode b_mm_works 58 = .ok (.iload_n 2, 1) by decide +kernel) rfl, ?_⟩
  refine List.forall_mem_cons.mpr ⟨mx_ok_iload_n (show decode b_mm_works 59 = .ok (.iload_n 3, 1) by decide +kernel) rfl, ?_⟩
  refine List.forall_mem_cons.mpr ⟨mx_ok_invV vw_G (ct_mm_shift l ) ⟨vm_393, vm_394, vm_324, ⟨by decide +kernel, by decide +kernel, by decide +kernel⟩, ⟨by decide, by decide⟩, rfl, rfl⟩ vm_395 vm_396 rfl (show decode b_mm_works 60 = .ok (.invokevirtual 173, 3) by decide +kernel), ?_⟩
  refine List.forall_mem_cons.mpr ⟨mx_ok_goto (show decode b_mm_works 63 = .ok (.goto 37, 3) by decide +kernel) (by decide), ?_⟩
  refine List.forall_mem_cons.mpr ⟨mx_ok_iload (show decode b_mm_works 66 = .ok (.iload 4, 2) by decide +kernel), ?_⟩
  refine List.forall_mem_cons.mpr ⟨mx_ok_iconst (show decode b_mm_works 68 = .ok (.iconst 2, 1) by decide +kernel) (by decide), ?_⟩
  refine List.forall_mem_cons.mpr ⟨mx_ok_icmp_ne (show decode b_mm_works 69 = .ok (.if_icmp .ne 15, 3) by decide +kernel) (by decide), ?_⟩
  refine List.forall_mem_cons.mpr ⟨mx_ok_iload_n (show decode b_mm_works 72 = .ok (.iload_n 1, 1) by decide +kernel) rfl, ?_⟩
  refine List.forall_mem_cons.mpr ⟨mx_ok_invS vw_G (ct_mm_operation l ) ⟨vm_326, vm_327, vm_324, ⟨by decide +kernel, by decide +kernel, by decide +kernel⟩, ⟨by decide, by decide⟩, rfl, rfl⟩ vm_328 (show decode b_mm_works 73 = .ok (.invokestatic 85, 3) by decide +kernel), ?_⟩
  refine List.forall_mem_cons.mpr ⟨mx_ok_iload_n (show decode b_mm_works 76 = .ok (.iload_n 2, 1) by decide +kernel) rfl, ?_⟩
  refine List.forall_mem_cons.mpr ⟨mx_ok_iload_n (show decode b_mm_works 77 = .ok (.iload_n 3, 1) by decide +kernel) rfl, ?_⟩
  refine List.forall_mem_cons.mpr ⟨mx_ok_invS vw_G (ct_mm_product l ) ⟨vm_397, vm_398, vm_324, ⟨by decide +kernel, by decide +kernel, by decide +kernel⟩, ⟨by decide, by decide⟩, rfl, rfl⟩ vm_399 (show decode b_mm_works 78 = .ok (.invokestatic 176, 3) by decide +kernel), ?_⟩
  refine List.forall_mem_cons.mpr ⟨mx_ok_goto (show decode b_mm_works 81 = .ok (.goto 19, 3) by decide +kernel) (by decide), ?_⟩
  refine List.forall_mem_cons.mpr ⟨mx_ok_iload_n (show decode b_mm_works 84 = .ok (.iload_n 1, 1) by decide +kernel) rfl, ?_⟩
  refine List.forall_mem_cons.mpr ⟨mx_ok_invS vw_G (ct_mm_operation l ) ⟨vm_326, vm_327, vm_324, ⟨by decide +kernel, by decide +kernel, by decide +kernel⟩, ⟨by decide, by decide⟩, rfl, rfl⟩ vm_328 (show decode b_mm_works 85 = .ok (.invokestatic 85, 3) by decide +kernel), ?_⟩
  refine List.forall_mem_cons.mpr ⟨mx_ok_if_ne (show decode b_mm_works 88 = .ok (.ifCond .ne 9, 3) by decide +kernel) (by decide), ?_⟩
  refine List.forall_mem_cons.mpr ⟨mx_ok_iload_n (show decode b_mm_works 91 = .ok (.iload_n 2, 1) by decide +kernel) rfl, ?_⟩
  refine List.forall_mem_cons.mpr ⟨mx_ok_iload_n (show decode b_mm_works 92 = .ok (.iload_n 3, 1) by decide +kernel) rfl, ?_⟩
  refine List.forall_mem_cons.mpr ⟨mx_ok_iadd (show decode b_mm_works 93 = .ok (.iadd, 1) by decide +kernel), ?_⟩
  refine List.forall_mem_cons.mpr ⟨mx_ok_goto (show decode b_mm_works 94 = .ok (.goto 6, 3) by decide +kernel) (by decide), ?_⟩
  refine List.forall_mem_cons.mpr ⟨mx_ok_iload_n (show decode b_mm_works 97 = .ok (.iload_n 2, 1) by decide +kernel) rfl, ?_⟩
  refine List.forall_mem_cons.mpr ⟨mx_ok_iload_n (show decode b_mm_works 98 = .ok (.iload_n 3, 1) by decide +kernel) rfl, ?_⟩
  refine List.forall_mem_cons.mpr ⟨mx_ok_isub (show decode b_mm_works 99 = .ok (.isub, 1) by decide +kernel), ?_⟩
  refine List.forall_mem_cons.mpr ⟨mx_ok_iret (show decode b_mm_works 100 = .ok (.ireturn, 1) by decide +kernel) rfl, ?_⟩
  exact fun _ h => absurd h List.not_mem_nil
set_option maxRecDepth 100000 in
set_option maxHeartbeats 4000000 in
theorem ct_mm_works (l : Launch) : mx_Ct l vw_T vw_cl km { frames := 3, cells := 0, slots := 0, locals := 62 } y_mm_works b_mm_works 5 (some .int) pre_mm_works fn_mm_works := by
  refine mx_ct_of (tb_mm_works ) (by decide) (ok_mm_works l ) (fun as u h => by obtain ⟨_, rfl, -⟩ := h; exact Nat.le_of_ble_eq_true rfl) ?_
  intro as u hpre At hc hw
  obtain ⟨a1, rfl, hp⟩ := hpre
  exact hc 200 [] _ _ _ _ (
    And.intro rfl (
    And.intro ⟨_, rfl, trivial⟩ (
    And.intro (mm_a_in _) (
    And.intro rfl (
    And.intro ⟨_, rfl, trivial⟩ (
    And.intro (fun h14 => 
     And.intro rfl (
     And.intro ⟨_, rfl, trivial⟩ (
     And.intro (fun h35 => 
      And.intro (fun h53 => 
       And.intro (fun h69 => 
        And.intro rfl (
        And.intro ⟨_, rfl, trivial⟩ (
        And.intro (fun h88 => 
         congrArg (mx_rI u) (show ((mx_ga u 3 ((mm_a a1 )).toNatClampNeg) - (0 : Int32)) = (mm_works a1 u) from ((mm_works_eq a1 u).trans ((if_pos h14).trans ((if_neg h35).trans ((if_neg h53).trans ((if_neg h69).trans (if_neg h88)))))).symm)) (fun h88 => 
         congrArg (mx_rI u) (show ((mx_ga u 3 ((mm_a a1 )).toNatClampNeg) + (0 : Int32)) = (mm_works a1 u) from ((mm_works_eq a1 u).trans ((if_pos h14).trans ((if_neg h35).trans ((if_neg h53).trans ((if_neg h69).trans (if_pos h88)))))).symm))))) (fun h69 => 
        And.intro rfl (
        And.intro ⟨_, rfl, trivial⟩ (
        And.intro rfl (
        And.intro ⟨_, _, _, rfl, trivial⟩ (
        congrArg (mx_rI u) (show (mm_product (mm_operation a1 ) (mx_ga u 3 ((mm_a a1 )).toNatClampNeg) 0 ) = (mm_works a1 u) from ((mm_works_eq a1 u).trans ((if_pos h14).trans ((if_neg h35).trans ((if_neg h53).trans (if_pos h69))))).symm))))))) (fun h53 => 
       And.intro rfl (
       And.intro ⟨_, _, _, rfl, trivial⟩ (
       congrArg (mx_rI u) (show (mm_shift a1 (mx_ga u 3 ((mm_a a1 )).toNatClampNeg) 0 u) = (mm_works a1 u) from ((mm_works_eq a1 u).trans ((if_pos h14).trans ((if_neg h35).trans (if_pos h53)))).symm))))) (fun h35 => 
      And.intro rfl (
      And.intro ⟨_, rfl, trivial⟩ (
      And.intro rfl (
      And.intro ⟨_, _, _, rfl, ((hp.1 h14).2 h35)⟩ (
      congrArg (mx_rI u) (show (mm_logic (mm_operation a1 ) (mx_ga u 3 ((mm_a a1 )).toNatClampNeg) 0 ) = (mm_works a1 u) from ((mm_works_eq a1 u).trans ((if_pos h14).trans (if_pos h35))).symm))))))))) (fun h14 => 
     And.intro rfl (
     And.intro ⟨_, rfl, trivial⟩ (
     And.intro rfl (
     And.intro ⟨_, rfl, trivial⟩ (
     And.intro (fun h35 => 
      And.intro (fun h53 => 
       And.intro (fun h69 => 
        And.intro rfl (
        And.intro ⟨_, rfl, trivial⟩ (
        And.intro (fun h88 => 
         congrArg (mx_rI u) (show ((mx_ga u 3 ((mm_a a1 )).toNatClampNeg) - (mm_second a1 u)) = (mm_works a1 u) from ((mm_works_eq a1 u).trans ((if_neg h14).trans ((if_neg h35).trans ((if_neg h53).trans ((if_neg h69).trans (if_neg h88)))))).symm)) (fun h88 => 
         congrArg (mx_rI u) (show ((mx_ga u 3 ((mm_a a1 )).toNatClampNeg) + (mm_second a1 u)) = (mm_works a1 u) from ((mm_works_eq a1 u).trans ((if_neg h14).trans ((if_neg h35).trans ((if_neg h53).trans ((if_neg h69).trans (if_pos h88)))))).symm))))) (fun h69 => 
        And.intro rfl (
        And.intro ⟨_, rfl, trivial⟩ (
        And.intro rfl (
        And.intro ⟨_, _, _, rfl, trivial⟩ (
        congrArg (mx_rI u) (show (mm_product (mm_operation a1 ) (mx_ga u 3 ((mm_a a1 )).toNatClampNeg) (mm_second a1 u) ) = (mm_works a1 u) from ((mm_works_eq a1 u).trans ((if_neg h14).trans ((if_neg h35).trans ((if_neg h53).trans (if_pos h69))))).symm))))))) (fun h53 => 
       And.intro rfl (
       And.intro ⟨_, _, _, rfl, trivial⟩ (
       congrArg (mx_rI u) (show (mm_shift a1 (mx_ga u 3 ((mm_a a1 )).toNatClampNeg) (mm_second a1 u) u) = (mm_works a1 u) from ((mm_works_eq a1 u).trans ((if_neg h14).trans ((if_neg h35).trans (if_pos h53)))).symm))))) (fun h35 => 
      And.intro rfl (
      And.intro ⟨_, rfl, trivial⟩ (
      And.intro rfl (
      And.intro ⟨_, _, _, rfl, ((hp.2 h14).2 h35)⟩ (
      congrArg (mx_rI u) (show (mm_logic (mm_operation a1 ) (mx_ga u 3 ((mm_a a1 )).toNatClampNeg) (mm_second a1 u) ) = (mm_works a1 u) from ((mm_works_eq a1 u).trans ((if_neg h14).trans (if_pos h35))).symm)))))))))))))))))
/-! WideMachineModel.packet(I)V -/
noncomputable def mm_packet_l139 (a1 : Int32) : Nat → Int32 → Int32 → mx_S → (mx_S)
  | 0, _, _, u => u
  | n + 1, v2, v3, u =>
    if (mx_gf u 0 20) ≤ v3 then
     if v2 = 0 then
      (mx_sf (mx_sf u 0 7 a1) 0 6 0)
     else
      (mx_sf (mx_sf u 0 7 a1) 0 6 9)
    else
     mm_packet_l139 a1 n v2 (v3 + 1) (mx_sa u 2 ((mx_ga u 9 (v3).toNatClampNeg)).toNatClampNeg (mx_ga u 10 (v3).toNatClampNeg))
def q_mm_packet_l139 (a1 : Int32) : Nat → Int32 → Int32 → mx_S → Prop
  | 0, _, _, _ => False
  | n + 1, v2, v3, u =>
    (((mx_gf u 0 20) ≤ v3) → 
     True) ∧ ((¬ ((mx_gf u 0 20) ≤ v3)) → 
     (vp_in v3 8) ∧ (
      (vp_in v3 8) ∧ (
       (vp_in (mx_ga u 9 (v3).toNatClampNeg) 256) ∧ (
        q_mm_packet_l139 a1 n v2 (v3 + 1) (mx_sa u 2 ((mx_ga u 9 (v3).toNatClampNeg)).toNatClampNeg (mx_ga u 10 (v3).toNatClampNeg))))))
noncomputable def mm_packet_l12 (a1 : Int32) : Nat → Int32 → Int32 → mx_S → (mx_S)
  | 0, _, _, u => u
  | n + 1, v2, v3, u =>
    if a1 ≤ v3 then
     mm_packet_l139 a1 20 v2 0 u
    else
     if (mm_isDone (mx_ga u 1 (v3).toNatClampNeg) u) = 0 then
      mm_packet_l12 a1 n v2 (v3 + 1) u
     else
      if (mm_isS (mx_ga u 1 (v3).toNatClampNeg) 7 11 ) = 0 then
       if (mm_kind (mx_ga u 1 (v3).toNatClampNeg) ) = 3 then
        if (mm_operation (mx_ga u 1 (v3).toNatClampNeg) ) ≤ 1 then
         if (mm_kind (mx_ga u 1 (v3).toNatClampNeg) ) = 2 then
          mm_packet_l12 a1 n v2 (v3 + 1) (mm_write (mm_d (mx_ga u 1 (v3).toNatClampNeg) ) (mm_works (mx_ga u 1 (v3).toNatClampNeg) u) 2 u)
         else
          mm_packet_l12 a1 n v2 (v3 + 1) (mm_write (mm_d (mx_ga u 1 (v3).toNatClampNeg) ) (mm_works (mx_ga u 1 (v3).toNatClampNeg) u) 1 u)
        else
         mm_packet_l12 a1 n v2 (v3 + 1) (mm_meets (mx_ga u 1 (v3).toNatClampNeg) u)
       else
        if (mm_kind (mx_ga u 1 (v3).toNatClampNeg) ) = 2 then
         mm_packet_l12 a1 n v2 (v3 + 1) (mm_write (mm_d (mx_ga u 1 (v3).toNatClampNeg) ) (mm_works (mx_ga u 1 (v3).toNatClampNeg) u) 2 u)
        else
         mm_packet_l12 a1 n v2 (v3 + 1) (mm_write (mm_d (mx_ga u 1 (v3).toNatClampNeg) ) (mm_works (mx_ga u 1 (v3).toNatClampNeg) u) 1 u)
      else
       if v2 = 0 then
        if (mm_operation (mx_ga u 1 (v3).toNatClampNeg) ) = 11 then
         mm_packet_l12 a1 n 1 (v3 + 1) (mm_controls (mx_ga u 1 (v3).toNatClampNeg) u)
        else
         mm_packet_l12 a1 n 0 (v3 + 1) (mm_controls (mx_ga u 1 (v3).toNatClampNeg) u)
       else
        mm_packet_l12 a1 n 1 (v3 + 1) (mm_controls (mx_ga u 1 (v3).toNatClampNeg) u)
def q_mm_packet_l12 (a1 : Int32) : Nat → Int32 → Int32 → mx_S → Prop
  | 0, _, _, _ => False
  | n + 1, v2, v3, u =>
    ((a1 ≤ v3) → 
     q_mm_packet_l139 a1 20 v2 0 u) ∧ ((¬ (a1 ≤ v3)) → 
     (vp_in v3 256) ∧ (
      ((q_mm_isDone (mx_ga u 1 (v3).toNatClampNeg) u)) ∧ (
       (((mm_isDone (mx_ga u 1 (v3).toNatClampNeg) u) = 0) → 
        q_mm_packet_l12 a1 n v2 (v3 + 1) u) ∧ ((¬ ((mm_isDone (mx_ga u 1 (v3).toNatClampNeg) u) = 0)) → 
        (((mm_isS (mx_ga u 1 (v3).toNatClampNeg) 7 11 ) = 0) → 
         ((¬ ((mm_kind (mx_ga u 1 (v3).toNatClampNeg) ) = 3)) → 
          ((q_mm_works (mx_ga u 1 (v3).toNatClampNeg) u)) ∧ (
           ((¬ ((mm_kind (mx_ga u 1 (v3).toNatClampNeg) ) = 2)) → 
            ((q_mm_write (mm_d (mx_ga u 1 (v3).toNatClampNeg) ) (mm_works (mx_ga u 1 (v3).toNatClampNeg) u) 1 u)) ∧ (
             q_mm_packet_l12 a1 n v2 (v3 + 1) (mm_write (mm_d (mx_ga u 1 (v3).toNatClampNeg) ) (mm_works (mx_ga u 1 (v3).toNatClampNeg) u) 1 u))) ∧ (((mm_kind (mx_ga u 1 (v3).toNatClampNeg) ) = 2) → 
            ((q_mm_write (mm_d (mx_ga u 1 (v3).toNatClampNeg) ) (mm_works (mx_ga u 1 (v3).toNatClampNeg) u) 2 u)) ∧ (
             q_mm_packet_l12 a1 n v2 (v3 + 1) (mm_write (mm_d (mx_ga u 1 (v3).toNatClampNeg) ) (mm_works (mx_ga u 1 (v3).toNatClampNeg) u) 2 u))))) ∧ (((mm_kind (mx_ga u 1 (v3).toNatClampNeg) ) = 3) → 
          (((mm_operation (mx_ga u 1 (v3).toNatClampNeg) ) ≤ 1) → 
           ((q_mm_works (mx_ga u 1 (v3).toNatClampNeg) u)) ∧ (
            ((¬ ((mm_kind (mx_ga u 1 (v3).toNatClampNeg) ) = 2)) → 
             ((q_mm_write (mm_d (mx_ga u 1 (v3).toNatClampNeg) ) (mm_works (mx_ga u 1 (v3).toNatClampNeg) u) 1 u)) ∧ (
              q_mm_packet_l12 a1 n v2 (v3 + 1) (mm_write (mm_d (mx_ga u 1 (v3).toNatClampNeg) ) (mm_works (mx_ga u 1 (v3).toNatClampNeg) u) 1 u))) ∧ (((mm_kind (mx_ga u 1 (v3).toNatClampNeg) ) = 2) → 
             ((q_mm_write (mm_d (mx_ga u 1 (v3).toNatClampNeg) ) (mm_works (mx_ga u 1 (v3).toNatClampNeg) u) 2 u)) ∧ (
              q_mm_packet_l12 a1 n v2 (v3 + 1) (mm_write (mm_d (mx_ga u 1 (v3).toNatClampNeg) ) (mm_works (mx_ga u 1 (v3).toNatClampNeg) u) 2 u))))) ∧ ((¬ ((mm_operation (mx_ga u 1 (v3).toNatClampNeg) ) ≤ 1)) → 
           ((q_mm_meets (mx_ga u 1 (v3).toNatClampNeg) u)) ∧ (
            q_mm_packet_l12 a1 n v2 (v3 + 1) (mm_meets (mx_ga u 1 (v3).toNatClampNeg) u))))) ∧ ((¬ ((mm_isS (mx_ga u 1 (v3).toNatClampNeg) 7 11 ) = 0)) → 
         ((q_mm_controls (mx_ga u 1 (v3).toNatClampNeg) u)) ∧ (
          ((¬ (v2 = 0)) → 
           q_mm_packet_l12 a1 n 1 (v3 + 1) (mm_controls (mx_ga u 1 (v3).toNatClampNeg) u)) ∧ ((v2 = 0) → 
           ((¬ ((mm_operation (mx_ga u 1 (v3).toNatClampNeg) ) = 11)) → 
            q_mm_packet_l12 a1 n 0 (v3 + 1) (mm_controls (mx_ga u 1 (v3).toNatClampNeg) u)) ∧ (((mm_operation (mx_ga u 1 (v3).toNatClampNeg) ) = 11) → 
            q_mm_packet_l12 a1 n 1 (v3 + 1) (mm_controls (mx_ga u 1 (v3).toNatClampNeg) u)))))))))
noncomputable def mm_packet_b (a1 : Int32) (u : mx_S) : mx_S :=
  mm_packet_l12 a1 20 0 (mx_gf (mx_sf u 0 20 0) 0 7) (mx_sf u 0 20 0)
theorem mm_packet_ex : ∃ f : Int32 → mx_S → (mx_S), f = mm_packet_b := ⟨_, rfl⟩
noncomputable def mm_packet : Int32 → mx_S → (mx_S) := Classical.choose mm_packet_ex
theorem mm_packet_eq (a1 : Int32) (u : mx_S) : (mm_packet a1 u) = (mm_packet_b a1 u) := by rw [show mm_packet = mm_packet_b from Classical.choose_spec mm_packet_ex]
def q_mm_packet (a1 : Int32) (u : mx_S) : Prop :=
  q_mm_packet_l12 a1 20 0 (mx_gf (mx_sf u 0 20 0) 0 7) (mx_sf u 0 20 0)
def pre_mm_packet : List mx_V → mx_S → Prop := fun as u => ∃ (a1 : Int32), as = [.inr (.inr 0), .inl a1] ∧ q_mm_packet a1 u
noncomputable def fn_mm_packet : mx_F := fun as u => match as with
  | [_, .inl a1] => (none, (mm_packet a1 u))
  | _ => (none, u)
noncomputable def tb_mm_packet : List (Nat × mx_T) := [
  (0, mx_iconst 0 0),
  (1, mx_istore_n 2 1),
  (2, mx_aload_n 0 2),
  (3, mx_iconst 0 3),
  (4, mx_putf km 3 20 4),
  (7, mx_aload_n 0 7),
  (8, mx_getf km 3 7 8),
  (11, mx_istore_n 3 11),
  (12, mx_iload_n 3 12),
  (13, mx_iload_n 1 13),
  (14, mx_icmp_ge 137 14),
  (17, mx_aload_n 0 17),
  (18, mx_getf km 3 3 18),
  (21, mx_iload_n 3 21),
  (22, mx_iald km 22),
  (23, mx_istore 4 23),
  (25, mx_aload_n 0 25),
  (26, mx_iload 4 26),
  (28, mx_invV km 3 1 pre_mm_isDone fn_mm_isDone 28),
  (31, mx_if_eq 131 31),
  (34, mx_iload 4 34),
  (36, mx_bipush 7 36),
  (38, mx_bipush 11 38),
  (40, mx_invS 3 pre_mm_isS fn_mm_isS 40),
  (43, mx_if_eq 75 43),
  (46, mx_aload_n 0 46),
  (47, mx_iload 4 47),
  (49, mx_invV km 3 1 pre_mm_controls fn_mm_controls 49),
  (52, mx_iload_n 2 52),
  (53, mx_if_ne 66 53),
  (56, mx_iload 4 56),
  (58, mx_invS 1 pre_mm_operation fn_mm_operation 58),
  (61, mx_bipush 11 61),
  (63, mx_icmp_ne 70 63),
  (66, mx_iconst 1 66),
  (67, mx_goto 71 67),
  (70, mx_iconst 0 70),
  (71, mx_istore_n 2 71),
  (72, mx_goto 131 72),
  (75, mx_iload 4 75),
  (77, mx_invS 1 pre_mm_kind fn_mm_kind 77),
  (80, mx_iconst 3 80),
  (81, mx_icmp_ne 102 81),
  (84, mx_iload 4 84),
  (86, mx_invS 1 pre_mm_operation fn_mm_operation 86),
  (89, mx_iconst 1 89),
  (90, mx_icmp_le 102 90),
  (93, mx_aload_n 0 93),
  (94, mx_iload 4 94),
  (96, mx_invV km 3 1 pre_mm_meets fn_mm_meets 96),
  (99, mx_goto 131 99),
  (102, mx_aload_n 0 102),
  (103, mx_iload 4 103),
  (105, mx_invS 1 pre_mm_d fn_mm_d 105),
  (108, mx_aload_n 0 108),
  (109, mx_iload 4 109),
  (111, mx_invV km 3 1 pre_mm_works fn_mm_works 111),
  (114, mx_iload 4 114),
  (116, mx_invS 1 pre_mm_kind fn_mm_kind 116),
  (119, mx_iconst 2 119),
  (120, mx_icmp_ne 127 120),
  (123, mx_iconst 2 123),
  (124, mx_goto 128 124),
  (127, mx_iconst 1 127),
  (128, mx_invV km 3 3 pre_mm_write fn_mm_write 128),
  (131, mx_iinc 3 1 131),
  (134, mx_goto 12 134),
  (137, mx_iconst 0 137),
  (138, mx_istore_n 3 138),
  (139, mx_iload_n 3 139),
  (140, mx_aload_n 0 140),
  (141, mx_getf km 3 20 141),
  (144, mx_icmp_ge 170 144),
  (147, mx_aload_n 0 147),
  (148, mx_getf km 3 4 148),
  (151, mx_aload_n 0 151),
  (152, mx_getf km 3 21 152),
  (155, mx_iload_n 3 155),
  (156, mx_iald km 156),
  (157, mx_aload_n 0 157),
  (158, mx_getf km 3 22 158),
  (161, mx_iload_n 3 161),
  (162, mx_iald km 162),
  (163, mx_iast km 163),
  (164, mx_iinc 3 1 164),
  (167, mx_goto 139 167),
  (170, mx_aload_n 0 170),
  (171, mx_iload_n 1 171),
  (172, mx_putf km 3 7 172),
  (175, mx_aload_n 0 175),
  (176, mx_iload_n 2 176),
  (177, mx_if_eq 185 177),
  (180, mx_bipush 9 180),
  (182, mx_goto 186 182),
  (185, mx_iconst 0 185),
  (186, mx_putf km 3 6 186),
  (189, mx_vret 189)]
set_option maxRecDepth 100000 in
set_option maxHeartbeats 4000000 in
theorem ok_mm_packet (l : Launch) : ∀ q ∈ tb_mm_packet , mx_Ok l ({ frames := 4, cells := 0, slots := 0, locals := 86 } : Room) b_mm_packet 5 "WideMachineModel" none vw_T vw_cl km q.1 q.2 := by
  refine List.forall_mem_cons.mpr ⟨mx_ok_iconst (show decode b_mm_packet 0 = .ok (.iconst 0, 1) by decide +kernel) (by decide), ?_⟩
  refine List.forall_mem_cons.mpr ⟨mx_ok_istore_n (show decode b_mm_packet 1 = .ok (.istore_n 2, 1) by decide +kernel) rfl (by decide), ?_⟩
  refine List.forall_mem_cons.mpr ⟨mx_ok_aload_n (show decode b_mm_packet 2 = .ok (.aload_n 0, 1) by decide +kernel) rfl, ?_⟩
  refine List.forall_mem_cons.mpr ⟨mx_ok_iconst (show decode b_mm_packet 3 = .ok (.iconst 0, 1) by decide +kernel) (by decide), ?_⟩
  refine List.forall_mem_cons.mpr ⟨mx_ok_putf fd_mm_150 fw_3_20 (show decode b_mm_packet 4 = .ok (.putfield 150, 3) by decide +kernel), ?_⟩
  refine List.forall_mem_cons.mpr ⟨mx_ok_aload_n (show decode b_mm_packet 7 = .ok (.aload_n 0, 1) by decide +kernel) rfl, ?_⟩
  refine List.forall_mem_cons.mpr ⟨mx_ok_getf fd_mm_53 (show decode b_mm_packet 8 = .ok (.getfield 53, 3) by decide +kernel), ?_⟩
  refine List.forall_mem_cons.mpr ⟨mx_ok_istore_n (show decode b_mm_packet 11 = .ok (.istore_n 3, 1) by decide +kernel) rfl (by decide), ?_⟩
  refine List.forall_mem_cons.mpr ⟨mx_ok_iload_n (show decode b_mm_packet 12 = .ok (.iload_n 3, 1) by decide +kernel) rfl, ?_⟩
  refine List.forall_mem_cons.mpr ⟨mx_ok_iload_n (show decode b_mm_packet 13 = .ok (.iload_n 1, 1) by decide +kernel) rfl, ?_⟩
  refine List.forall_mem_cons.mpr ⟨mx_ok_icmp_ge (show decode b_mm_packet 14 = .ok (.if_icmp .ge 123, 3) by decide +kernel) (by decide), ?_⟩
  refine List.forall_mem_cons.mpr ⟨mx_ok_aload_n (show decode b_mm_packet 17 = .ok (.aload_n 0, 1) by decide +kernel) rfl, ?_⟩
  refine List.forall_mem_cons.mpr ⟨mx_ok_getf fd_mm_7 (show decode b_mm_packet 18 = .ok (.getfield 7, 3) by decide +kernel), ?_⟩
  refine List.forall_mem_cons.mpr ⟨mx_ok_iload_n (show decode b_mm_packet 21 = .ok (.iload_n 3, 1) by decide +kernel) rfl, ?_⟩
  refine List.forall_mem_cons.mpr ⟨mx_ok_iald (show decode b_mm_packet 22 = .ok (.iaload, 1) by decide +kernel), ?_⟩
  refine List.forall_mem_cons.mpr ⟨mx_ok_istore (show decode b_mm_packet 23 = .ok (.istore 4, 2) by decide +kernel) (by decide), ?_⟩
  refine List.forall_mem_cons.mpr ⟨mx_ok_aload_n (show decode b_mm_packet 25 = .ok (.aload_n 0, 1) by decide +kernel) rfl, ?_⟩
  refine List.forall_mem_cons.mpr ⟨mx_ok_iload (show decode b_mm_packet 26 = .ok (.iload 4, 2) by decide +kernel), ?_⟩
  refine List.forall_mem_cons.mpr ⟨mx_ok_invV vw_G (ct_mm_isDone l ) ⟨vm_369, vm_370, vm_324, ⟨by decide +kernel, by decide +kernel, by decide +kernel⟩, ⟨by decide, by decide⟩, rfl, rfl⟩ vm_371 vm_372 rfl (show decode b_mm_packet 28 = .ok (.invokevirtual 144, 3) by decide +kernel), ?_⟩
  refine List.forall_mem_cons.mpr ⟨mx_ok_if_eq (show decode b_mm_packet 31 = .ok (.ifCond .eq 100, 3) by decide +kernel) (by decide), ?_⟩
  refine List.forall_mem_cons.mpr ⟨mx_ok_iload (show decode b_mm_packet 34 = .ok (.iload 4, 2) by decide +kernel), ?_⟩
  refine List.forall_mem_cons.mpr ⟨mx_ok_bipush (show decode b_mm_packet 36 = .ok (.bipush 7, 2) by decide +kernel) (by decide), ?_⟩
  refine List.forall_mem_cons.mpr ⟨mx_ok_bipush (show decode b_mm_packet 38 = .ok (.bipush 11, 2) by decide +kernel) (by decide), ?_⟩
  refine List.forall_mem_cons.mpr ⟨mx_ok_invS vw_G (ct_mm_isS l ) ⟨vm_329, vm_330, vm_324, ⟨by decide +kernel, by decide +kernel, by decide +kernel⟩, ⟨by decide, by decide⟩, rfl, rfl⟩ vm_331 (show decode b_mm_packet 40 = .ok (.invokestatic 88, 3) by decide +kernel), ?_⟩
  refine List.forall_mem_cons.mpr ⟨mx_ok_if_eq (show decode b_mm_packet 43 = .ok (.ifCond .eq 32, 3) by decide +kernel) (by decide), ?_⟩
  refine List.forall_mem_cons.mpr ⟨mx_ok_aload_n (show decode b_mm_packet 46 = .ok (.aload_n 0, 1) by decide +kernel) rfl, ?_⟩
  refine List.forall_mem_cons.mpr ⟨mx_ok_iload (show decode b_mm_packet 47 = .ok (.iload 4, 2) by decide +kernel), ?_⟩
  refine List.forall_mem_cons.mpr ⟨mx_ok_invV vw_G (ct_mm_controls l ) ⟨vm_400, vm_401, vm_324, ⟨by decide +kernel, by decide +kernel, by decide +kernel⟩, ⟨by decide, by decide⟩, rfl, rfl⟩ vm_402 vm_403 rfl (show decode b_mm_packet 49 = .ok (.invokevirtual 153, 3) by decide +kernel), ?_⟩
  refine List.forall_mem_cons.mpr ⟨mx_ok_iload_n (show decode b_mm_packet 52 = .ok (.iload_n 2, 1) by decide +kernel) rfl, ?_⟩
  refine List.forall_mem_cons.mpr ⟨mx_ok_if_ne (show decode b_mm_packet 53 = .ok (.ifCond .ne 13, 3) by decide +kernel) (by decide), ?_⟩
  refine List.forall_mem_cons.mpr ⟨mx_ok_iload (show decode b_mm_packet 56 = .ok (.iload 4, 2) by decide +kernel), ?_⟩
  refine List.forall_mem_cons.mpr ⟨mx_ok_invS vw_G (ct_mm_operation l ) ⟨vm_326, vm_327, vm_324, ⟨by decide +kernel, by decide +kernel, by decide +kernel⟩, ⟨by decide, by decide⟩, rfl, rfl⟩ vm_328 (show decode b_mm_packet 58 = .ok (.invokestatic 85, 3) by decide +kernel), ?_⟩
  refine List.forall_mem_cons.mpr ⟨mx_ok_bipush (show decode b_mm_packet 61 = .ok (.bipush 11, 2) by decide +kernel) (by decide), ?_⟩
  refine List.forall_mem_cons.mpr ⟨mx_ok_icmp_ne (show decode b_mm_packet 63 = .ok (.if_icmp .ne 7, 3) by decide +kernel) (by decide), ?_⟩
  refine List.forall_mem_cons.mpr ⟨mx_ok_iconst (show decode b_mm_packet 66 = .ok (.iconst 1, 1) by decide +kernel) (by decide), ?_⟩
  refine List.forall_mem_cons.mpr ⟨mx_ok_goto (show decode b_mm_packet 67 = .ok (.goto 4, 3) by decide +kernel) (by decide), ?_⟩
  refine List.forall_mem_cons.mpr ⟨mx_ok_iconst (show decode b_mm_packet 70 = .ok (.iconst 0, 1) by decide +kernel) (by decide), ?_⟩
  refine List.forall_mem_cons.mpr ⟨mx_ok_istore_n (show decode b_mm_packet 71 = .ok (.istore_n 2, 1) by decide +kernel) rfl (by decide), ?_⟩
  refine List.forall_mem_cons.mpr ⟨mx_ok_goto (show decode b_mm_packet 72 = .ok (.goto 59, 3) by decide +kernel) (by decide), ?_⟩
  refine List.forall_mem_cons.mpr ⟨mx_ok_iload (show decode b_mm_packet 75 = .ok (.iload 4, 2) by decide +kernel), ?_⟩
  refine List.forall_mem_cons.mpr ⟨mx_ok_invS vw_G (ct_mm_kind l ) ⟨vm_322, vm_323, vm_324, ⟨by decide +kernel, by decide +kernel, by decide +kernel⟩, ⟨by decide, by decide⟩, rfl, rfl⟩ vm_325 (show decode b_mm_packet 77 = .ok (.invokestatic 81, 3) by decide +kernel), ?_⟩
  refine List.forall_mem_cons.mpr ⟨mx_ok_iconst (show decode b_mm_packet 80 = .ok (.iconst 3, 1) by decide +kernel) (by decide), ?_⟩
  refine List.forall_mem_cons.mpr ⟨mx_ok_icmp_ne (show decode b_mm_packet 81 = .ok (.if_icmp .ne 21, 3) by decide +kernel) (by decide), ?_⟩
  refine List.forall_mem_cons.mpr ⟨mx_ok_iload (show decode b_mm_packet 84 = .ok (.iload 4, 2) by decide +kernel), ?_⟩
  refine List.forall_mem_cons.mpr ⟨mx_ok_invS vw_G (ct_mm_operation l ) ⟨vm_326, vm_327, vm_324, ⟨by decide +kernel, by decide +kernel, by decide +kernel⟩, ⟨by decide, by decide⟩, rfl, rfl⟩ vm_328 (show decode b_mm_packet 86 = .ok (.invokestatic 85, 3) by decide +kernel), ?_⟩
  refine List.forall_mem_cons.mpr ⟨mx_ok_iconst (show decode b_mm_packet 89 = .ok (.iconst 1, 1) by decide +kernel) (by decide), ?_⟩
  refine List.forall_mem_cons.mpr ⟨mx_ok_icmp_le (show decode b_mm_packet 90 = .ok (.if_icmp .le 12, 3) by decide +kernel) (by decide), ?_⟩
  refine List.forall_mem_cons.mpr ⟨mx_ok_aload_n (show decode b_mm_packet 93 = .ok (.aload_n 0, 1) by decide +kernel) rfl, ?_⟩
  refine List.forall_mem_cons.mpr ⟨mx_ok_iload (show decode b_mm_packet 94 = .ok (.iload 4, 2) by decide +kernel), ?_⟩
  refine List.forall_mem_cons.mpr ⟨mx_ok_invV vw_G (ct_mm_meets l ) ⟨vm_404, vm_405, vm_324, ⟨by decide +kernel, by decide +kernel, by decide +kernel⟩, ⟨by decide, by decide⟩, rfl, rfl⟩ vm_406 vm_407 rfl (show decode b_mm_packet 96 = .ok (.invokevirtual 156, 3) by decide +kernel), ?_⟩
  refine List.forall_mem_cons.mpr ⟨mx_ok_goto (show decode b_mm_packet 99 = .ok (.goto 32, 3) by decide +kernel) (by decide), ?_⟩
  refine List.forall_mem_cons.mpr ⟨mx_ok_aload_n (show decode b_mm_packet 102 = .ok (.aload_n 0, 1) by decide +kernel) rfl, ?_⟩
  refine List.forall_mem_cons.mpr ⟨mx_ok_iload (show decode b_mm_packet 103 = .ok (.iload 4, 2) by decide +kernel), ?_⟩
  refine List.forall_mem_cons.mpr ⟨mx_ok_invS vw_G (ct_mm_d l ) ⟨vm_341, vm_342, vm_324, ⟨by decide +kernel, by decide +kernel, by decide +kernel⟩, ⟨by decide, by decide⟩, rfl, rfl⟩ vm_343 (show decode b_mm_packet 105 = .ok (.invokestatic 102, 3) by decide +kernel), ?_⟩
  refine List.forall_mem_cons.mpr ⟨mx_ok_aload_n (show decode b_mm_packet 108 = .ok (.aload_n 0, 1) by decide +kernel) rfl, ?_⟩
  refine List.forall_mem_cons.mpr ⟨mx_ok_iload (show decode b_mm_packet 109 = .ok (.iload 4, 2) by decide +kernel), ?_⟩
  refine List.forall_mem_cons.mpr ⟨mx_ok_invV vw_G (ct_mm_works l ) ⟨vm_408, vm_409, vm_324, ⟨by decide +kernel, by decide +kernel, by decide +kernel⟩, ⟨by decide, by decide⟩, rfl, rfl⟩ vm_410 vm_411 rfl (show decode b_mm_packet 111 = .ok (.invokevirtual 159, 3) by decide +kernel), ?_⟩
  refine List.forall_mem_cons.mpr ⟨mx_ok_iload (show decode b_mm_packet 114 = .ok (.iload 4, 2) by decide +kernel), ?_⟩
  refine List.forall_mem_cons.mpr ⟨mx_ok_invS vw_G (ct_mm_kind l ) ⟨vm_322, vm_323, vm_324, ⟨by decide +kernel, by decide +kernel, by decide +kernel⟩, ⟨by decide, by decide⟩, rfl, rfl⟩ vm_325 (show decode b_mm_packet 116 = .ok (.invokestatic 81, 3) by decide +kernel), ?_⟩
  refine List.forall_mem_cons.mpr ⟨mx_ok_iconst (show decode b_mm_packet 119 = .ok (.iconst 2, 1) by decide +kernel) (by decide), ?_⟩
  refine List.forall_mem_cons.mpr ⟨mx_ok_icmp_ne (show decode b_mm_packet 120 = .ok (.if_icmp .ne 7, 3) by decide +kernel) (by decide), ?_⟩
  refine List.forall_mem_cons.mpr ⟨mx_ok_iconst (show decode b_mm_packet 123 = .ok (.iconst 2, 1) by decide +kernel) (by decide), ?_⟩
  refine List.forall_mem_cons.mpr ⟨mx_ok_goto (show decode b_mm_packet 124 = .ok (.goto 4, 3) by decide +kernel) (by decide), ?_⟩
  refine List.forall_mem_cons.mpr ⟨mx_ok_iconst (show decode b_mm_packet 127 = .ok (.iconst 1, 1) by decide +kernel) (by decide), ?_⟩
  refine List.forall_mem_cons.mpr ⟨mx_ok_invV vw_G (ct_mm_write l ) ⟨vm_377, vm_378, vm_324, ⟨by decide +kernel, by decide +kernel, by decide +kernel⟩, ⟨by decide, by decide⟩, rfl, rfl⟩ vm_379 vm_380 rfl (show decode b_mm_packet 128 = .ok (.invokevirtual 162, 3) by decide +kernel), ?_⟩
  refine List.forall_mem_cons.mpr ⟨mx_ok_iinc (show decode b_mm_packet 131 = .ok (.iinc 3 1, 3) by decide +kernel) (by decide) (by decide), ?_⟩
  refine List.forall_mem_cons.mpr ⟨mx_ok_goto (show decode b_mm_packet 134 = .ok (.goto (-122), 3) by decide +kernel) (by decide), ?_⟩
  refine List.forall_mem_cons.mpr ⟨mx_ok_iconst (show decode b_mm_packet 137 = .ok (.iconst 0, 1) by decide +kernel) (by decide), ?_⟩
  refine List.forall_mem_cons.mpr ⟨mx_ok_istore_n (show decode b_mm_packet 138 = .ok (.istore_n 3, 1) by decide +kernel) rfl (by decide), ?_⟩
  refine List.forall_mem_cons.mpr ⟨mx_ok_iload_n (show decode b_mm_packet 139 = .ok (.iload_n 3, 1) by decide +kernel) rfl, ?_⟩
  refine List.forall_mem_cons.mpr ⟨mx_ok_aload_n (show decode b_mm_packet 140 = .ok (.aload_n 0, 1) by decide +kernel) rfl, ?_⟩
  refine List.forall_mem_cons.mpr ⟨mx_ok_getf fd_mm_150 (show decode b_mm_packet 141 = .ok (.getfield 150, 3) by decide +kernel), ?_⟩
  refine List.forall_mem_cons.mpr ⟨mx_ok_icmp_ge (show decode b_mm_packet 144 = .ok (.if_icmp .ge 26, 3) by decide +kernel) (by decide), ?_⟩
  refine List.forall_mem_cons.mpr ⟨mx_ok_aload_n (show decode b_mm_packet 147 = .ok (.aload_n 0, 1) by decide +kernel) rfl, ?_⟩
  refine List.forall_mem_cons.mpr ⟨mx_ok_getf fd_mm_13 (show decode b_mm_packet 148 = .ok (.getfield 13, 3) by decide +kernel), ?_⟩
  refine List.forall_mem_cons.mpr ⟨mx_ok_aload_n (show decode b_mm_packet 151 = .ok (.aload_n 0, 1) by decide +kernel) rfl, ?_⟩
  refine List.forall_mem_cons.mpr ⟨mx_ok_getf fd_mm_34 (show decode b_mm_packet 152 = .ok (.getfield 34, 3) by decide +kernel), ?_⟩
  refine List.forall_mem_cons.mpr ⟨mx_ok_iload_n (show decode b_mm_packet 155 = .ok (.iload_n 3, 1) by decide +kernel) rfl, ?_⟩
  refine List.forall_mem_cons.mpr ⟨mx_ok_iald (show decode b_mm_packet 156 = .ok (.iaload, 1) by decide +kernel), ?_⟩
  refine List.forall_mem_cons.mpr ⟨mx_ok_aload_n (show decode b_mm_packet 157 = .ok (.aload_n 0, 1) by decide +kernel) rfl, ?_⟩
  refine List.forall_mem_cons.mpr ⟨mx_ok_getf fd_mm_37 (show decode b_mm_packet 158 = .ok (.getfield 37, 3) by decide +kernel), ?_⟩
  refine List.forall_mem_cons.mpr ⟨mx_ok_iload_n (show decode b_mm_packet 161 = .ok (.iload_n 3, 1) by decide +kernel) rfl, ?_⟩
  refine List.forall_mem_cons.mpr ⟨mx_ok_iald (show decode b_mm_packet 162 = .ok (.iaload, 1) by decide +kernel), ?_⟩
  refine List.forall_mem_cons.mpr ⟨mx_ok_iast (show decode b_mm_packet 163 = .ok (.iastore, 1) by decide +kernel), ?_⟩
  refine List.forall_mem_cons.mpr ⟨mx_ok_iinc (show decode b_mm_packet 164 = .ok (.iinc 3 1, 3) by decide +kernel) (by decide) (by decide), ?_⟩
  refine List.forall_mem_cons.mpr ⟨mx_ok_goto (show decode b_mm_packet 167 = .ok (.goto (-28), 3) by decide +kernel) (by decide), ?_⟩
  refine List.forall_mem_cons.mpr ⟨mx_ok_aload_n (show decode b_mm_packet 170 = .ok (.aload_n 0, 1) by decide +kernel) rfl, ?_⟩
  refine List.forall_mem_cons.mpr ⟨mx_ok_iload_n (show decode b_mm_packet 171 = .ok (.iload_n 1, 1) by decide +kernel) rfl, ?_⟩
  refine List.forall_mem_cons.mpr ⟨mx_ok_putf fd_mm_53 fw_3_7 (show decode b_mm_packet 172 = .ok (.putfield 53, 3) by decide +kernel), ?_⟩
  refine List.forall_mem_cons.mpr ⟨mx_ok_aload_n (show decode b_mm_packet 175 = .ok (.aload_n 0, 1) by decide +kernel) rfl, ?_⟩
  refine List.forall_mem_cons.mpr ⟨mx_ok_iload_n (show decode b_mm_packet 176 = .ok (.iload_n 2, 1) by decide +kernel) rfl, ?_⟩
  refine List.forall_mem_cons.mpr ⟨mx_ok_if_eq (show decode b_mm_packet 177 = .ok (.ifCond .eq 8, 3) by decide +kernel) (by decide), ?_⟩
  refine List.forall_mem_cons.mpr ⟨mx_ok_bipush (show decode b_mm_packet 180 = .ok (.bipush 9, 2) by decide +kernel) (by decide), ?_⟩
  refine List.forall_mem_cons.mpr ⟨mx_ok_goto (show decode b_mm_packet 182 = .ok (.goto 4, 3) by decide +kernel) (by decide), ?_⟩
  refine List.forall_mem_cons.mpr ⟨mx_ok_iconst (show decode b_mm_packet 185 = .ok (.iconst 0, 1) by decide +kernel) (by decide), ?_⟩
  refine List.forall_mem_cons.mpr ⟨mx_ok_putf fd_mm_50 fw_3_6 (show decode b_mm_packet 186 = .ok (.putfield 50, 3) by decide +kernel), ?_⟩
  refine List.forall_mem_cons.mpr ⟨mx_ok_vret (show decode b_mm_packet 189 = .ok (.return_, 1) by decide +kernel) rfl, ?_⟩
  exact fun _ h => absurd h List.not_mem_nil
set_option maxRecDepth 100000 in
set_option maxHeartbeats 4000000 in
theorem ct_mm_packet (l : Launch) : mx_Ct l vw_T vw_cl km { frames := 4, cells := 0, slots := 0, locals := 86 } y_mm_packet b_mm_packet 5 none pre_mm_packet fn_mm_packet := by
  refine mx_ct_of (tb_mm_packet ) (by decide) (ok_mm_packet l ) (fun as u h => by obtain ⟨_, rfl, -⟩ := h; exact Nat.le_of_ble_eq_true rfl) ?_
  intro as u hpre At hc hw
  obtain ⟨a1, rfl, hp⟩ := hpre
  obtain ⟨RES, hRES⟩ : ∃ z, z = (mm_packet a1 u) := ⟨_, rfl⟩
  have hfn : fn_mm_packet [.inr (.inr 0), .inl a1] u = (none, RES) := by rw [hRES]; rfl
  rw [hfn] at hc
  have lp139 : ∀ (n139 : Nat) (v2 : Int32) (v3 : Int32) (u : mx_S), q_mm_packet_l139 a1 n139 v2 v3 u → mm_packet_l139 a1 n139 v2 v3 u = RES → At 139 [(2, .inl v2), (3, .inl v3), (0, .inr (.inr 0)), (1, .inl a1)] [] u := by
    intro n139
    induction n139 with
    | zero =>
      intro v2 v3 u hi he
      exact hi.elim
    | succ n139 ih139 =>
      intro v2 v3 u hi139 he139
      exact hc 200 [12, 139] _ _ _ _ (
        And.intro (fun h144 => 
         And.intro rfl (
         And.intro (fun h177 => 
          And.intro rfl (
          congrArg (fun z : mx_S => ((none, z) : Option mx_V × mx_S)) (show (mx_sf (mx_sf u 0 7 a1) 0 6 0) = RES from ((if_pos h144).trans (if_pos h177)).symm.trans he139))) (fun h177 => 
          And.intro rfl (
          congrArg (fun z : mx_S => ((none, z) : Option mx_V × mx_S)) (show (mx_sf (mx_sf u 0 7 a1) 0 6 9) = RES from ((if_pos h144).trans (if_neg h177)).symm.trans he139))))) (fun h144 => 
         And.intro ((hi139.2 h144).1) (
         And.intro ((hi139.2 h144).2.1) (
         And.intro ((hi139.2 h144).2.2.1) (
         hw [1, 0, 2, 3] 139 _ [] _ (ih139 v2 (v3 + 1) (mx_sa u 2 ((mx_ga u 9 (v3).toNatClampNeg)).toNatClampNeg (mx_ga u 10 (v3).toNatClampNeg)) (hi139.2 h144).2.2.2 ((if_neg h144).symm.trans he139)))))))
  have lp12 : ∀ (n12 : Nat) (v2 : Int32) (v3 : Int32) (u : mx_S), q_mm_packet_l12 a1 n12 v2 v3 u → mm_packet_l12 a1 n12 v2 v3 u = RES → At 12 [(2, .inl v2), (3, .inl v3), (0, .inr (.inr 0)), (1, .inl a1)] [] u := by
    intro n12
    induction n12 with
    | zero =>
      intro v2 v3 u hi he
      exact hi.elim
    | succ n12 ih12 =>
      intro v2 v3 u hi12 he12
      exact hc 200 [12, 139] _ _ _ _ (
        And.intro (fun h14 => 
         hw [1, 0, 2, 3] 139 _ [] _ (lp139 20 v2 0 u (hi12.1 h14) ((if_pos h14).symm.trans he12))) (fun h14 => 
         And.intro ((hi12.2 h14).1) (
         And.intro rfl (
         And.intro ⟨_, rfl, (hi12.2 h14).2.1⟩ (
         And.intro (fun h31 => 
          hw [2, 0, 3, 4] 12 _ [] _ (ih12 v2 (v3 + 1) u ((hi12.2 h14).2.2.1 h31) (((if_neg h14).trans (if_pos h31)).symm.trans he12))) (fun h31 => 
          And.intro rfl (
          And.intro ⟨_, _, _, rfl, trivial⟩ (
          And.intro (fun h43 => 
           And.intro rfl (
           And.intro ⟨_, rfl, trivial⟩ (
           And.intro (fun h81 => 
            And.intro rfl (
            And.intro ⟨_, rfl, trivial⟩ (
            And.intro rfl (
            And.intro ⟨_, rfl, ((((hi12.2 h14).2.2.2 h31).1 h43).1 h81).1⟩ (
            And.intro rfl (
            And.intro ⟨_, rfl, trivial⟩ (
            And.intro (fun h120 => 
             And.intro rfl (
             And.intro ⟨_, _, _, rfl, (((((hi12.2 h14).2.2.2 h31).1 h43).1 h81).2.1 h120).1⟩ (
             hw [2, 0, 3, 4] 12 _ [] _ (ih12 v2 (v3 + 1) (mm_write (mm_d (mx_ga u 1 (v3).toNatClampNeg) ) (mm_works (mx_ga u 1 (v3).toNatClampNeg) u) 1 u) (((((hi12.2 h14).2.2.2 h31).1 h43).1 h81).2.1 h120).2 (((if_neg h14).trans ((if_neg h31).trans ((if_pos h43).trans ((if_neg h81).trans (if_neg h120))))).symm.trans he12))))) (fun h120 => 
             And.intro rfl (
             And.intro ⟨_, _, _, rfl, (((((hi12.2 h14).2.2.2 h31).1 h43).1 h81).2.2 h120).1⟩ (
             hw [2, 0, 3, 4] 12 _ [] _ (ih12 v2 (v3 + 1) (mm_write (mm_d (mx_ga u 1 (v3).toNatClampNeg) ) (mm_works (mx_ga u 1 (v3).toNatClampNeg) u) 2 u) (((((hi12.2 h14).2.2.2 h31).1 h43).1 h81).2.2 h120).2 (((if_neg h14).trans ((if_neg h31).trans ((if_pos h43).trans ((if_neg h81).trans (if_pos h120))))).symm.trans he12)))))))))))) (fun h81 => 
            And.intro rfl (
            And.intro ⟨_, rfl, trivial⟩ (
            And.intro (fun h90 => 
             And.intro rfl (
             And.intro ⟨_, rfl, trivial⟩ (
             And.intro rfl (
             And.intro ⟨_, rfl, (((((hi12.2 h14).2.2.2 h31).1 h43).2 h81).1 h90).1⟩ (
             And.intro rfl (
             And.intro ⟨_, rfl, trivial⟩ (
             And.intro (fun h120 => 
              And.intro rfl (
              And.intro ⟨_, _, _, rfl, ((((((hi12.2 h14).2.2.2 h31).1 h43).2 h81).1 h90).2.1 h120).1⟩ (
              hw [2, 0, 3, 4] 12 _ [] _ (ih12 v2 (v3 + 1) (mm_write (mm_d (mx_ga u 1 (v3).toNatClampNeg) ) (mm_works (mx_ga u 1 (v3).toNatClampNeg) u) 1 u) ((((((hi12.2 h14).2.2.2 h31).1 h43).2 h81).1 h90).2.1 h120).2 (((if_neg h14).trans ((if_neg h31).trans ((if_pos h43).trans ((if_pos h81).trans ((if_pos h90).trans (if_neg h120)))))).symm.trans he12))))) (fun h120 => 
              And.intro rfl (
              And.intro ⟨_, _, _, rfl, ((((((hi12.2 h14).2.2.2 h31).1 h43).2 h81).1 h90).2.2 h120).1⟩ (
              hw [2, 0, 3, 4] 12 _ [] _ (ih12 v2 (v3 + 1) (mm_write (mm_d (mx_ga u 1 (v3).toNatClampNeg) ) (mm_works (mx_ga u 1 (v3).toNatClampNeg) u) 2 u) ((((((hi12.2 h14).2.2.2 h31).1 h43).2 h81).1 h90).2.2 h120).2 (((if_neg h14).trans ((if_neg h31).trans ((if_pos h43).trans ((if_pos h81).trans ((if_pos h90).trans (if_pos h120)))))).symm.trans he12)))))))))))) (fun h90 => 
             And.intro rfl (
             And.intro ⟨_, rfl, (((((hi12.2 h14).2.2.2 h31).1 h43).2 h81).2 h90).1⟩ (
             hw [2, 0, 3, 4] 12 _ [] _ (ih12 v2 (v3 + 1) (mm_meets (mx_ga u 1 (v3).toNatClampNeg) u) (((((hi12.2 h14).2.2.2 h31).1 h43).2 h81).2 h90).2 (((if_neg h14).trans ((if_neg h31).trans ((if_pos h43).trans ((if_pos h81).trans (if_neg h90))))).symm.trans he12))))))))))) (fun h43 => 
           And.intro rfl (
           And.intro ⟨_, rfl, (((hi12.2 h14).2.2.2 h31).2 h43).1⟩ (
           And.intro (fun h53 => 
            hw [1, 0, 3, 4] 12 _ [] _ (ih12 1 (v3 + 1) (mm_controls (mx_ga u 1 (v3).toNatClampNeg) u) ((((hi12.2 h14).2.2.2 h31).2 h43).2.1 h53) (((if_neg h14).trans ((if_neg h31).trans ((if_neg h43).trans (if_neg h53)))).symm.trans he12))) (fun h53 => 
            And.intro rfl (
            And.intro ⟨_, rfl, trivial⟩ (
            And.intro (fun h63 => 
             hw [1, 0, 3, 4] 12 _ [] _ (ih12 0 (v3 + 1) (mm_controls (mx_ga u 1 (v3).toNatClampNeg) u) (((((hi12.2 h14).2.2.2 h31).2 h43).2.2 h53).1 h63) (((if_neg h14).trans ((if_neg h31).trans ((if_neg h43).trans ((if_pos h53).trans (if_neg h63))))).symm.trans he12))) (fun h63 => 
             hw [1, 0, 3, 4] 12 _ [] _ (ih12 1 (v3 + 1) (mm_controls (mx_ga u 1 (v3).toNatClampNeg) u) (((((hi12.2 h14).2.2.2 h31).2 h43).2.2 h53).2 h63) (((if_neg h14).trans ((if_neg h31).trans ((if_neg h43).trans ((if_pos h53).trans (if_pos h63))))).symm.trans he12)))))))))))))))))
  exact hc 200 [12, 139] _ _ _ _ (
    And.intro rfl (
    hw [1, 0, 2, 3] 12 _ [] _ (lp12 20 0 (mx_gf (mx_sf u 0 20 0) 0 7) (mx_sf u 0 20 0) hp ((mm_packet_eq a1 u).symm.trans hRES.symm))))
/-! WideMachineModel.cycle()V -/
noncomputable def mm_cycle_l61 : Nat → Int32 → Int32 → mx_S → (mx_S)
  | 0, _, _, u => u
  | n + 1, v1, v2, u =>
    if v2 = 0 then
     if (mx_gf (mx_sf u 0 6 (mm_wrong v1 u)) 0 6) = 0 then
      (mm_packet v1 (mx_sf u 0 6 (mm_wrong v1 u)))
     else
      (mx_sf u 0 6 (mm_wrong v1 u))
    else
     if v1 < 0 then
      (mx_sf u 0 6 8)
     else
      if v1 < (mx_gf u 0 1) then
       if ((mx_ga u 1 (v1).toNatClampNeg) &&& (1 : Int32)) = 1 then
        if ((v1 + 1) - (v1 + 1) / 8 * 8) = 0 then
         (mx_sf u 0 6 1)
        else
         mm_cycle_l61 n (v1 + 1) 1 u
       else
        mm_cycle_l61 n (v1 + 1) 0 u
      else
       (mx_sf u 0 6 8)
def q_mm_cycle_l61 : Nat → Int32 → Int32 → mx_S → Prop
  | 0, _, _, _ => False
  | n + 1, v1, v2, u =>
    ((v2 = 0) → 
     ((q_mm_wrong v1 u)) ∧ (
      ((¬ ((mx_gf (mx_sf u 0 6 (mm_wrong v1 u)) 0 6) = 0)) → 
       True) ∧ (((mx_gf (mx_sf u 0 6 (mm_wrong v1 u)) 0 6) = 0) → 
       ((q_mm_packet v1 (mx_sf u 0 6 (mm_wrong v1 u))))))) ∧ ((¬ (v2 = 0)) → 
     ((v1 < 0) → 
      True) ∧ ((¬ (v1 < 0)) → 
      ((v1 < (mx_gf u 0 1)) → 
       (vp_in v1 256) ∧ (
        ((¬ (((mx_ga u 1 (v1).toNatClampNeg) &&& (1 : Int32)) = 1)) → 
         q_mm_cycle_l61 n (v1 + 1) 0 u) ∧ ((((mx_ga u 1 (v1).toNatClampNeg) &&& (1 : Int32)) = 1) → 
         ((¬ (((v1 + 1) - (v1 + 1) / 8 * 8) = 0)) → 
          q_mm_cycle_l61 n (v1 + 1) 1 u) ∧ ((((v1 + 1) - (v1 + 1) / 8 * 8) = 0) → 
          True)))) ∧ ((¬ (v1 < (mx_gf u 0 1))) → 
       True)))
noncomputable def mm_cycle_b (u : mx_S) : mx_S :=
  if (mx_gf (mx_sf (mm_lands_s u) 0 6 (mm_lands u)) 0 6) = 0 then
   if (mx_gf (mx_sf (mm_arrives_s (mx_sf (mm_lands_s u) 0 6 (mm_lands u))) 0 6 (mm_arrives (mx_sf (mm_lands_s u) 0 6 (mm_lands u)))) 0 6) = 0 then
    if (mx_gf (mx_sf (mm_arrives_s (mx_sf (mm_lands_s u) 0 6 (mm_lands u))) 0 6 (mm_arrives (mx_sf (mm_lands_s u) 0 6 (mm_lands u)))) 0 9) ≤ 0 then
     mm_cycle_l61 20 (mx_gf (mm_interrupts (mx_sf (mm_arrives_s (mx_sf (mm_lands_s u) 0 6 (mm_lands u))) 0 6 (mm_arrives (mx_sf (mm_lands_s u) 0 6 (mm_lands u))))) 0 7) 1 (mm_interrupts (mx_sf (mm_arrives_s (mx_sf (mm_lands_s u) 0 6 (mm_lands u))) 0 6 (mm_arrives (mx_sf (mm_lands_s u) 0 6 (mm_lands u)))))
    else
     (mx_sf (mx_sf (mm_arrives_s (mx_sf (mm_lands_s u) 0 6 (mm_lands u))) 0 6 (mm_arrives (mx_sf (mm_lands_s u) 0 6 (mm_lands u)))) 0 9 ((mx_gf (mx_sf (mm_arrives_s (mx_sf (mm_lands_s u) 0 6 (mm_lands u))) 0 6 (mm_arrives (mx_sf (mm_lands_s u) 0 6 (mm_lands u)))) 0 9) - (1 : Int32)))
   else
    (mx_sf (mm_arrives_s (mx_sf (mm_lands_s u) 0 6 (mm_lands u))) 0 6 (mm_arrives (mx_sf (mm_lands_s u) 0 6 (mm_lands u))))
  else
   (mx_sf (mm_lands_s u) 0 6 (mm_lands u))
theorem mm_cycle_ex : ∃ f : mx_S → (mx_S), f = mm_cycle_b := ⟨_, rfl⟩
noncomputable def mm_cycle : mx_S → (mx_S) := Classical.choose mm_cycle_ex
theorem mm_cycle_eq (u : mx_S) : (mm_cycle u) = (mm_cycle_b u) := by rw [show mm_cycle = mm_cycle_b from Classical.choose_spec mm_cycle_ex]
def q_mm_cycle (u : mx_S) : Prop :=
  ((q_mm_lands u)) ∧ (
   (((mx_gf (mx_sf (mm_lands_s u) 0 6 (mm_lands u)) 0 6) = 0) → 
    ((q_mm_arrives (mx_sf (mm_lands_s u) 0 6 (mm_lands u)))) ∧ (
     (((mx_gf (mx_sf (mm_arrives_s (mx_sf (mm_lands_s u) 0 6 (mm_lands u))) 0 6 (mm_arrives (mx_sf (mm_lands_s u) 0 6 (mm_lands u)))) 0 6) = 0) → 
      (((mx_gf (mx_sf (mm_arrives_s (mx_sf (mm_lands_s u) 0 6 (mm_lands u))) 0 6 (mm_arrives (mx_sf (mm_lands_s u) 0 6 (mm_lands u)))) 0 9) ≤ 0) → 
       ((q_mm_interrupts (mx_sf (mm_arrives_s (mx_sf (mm_lands_s u) 0 6 (mm_lands u))) 0 6 (mm_arrives (mx_sf (mm_lands_s u) 0 6 (mm_lands u)))))) ∧ (
        q_mm_cycle_l61 20 (mx_gf (mm_interrupts (mx_sf (mm_arrives_s (mx_sf (mm_lands_s u) 0 6 (mm_lands u))) 0 6 (mm_arrives (mx_sf (mm_lands_s u) 0 6 (mm_lands u))))) 0 7) 1 (mm_interrupts (mx_sf (mm_arrives_s (mx_sf (mm_lands_s u) 0 6 (mm_lands u))) 0 6 (mm_arrives (mx_sf (mm_lands_s u) 0 6 (mm_lands u))))))) ∧ ((¬ ((mx_gf (mx_sf (mm_arrives_s (mx_sf (mm_lands_s u) 0 6 (mm_lands u))) 0 6 (mm_arrives (mx_sf (mm_lands_s u) 0 6 (mm_lands u)))) 0 9) ≤ 0)) → 
       True)) ∧ ((¬ ((mx_gf (mx_sf (mm_arrives_s (mx_sf (mm_lands_s u) 0 6 (mm_lands u))) 0 6 (mm_arrives (mx_sf (mm_lands_s u) 0 6 (mm_lands u)))) 0 6) = 0)) → 
      True))) ∧ ((¬ ((mx_gf (mx_sf (mm_lands_s u) 0 6 (mm_lands u)) 0 6) = 0)) → 
    True))
def pre_mm_cycle : List mx_V → mx_S → Prop := fun as u => as = [.inr (.inr 0)] ∧ q_mm_cycle u
noncomputable def fn_mm_cycle : mx_F := fun as u => match as with
  | [_] => (none, (mm_cycle u))
  | _ => (none, u)
noncomputable def tb_mm_cycle : List (Nat × mx_T) := [
  (0, mx_aload_n 0 0),
  (1, mx_aload_n 0 1),
  (2, mx_invV km 3 0 pre_mm_lands fn_mm_lands 2),
  (5, mx_putf km 3 6 5),
  (8, mx_aload_n 0 8),
  (9, mx_getf km 3 6 9),
  (12, mx_if_eq 16 12),
  (15, mx_vret 15),
  (16, mx_aload_n 0 16),
  (17, mx_aload_n 0 17),
  (18, mx_invV km 3 0 pre_mm_arrives fn_mm_arrives 18),
  (21, mx_putf km 3 6 21),
  (24, mx_aload_n 0 24),
  (25, mx_getf km 3 6 25),
  (28, mx_if_eq 32 28),
  (31, mx_vret 31),
  (32, mx_aload_n 0 32),
  (33, mx_getf km 3 9 33),
  (36, mx_if_le 50 36),
  (39, mx_aload_n 0 39),
  (40, mx_dup 40),
  (41, mx_getf km 3 9 41),
  (44, mx_iconst 1 44),
  (45, mx_isub 45),
  (46, mx_putf km 3 9 46),
  (49, mx_vret 49),
  (50, mx_aload_n 0 50),
  (51, mx_invV km 3 0 pre_mm_interrupts fn_mm_interrupts 51),
  (54, mx_aload_n 0 54),
  (55, mx_getf km 3 7 55),
  (58, mx_istore_n 1 58),
  (59, mx_iconst 1 59),
  (60, mx_istore_n 2 60),
  (61, mx_iload_n 2 61),
  (62, mx_if_eq 122 62),
  (65, mx_iload_n 1 65),
  (66, mx_if_lt 77 66),
  (69, mx_iload_n 1 69),
  (70, mx_aload_n 0 70),
  (71, mx_getf km 3 1 71),
  (74, mx_icmp_lt 84 74),
  (77, mx_aload_n 0 77),
  (78, mx_bipush 8 78),
  (80, mx_putf km 3 6 80),
  (83, mx_vret 83),
  (84, mx_aload_n 0 84),
  (85, mx_getf km 3 3 85),
  (88, mx_iload_n 1 88),
  (89, mx_iald km 89),
  (90, mx_iconst 1 90),
  (91, mx_iand 91),
  (92, mx_iconst 1 92),
  (93, mx_icmp_ne 100 93),
  (96, mx_iconst 1 96),
  (97, mx_goto 101 97),
  (100, mx_iconst 0 100),
  (101, mx_istore_n 2 101),
  (102, mx_iinc 1 1 102),
  (105, mx_iload_n 2 105),
  (106, mx_if_eq 61 106),
  (109, mx_iload_n 1 109),
  (110, mx_bipush 8 110),
  (112, mx_irem 112),
  (113, mx_if_ne 61 113),
  (116, mx_aload_n 0 116),
  (117, mx_iconst 1 117),
  (118, mx_putf km 3 6 118),
  (121, mx_vret 121),
  (122, mx_aload_n 0 122),
  (123, mx_aload_n 0 123),
  (124, mx_iload_n 1 124),
  (125, mx_invV km 3 1 pre_mm_wrong fn_mm_wrong 125),
  (128, mx_putf km 3 6 128),
  (131, mx_aload_n 0 131),
  (132, mx_getf km 3 6 132),
  (135, mx_if_ne 143 135),
  (138, mx_aload_n 0 138),
  (139, mx_iload_n 1 139),
  (140, mx_invV km 3 1 pre_mm_packet fn_mm_packet 140),
  (143, mx_vret 143)]
set_option maxRecDepth 100000 in
set_option maxHeartbeats 4000000 in
theorem ok_mm_cycle (l : Launch) : ∀ q ∈ tb_mm_cycle , mx_Ok l ({ frames := 5, cells := 0, slots := 0, locals := 110 } : Room) b_mm_cycle 3 "WideMachineModel" none vw_T vw_cl km q.1 q.2 := by
  refine List.forall_mem_cons.mpr ⟨mx_ok_aload_n (show decode b_mm_cycle 0 = .ok (.aload_n 0, 1) by decide +kernel) rfl, ?_⟩
  refine List.forall_mem_cons.mpr ⟨mx_ok_aload_n (show decode b_mm_cycle 1 = .ok (.aload_n 0, 1) by decide +kernel) rfl, ?_⟩
  refine List.forall_mem_cons.mpr ⟨mx_ok_invV vw_G (ct_mm_lands l ) ⟨vm_412, vm_413, vm_324, ⟨by decide +kernel, by decide +kernel, by decide +kernel⟩, ⟨by decide, by decide⟩, rfl, rfl⟩ vm_414 vm_415 rfl (show decode b_mm_cycle 2 = .ok (.invokevirtual 115, 3) by decide +kernel), ?_⟩
  refine List.forall_mem_cons.mpr ⟨mx_ok_putf fd_mm_50 fw_3_6 (show decode b_mm_cycle 5 = .ok (.putfield 50, 3) by decide +kernel), ?_⟩
  refine List.forall_mem_cons.mpr ⟨mx_ok_aload_n (show decode b_mm_cycle 8 = .ok (.aload_n 0, 1) by decide +kernel) rfl, ?_⟩
  refine List.forall_mem_cons.mpr ⟨mx_ok_getf fd_mm_50 (show decode b_mm_cycle 9 = .ok (.getfield 50, 3) by decide +kernel), ?_⟩
  refine List.forall_mem_cons.mpr ⟨mx_ok_if_eq (show decode b_mm_cycle 12 = .ok (.ifCond .eq 4, 3) by decide +kernel) (by decide), ?_⟩
  refine List.forall_mem_cons.mpr ⟨mx_ok_vret (show decode b_mm_cycle 15 = .ok (.return_, 1) by decide +kernel) rfl, ?_⟩
  refine List.forall_mem_cons.mpr ⟨mx_ok_aload_n (show decode b_mm_cycle 16 = .ok (.aload_n 0, 1) by decide +kernel) rfl, ?_⟩
  refine List.forall_mem_cons.mpr ⟨mx_ok_aload_n (show decode b_mm_cycle 17 = .ok (.aload_n 0, 1) by decide +kernel) rfl, ?_⟩
  refine List.forall_mem_cons.mpr ⟨mx_ok_invV vw_G (ct_mm_arrives l ) ⟨vm_416, vm_417, vm_324, ⟨by decide +kernel, by decide +kernel, by decide +kernel⟩, ⟨by decide, by decide⟩, rfl, rfl⟩ vm_418 vm_419 rfl (show decode b_mm_cycle 18 = .ok (.invokevirtual 119, 3) by decide +kernel), ?_⟩
  refine List.forall_mem_cons.mpr ⟨mx_ok_putf fd_mm_50 fw_3_6 (show decode b_mm_cycle 21 = .ok (.putfield 50, 3) by decide +kernel), ?_⟩
  refine List.forall_mem_cons.mpr ⟨mx_ok_aload_n (show decode b_mm_cycle 24 = .ok (.aload_n 0, 1) by decide +kernel) rfl, ?_⟩
  refine List.forall_mem_cons.mpr ⟨mx_ok_getf fd_mm_50 (show decode b_mm_cycle 25 = .ok (.getfield 50, 3) by decide +kernel), ?_⟩
  refine List.forall_mem_cons.mpr ⟨mx_ok_if_eq (show decode b_mm_cycle 28 = .ok (.ifCond .eq 4, 3) by decide +kernel) (by decide), ?_⟩
  refine List.forall_mem_cons.mpr ⟨mx_ok_vret (show decode b_mm_cycle 31 = .ok (.return_, 1) by decide +kernel) rfl, ?_⟩
  refine List.forall_mem_cons.mpr ⟨mx_ok_aload_n (show decode b_mm_cycle 32 = .ok (.aload_n 0, 1) by decide +kernel) rfl, ?_⟩
  refine List.forall_mem_cons.mpr ⟨mx_ok_getf fd_mm_65 (show decode b_mm_cycle 33 = .ok (.getfield 65, 3) by decide +kernel), ?_⟩
  refine List.forall_mem_cons.mpr ⟨mx_ok_if_le (show decode b_mm_cycle 36 = .ok (.ifCond .le 14, 3) by decide +kernel) (by decide), ?_⟩
  refine List.forall_mem_cons.mpr ⟨mx_ok_aload_n (show decode b_mm_cycle 39 = .ok (.aload_n 0, 1) by decide +kernel) rfl, ?_⟩
  refine List.forall_mem_cons.mpr ⟨mx_ok_dup (show decode b_mm_cycle 40 = .ok (.dup, 1) by decide +kernel), ?_⟩
  refine List.forall_mem_cons.mpr ⟨mx_ok_getf fd_mm_65 (show decode b_mm_cycle 41 = .ok (.getfield 65, 3) by decide +kernel), ?_⟩
  refine List.forall_mem_cons.mpr ⟨mx_ok_iconst (show decode b_mm_cycle 44 = .ok (.iconst 1, 1) by decide +kernel) (by decide), ?_⟩
  refine List.forall_mem_cons.mpr ⟨mx_ok_isub (show decode b_mm_cycle 45 = .ok (.isub, 1) by decide +kernel), ?_⟩
  refine List.forall_mem_cons.mpr ⟨mx_ok_putf fd_mm_65 fw_3_9 (show decode b_mm_cycle 46 = .ok (.putfield 65, 3) by decide +kernel), ?_⟩
  refine List.forall_mem_cons.mpr ⟨mx_ok_vret (show decode b_mm_cycle 49 = .ok (.return_, 1) by decide +kernel) rfl, ?_⟩
  refine List.forall_mem_cons.mpr ⟨mx_ok_aload_n (show decode b_mm_cycle 50 = .ok (.aload_n 0, 1) by decide +kernel) rfl, ?_⟩
  refine List.forall_mem_cons.mpr ⟨mx_ok_invV vw_G (ct_mm_interrupts l ) ⟨vm_420, vm_421, vm_324, ⟨by decide +kernel, by decide +kernel, by decide +kernel⟩, ⟨by decide, by decide⟩, rfl, rfl⟩ vm_422 vm_423 rfl (show decode b_mm_cycle 51 = .ok (.invokevirtual 122, 3) by decide +kernel), ?_⟩
  refine List.forall_mem_cons.mpr ⟨mx_ok_aload_n (show decode b_mm_cycle 54 = .ok (.aload_n 0, 1) by decide +kernel) rfl, ?_⟩
  refine List.forall_mem_cons.mpr ⟨mx_ok_getf fd_mm_53 (show decode b_mm_cycle 55 = .ok (.getfield 53, 3) by decide +kernel), ?_⟩
  refine List.forall_mem_cons.mpr ⟨mx_ok_istore_n (show decode b_mm_cycle 58 = .ok (.istore_n 1, 1) by decide +kernel) rfl (by decide), ?_⟩
  refine List.forall_mem_cons.mpr ⟨mx_ok_iconst (show decode b_mm_cycle 59 = .ok (.iconst 1, 1) by decide +kernel) (by decide), ?_⟩
  refine List.forall_mem_cons.mpr ⟨mx_ok_istore_n (show decode b_mm_cycle 60 = .ok (.istore_n 2, 1) by decide +kernel) rfl (by decide), ?_⟩
  refine List.forall_mem_cons.mpr ⟨mx_ok_iload_n (show decode b_mm_cycle 61 = .ok (.iload_n 2, 1) by decide +kernel) rfl, ?_⟩
  refine List.forall_mem_cons.mpr ⟨mx_ok_if_eq (show decode b_mm_cycle 62 = .ok (.ifCond .eq 60, 3) by decide +kernel) (by decide), ?_⟩
  refine List.forall_mem_cons.mpr ⟨mx_ok_iload_n (show decode b_mm_cycle 65 = .ok (.iload_n 1, 1) by decide +kernel) rfl, ?_⟩
  refine List.forall_mem_cons.mpr ⟨mx_ok_if_lt (show decode b_mm_cycle 66 = .ok (.ifCond .lt 11, 3) by decide +kernel) (by decide), ?_⟩
  refine List.forall_mem_cons.mpr ⟨mx_ok_iload_n (show decode b_mm_cycle 69 = .ok (.iload_n 1, 1) by decide +kernel) rfl, ?_⟩
  refine List.forall_mem_cons.mpr ⟨mx_ok_aload_n (show decode b_mm_cycle 70 = .ok (.aload_n 0, 1) by decide +kernel) rfl, ?_⟩
  refine List.forall_mem_cons.mpr ⟨mx_ok_getf fd_mm_40 (show decode b_mm_cycle 71 = .ok (.getfield 40, 3) by decide +kernel), ?_⟩
  refine List.forall_mem_cons.mpr ⟨mx_ok_icmp_lt (show decode b_mm_cycle 74 = .ok (.if_icmp .lt 10, 3) by decide +kernel) (by decide), ?_⟩
  refine List.forall_mem_cons.mpr ⟨mx_ok_aload_n (show decode b_mm_cycle 77 = .ok (.aload_n 0, 1) by decide +kernel) rfl, ?_⟩
  refine List.forall_mem_cons.mpr ⟨mx_ok_bipush (show decode b_mm_cycle 78 = .ok (.bipush 8, 2) by decide +kernel) (by decide), ?_⟩
  refine List.forall_mem_cons.mpr ⟨mx_ok_putf fd_mm_50 fw_3_6 (show decode b_mm_cycle 80 = .ok (.putfield 50, 3) by decide +kernel), ?_⟩
  refine List.forall_mem_cons.mpr ⟨mx_ok_vret (show decode b_mm_cycle 83 = .ok (.return_, 1) by decide +kernel) rfl, ?_⟩
  refine List.forall_mem_cons.mpr ⟨mx_ok_aload_n (show decode b_mm_cycle 84 = .ok (.aload_n 0, 1) by decide +kernel) rfl, ?_⟩
  refine List.forall_mem_cons.mpr ⟨mx_ok_getf fd_mm_7 (show decode b_mm_cycle 85 = .ok (.getfield 7, 3) by decide +kernel), ?_⟩
  refine List.forall_mem_cons.mpr ⟨mx_ok_iload_n (show decode b_mm_cycle 88 = .ok (.iload_n 1, 1) by decide +kernel) rfl, ?_⟩
  refine List.forall_mem_cons.mpr ⟨mx_ok_iald (show decode b_mm_cycle 89 = .ok (.iaload, 1) by decide +kernel), ?_⟩
  refine List.forall_mem_cons.mpr ⟨mx_ok_iconst (show decode b_mm_cycle 90 = .ok (.iconst 1, 1) by decide +kernel) (by decide), ?_⟩
  refine List.forall_mem_cons.mpr ⟨mx_ok_iand (show decode b_mm_cycle 91 = .ok (.iand, 1) by decide +kernel), ?_⟩
  refine List.forall_mem_cons.mpr ⟨mx_ok_iconst (show decode b_mm_cycle 92 = .ok (.iconst 1, 1) by decide +kernel) (by decide), ?_⟩
  refine List.forall_mem_cons.mpr ⟨mx_ok_icmp_ne (show decode b_mm_cycle 93 = .ok (.if_icmp .ne 7, 3) by decide +kernel) (by decide), ?_⟩
  refine List.forall_mem_cons.mpr ⟨mx_ok_iconst (show decode b_mm_cycle 96 = .ok (.iconst 1, 1) by decide +kernel) (by decide), ?_⟩
  refine List.forall_mem_cons.mpr ⟨mx_ok_goto (show decode b_mm_cycle 97 = .ok (.goto 4, 3) by decide +kernel) (by decide), ?_⟩
  refine List.forall_mem_cons.mpr ⟨mx_ok_iconst (show decode b_mm_cycle 100 = .ok (.iconst 0, 1) by decide +kernel) (by decide), ?_⟩
  refine List.forall_mem_cons.mpr ⟨mx_ok_istore_n (show decode b_mm_cycle 101 = .ok (.istore_n 2, 1) by decide +kernel) rfl (by decide), ?_⟩
  refine List.forall_mem_cons.mpr ⟨mx_ok_iinc (show decode b_mm_cycle 102 = .ok (.iinc 1 1, 3) by decide +kernel) (by decide) (by decide), ?_⟩
  refine List.forall_mem_cons.mpr ⟨mx_ok_iload_n (show decode b_mm_cycle 105 = .ok (.iload_n 2, 1) by decide +kernel) rfl, ?_⟩
  refine List.forall_mem_cons.mpr ⟨mx_ok_if_eq (show decode b_mm_cycle 106 = .ok (.ifCond .eq (-45), 3) by decide +kernel) (by decide), ?_⟩
  refine List.forall_mem_cons.mpr ⟨mx_ok_iload_n (show decode b_mm_cycle 109 = .ok (.iload_n 1, 1) by decide +kernel) rfl, ?_⟩
  refine List.forall_mem_cons.mpr ⟨mx_ok_bipush (show decode b_mm_cycle 110 = .ok (.bipush 8, 2) by decide +kernel) (by decide), ?_⟩
  refine List.forall_mem_cons.mpr ⟨mx_ok_irem (show decode b_mm_cycle 112 = .ok (.irem, 1) by decide +kernel), ?_⟩
  refine List.forall_mem_cons.mpr ⟨mx_ok_if_ne (show decode b_mm_cycle 113 = .ok (.ifCond .ne (-52), 3) by decide +kernel) (by decide), ?_⟩
  refine List.forall_mem_cons.mpr ⟨mx_ok_aload_n (show decode b_mm_cycle 116 = .ok (.aload_n 0, 1) by decide +kernel) rfl, ?_⟩
  refine List.forall_mem_cons.mpr ⟨mx_ok_iconst (show decode b_mm_cycle 117 = .ok (.iconst 1, 1) by decide +kernel) (by decide), ?_⟩
  refine List.forall_mem_cons.mpr ⟨mx_ok_putf fd_mm_50 fw_3_6 (show decode b_mm_cycle 118 = .ok (.putfield 50, 3) by decide +kernel), ?_⟩
  refine List.forall_mem_cons.mpr ⟨mx_ok_vret (show decode b_mm_cycle 121 = .ok (.return_, 1) by decide +kernel) rfl, ?_⟩
  refine List.forall_mem_cons.mpr ⟨mx_ok_aload_n (show decode b_mm_cycle 122 = .ok (.aload_n 0, 1) by decide +kernel) rfl, ?_⟩
  refine List.forall_mem_cons.mpr ⟨mx_ok_aload_n (show decode b_mm_cycle 123 = .ok (.aload_n 0, 1) by decide +kernel) rfl, ?_⟩
  refine List.forall_mem_cons.mpr ⟨mx_ok_iload_n (show decode b_mm_cycle 124 = .ok (.iload_n 1, 1) by decide +kernel) rfl, ?_⟩
  refine List.forall_mem_cons.mpr ⟨mx_ok_invV vw_G (ct_mm_wrong l ) ⟨vm_424, vm_425, vm_324, ⟨by decide +kernel, by decide +kernel, by decide +kernel⟩, ⟨by decide, by decide⟩, rfl, rfl⟩ vm_426 vm_427 rfl (show decode b_mm_cycle 125 = .ok (.invokevirtual 125, 3) by decide +kernel), ?_⟩
  refine List.forall_mem_cons.mpr ⟨mx_ok_putf fd_mm_50 fw_3_6 (show decode b_mm_cycle 128 = .ok (.putfield 50, 3) by decide +kernel), ?_⟩
  refine List.forall_mem_cons.mpr ⟨mx_ok_aload_n (show decode b_mm_cycle 131 = .ok (.aload_n 0, 1) by decide +kernel) rfl, ?_⟩
  refine List.forall_mem_cons.mpr ⟨mx_ok_getf fd_mm_50 (show decode b_mm_cycle 132 = .ok (.getfield 50, 3) by decide +kernel), ?_⟩
  refine List.forall_mem_cons.mpr ⟨mx_ok_if_ne (show decode b_mm_cycle 135 = .ok (.ifCond .ne 8, 3) by decide +kernel) (by decide), ?_⟩
  refine List.forall_mem_cons.mpr ⟨mx_ok_aload_n (show decode b_mm_cycle 138 = .ok (.aload_n 0, 1) by decide +kernel) rfl, ?_⟩
  refine List.forall_mem_cons.mpr ⟨mx_ok_iload_n (show decode b_mm_cycle 139 = .ok (.iload_n 1, 1) by decide +kernel) rfl, ?_⟩
  refine List.forall_mem_cons.mpr ⟨mx_ok_invV vw_G (ct_mm_packet l ) ⟨vm_428, vm_429, vm_324, ⟨by decide +kernel, by decide +kernel, by decide +kernel⟩, ⟨by decide, by decide⟩, rfl, rfl⟩ vm_430 vm_431 rfl (show decode b_mm_cycle 140 = .ok (.invokevirtual 128, 3) by decide +kernel), ?_⟩
  refine List.forall_mem_cons.mpr ⟨mx_ok_vret (show decode b_mm_cycle 143 = .ok (.return_, 1) by decide +kernel) rfl, ?_⟩
  exact fun _ h => absurd h List.not_mem_nil
set_option maxRecDepth 100000 in
set_option maxHeartbeats 4000000 in
theorem ct_mm_cycle (l : Launch) : mx_Ct l vw_T vw_cl km { frames := 5, cells := 0, slots := 0, locals := 110 } y_mm_cycle b_mm_cycle 3 none pre_mm_cycle fn_mm_cycle := by
  refine mx_ct_of (tb_mm_cycle ) (by decide) (ok_mm_cycle l ) (fun as u h => by obtain ⟨rfl, -⟩ := h; exact Nat.le_of_ble_eq_true rfl) ?_
  intro as u hpre At hc hw
  obtain ⟨rfl, hp⟩ := hpre
  obtain ⟨RES, hRES⟩ : ∃ z, z = (mm_cycle u) := ⟨_, rfl⟩
  have hfn : fn_mm_cycle [.inr (.inr 0)] u = (none, RES) := by rw [hRES]; rfl
  rw [hfn] at hc
  have lp61 : ∀ (n61 : Nat) (v1 : Int32) (v2 : Int32) (u : mx_S), q_mm_cycle_l61 n61 v1 v2 u → mm_cycle_l61 n61 v1 v2 u = RES → At 61 [(1, .inl v1), (2, .inl v2), (0, .inr (.inr 0))] [] u := by
    intro n61
    induction n61 with
    | zero =>
      intro v1 v2 u hi he
      exact hi.elim
    | succ n61 ih61 =>
      intro v1 v2 u hi61 he61
      exact hc 200 [61] _ _ _ _ (
        And.intro (fun h62 => 
         And.intro rfl (
         And.intro ⟨_, rfl, (hi61.1 h62).1⟩ (
         And.intro rfl (
         And.intro (fun h135 => 
          congrArg (fun z : mx_S => ((none, z) : Option mx_V × mx_S)) (show (mx_sf u 0 6 (mm_wrong v1 u)) = RES from ((if_pos h62).trans (if_neg h135)).symm.trans he61)) (fun h135 => 
          And.intro rfl (
          And.intro ⟨_, rfl, ((hi61.1 h62).2.2 h135)⟩ (
          congrArg (fun z : mx_S => ((none, z) : Option mx_V × mx_S)) (show (mm_packet v1 (mx_sf u 0 6 (mm_wrong v1 u))) = RES from ((if_pos h62).trans (if_pos h135)).symm.trans he61)))))))) (fun h62 => 
         And.intro (fun h66 => 
          And.intro rfl (
          congrArg (fun z : mx_S => ((none, z) : Option mx_V × mx_S)) (show (mx_sf u 0 6 8) = RES from ((if_neg h62).trans (if_pos h66)).symm.trans he61))) (fun h66 => 
          And.intro (fun h74 => 
           And.intro ((((hi61.2 h62).2 h66).1 h74).1) (
           And.intro (fun h93 => 
            And.intro (fun h106 => 
             hw [0, 1, 2] 61 _ [] _ (ih61 (v1 + 1) 0 u ((((hi61.2 h62).2 h66).1 h74).2.1 h93) (((if_neg h62).trans ((if_neg h66).trans ((if_pos h74).trans (if_neg h93)))).symm.trans he61))) (fun h106 => absurd h106 (by decide))) (fun h93 => 
            And.intro (fun h106 => absurd h106 (by decide)) (fun h106 => 
             And.intro (by decide) (
             And.intro (fun h113 => 
              hw [0, 1, 2] 61 _ [] _ (ih61 (v1 + 1) 1 u (((((hi61.2 h62).2 h66).1 h74).2.2 h93).1 h113) (((if_neg h62).trans ((if_neg h66).trans ((if_pos h74).trans ((if_pos h93).trans (if_neg h113))))).symm.trans he61))) (fun h113 => 
              And.intro rfl (
              congrArg (fun z : mx_S => ((none, z) : Option mx_V × mx_S)) (show (mx_sf u 0 6 1) = RES from ((if_neg h62).trans ((if_neg h66).trans ((if_pos h74).trans ((if_pos h93).trans (if_pos h113))))).symm.trans he61)))))))) (fun h74 => 
           And.intro rfl (
           congrArg (fun z : mx_S => ((none, z) : Option mx_V × mx_S)) (show (mx_sf u 0 6 8) = RES from ((if_neg h62).trans ((if_neg h66).trans (if_neg h74))).symm.trans he61))))))
  exact hc 200 [61] _ _ _ _ (
    And.intro rfl (
    And.intro ⟨rfl, hp.1⟩ (
    And.intro rfl (
    And.intro (fun h12 => 
     And.intro rfl (
     And.intro ⟨rfl, (hp.2.1 h12).1⟩ (
     And.intro rfl (
     And.intro (fun h28 => 
      And.intro (fun h36 => 
       And.intro rfl (
       And.intro ⟨rfl, (((hp.2.1 h12).2.1 h28).1 h36).1⟩ (
       hw [1, 0, 2] 61 _ [] _ (lp61 20 (mx_gf (mm_interrupts (mx_sf (mm_arrives_s (mx_sf (mm_lands_s u) 0 6 (mm_lands u))) 0 6 (mm_arrives (mx_sf (mm_lands_s u) 0 6 (mm_lands u))))) 0 7) 1 (mm_interrupts (mx_sf (mm_arrives_s (mx_sf (mm_lands_s u) 0 6 (mm_lands u))) 0 6 (mm_arrives (mx_sf (mm_lands_s u) 0 6 (mm_lands u))))) (((hp.2.1 h12).2.1 h28).1 h36).2 (((mm_cycle_eq u).trans ((if_pos h12).trans ((if_pos h28).trans (if_pos h36)))).symm.trans hRES.symm))))) (fun h36 => 
       And.intro rfl (
       congrArg (fun z : mx_S => ((none, z) : Option mx_V × mx_S)) (show (mx_sf (mx_sf (mm_arrives_s (mx_sf (mm_lands_s u) 0 6 (mm_lands u))) 0 6 (mm_arrives (mx_sf (mm_lands_s u) 0 6 (mm_lands u)))) 0 9 ((mx_gf (mx_sf (mm_arrives_s (mx_sf (mm_lands_s u) 0 6 (mm_lands u))) 0 6 (mm_arrives (mx_sf (mm_lands_s u) 0 6 (mm_lands u)))) 0 9) - (1 : Int32))) = RES from ((mm_cycle_eq u).trans ((if_pos h12).trans ((if_pos h28).trans (if_neg h36)))).symm.trans hRES.symm)))) (fun h28 => 
      congrArg (fun z : mx_S => ((none, z) : Option mx_V × mx_S)) (show (mx_sf (mm_arrives_s (mx_sf (mm_lands_s u) 0 6 (mm_lands u))) 0 6 (mm_arrives (mx_sf (mm_lands_s u) 0 6 (mm_lands u)))) = RES from ((mm_cycle_eq u).trans ((if_pos h12).trans (if_neg h28))).symm.trans hRES.symm)))))) (fun h12 => 
     congrArg (fun z : mx_S => ((none, z) : Option mx_V × mx_S)) (show (mx_sf (mm_lands_s u) 0 6 (mm_lands u)) = RES from ((mm_cycle_eq u).trans (if_neg h12)).symm.trans hRES.symm))))))
/-! WideMachineModel.run(I)I -/
noncomputable def mm_run_l20 (a1 : Int32) : Nat → Int32 → mx_S → (Int32 × mx_S)
  | 0, _, u => (0, u)
  | n + 1, v2, u =>
    if a1 ≤ v2 then
     (v2, u)
    else
     if (mx_gf u 0 6) = 0 then
      mm_run_l20 a1 n (v2 + 1) (mm_cycle (mx_sf u 0 8 ((mx_gf u 0 8) + (1 : Int32))))
     else
      (v2, u)
def q_mm_run_l20 (a1 : Int32) : Nat → Int32 → mx_S → Prop
  | 0, _, _ => False
  | n + 1, v2, u =>
    ((a1 ≤ v2) → 
     True) ∧ ((¬ (a1 ≤ v2)) → 
     ((¬ ((mx_gf u 0 6) = 0)) → 
      True) ∧ (((mx_gf u 0 6) = 0) → 
      ((q_mm_cycle (mx_sf u 0 8 ((mx_gf u 0 8) + (1 : Int32))))) ∧ (
       q_mm_run_l20 a1 n (v2 + 1) (mm_cycle (mx_sf u 0 8 ((mx_gf u 0 8) + (1 : Int32)))))))
noncomputable def mm_run_b (a1 : Int32) (u : mx_S) : Int32 × mx_S :=
  if a1 < 0 then
   ((-1), (mx_sf u 0 0 0))
  else
   if a1 ≤ 2000 then
    mm_run_l20 a1 2002 0 (mx_sf u 0 0 0)
   else
    ((-1), (mx_sf u 0 0 0))
theorem mm_run_ex : ∃ f : Int32 → mx_S → Int32, f = (fun a1 u => (mm_run_b a1 u).1) := ⟨_, rfl⟩
noncomputable def mm_run : Int32 → mx_S → Int32 := Classical.choose mm_run_ex
theorem mm_run_eq (a1 : Int32) (u : mx_S) : (mm_run a1 u) = (mm_run_b a1 u).1 := by rw [show mm_run = (fun a1 u => (mm_run_b a1 u).1) from Classical.choose_spec mm_run_ex]
theorem mm_run_s_ex : ∃ f : Int32 → mx_S → mx_S, f = (fun a1 u => (mm_run_b a1 u).2) := ⟨_, rfl⟩
noncomputable def mm_run_s : Int32 → mx_S → mx_S := Classical.choose mm_run_s_ex
theorem mm_run_s_eq (a1 : Int32) (u : mx_S) : (mm_run_s a1 u) = (mm_run_b a1 u).2 := by rw [show mm_run_s = (fun a1 u => (mm_run_b a1 u).2) from Classical.choose_spec mm_run_s_ex]
def q_mm_run (a1 : Int32) (u : mx_S) : Prop :=
  ((a1 < 0) → 
   True) ∧ ((¬ (a1 < 0)) → 
   ((a1 ≤ 2000) → 
    q_mm_run_l20 a1 2002 0 (mx_sf u 0 0 0)) ∧ ((¬ (a1 ≤ 2000)) → 
    True))
def pre_mm_run : List mx_V → mx_S → Prop := fun as u => ∃ (a1 : Int32), as = [.inr (.inr 0), .inl a1] ∧ q_mm_run a1 u
noncomputable def fn_mm_run : mx_F := fun as u => match as with
  | [_, .inl a1] => (some (.inl (mm_run a1 u)), (mm_run_s a1 u))
  | _ => (none, u)
noncomputable def tb_mm_run : List (Nat × mx_T) := [
  (0, mx_aload_n 0 0),
  (1, mx_iconst 0 1),
  (2, mx_putf km 3 0 2),
  (5, mx_iload_n 1 5),
  (6, mx_if_lt 16 6),
  (9, mx_iload_n 1 9),
  (10, mx_sipush 2000 10),
  (13, mx_icmp_le 18 13),
  (16, mx_iconst (-1) 16),
  (17, mx_iret 17),
  (18, mx_iconst 0 18),
  (19, mx_istore_n 2 19),
  (20, mx_iload_n 2 20),
  (21, mx_iload_n 1 21),
  (22, mx_icmp_ge 52 22),
  (25, mx_aload_n 0 25),
  (26, mx_getf km 3 6 26),
  (29, mx_if_ne 52 29),
  (32, mx_aload_n 0 32),
  (33, mx_dup 33),
  (34, mx_getf km 3 8 34),
  (37, mx_iconst 1 37),
  (38, mx_iadd 38),
  (39, mx_putf km 3 8 39),
  (42, mx_aload_n 0 42),
  (43, mx_invV km 3 0 pre_mm_cycle fn_mm_cycle 43),
  (46, mx_iinc 2 1 46),
  (49, mx_goto 20 49),
  (52, mx_iload_n 2 52),
  (53, mx_iret 53)]
set_option maxRecDepth 100000 in
set_option maxHeartbeats 4000000 in
theorem ok_mm_run (l : Launch) : ∀ q ∈ tb_mm_run , mx_Ok l ({ frames := 6, cells := 0, slots := 0, locals := 132 } : Room) b_mm_run 3 "WideMachineModel" (some .int) vw_T vw_cl km q.1 q.2 := by
  refine List.forall_mem_cons.mpr ⟨mx_ok_aload_n (show decode b_mm_run 0 = .ok (.aload_n 0, 1) by decide +kernel) rfl, ?_⟩
  refine List.forall_mem_cons.mpr ⟨mx_ok_iconst (show decode b_mm_run 1 = .ok (.iconst 0, 1) by decide +kernel) (by decide), ?_⟩
  refine List.forall_mem_cons.mpr ⟨mx_ok_putf fd_mm_47 fw_3_0 (show decode b_mm_run 2 = .ok (.putfield 47, 3) by decide +kernel), ?_⟩
  refine List.forall_mem_cons.mpr ⟨mx_ok_iload_n (show decode b_mm_run 5 = .ok (.iload_n 1, 1) by decide +kernel) rfl, ?_⟩
  refine List.forall_mem_cons.mpr ⟨mx_ok_if_lt (show decode b_mm_run 6 = .ok (.ifCond .lt 10, 3) by decide +kernel) (by decide), ?_⟩
  refine List.forall_mem_cons.mpr ⟨mx_ok_iload_n (show decode b_mm_run 9 = .ok (.iload_n 1, 1) by decide +kernel) rfl, ?_⟩
  refine List.forall_mem_cons.mpr ⟨mx_ok_sipush (show decode b_mm_run 10 = .ok (.sipush 2000, 3) by decide +kernel) (by decide), ?_⟩
  refine List.forall_mem_cons.mpr ⟨mx_ok_icmp_le (show decode b_mm_run 13 = .ok (.if_icmp .le 5, 3) by decide +kernel) (by decide), ?_⟩
  refine List.forall_mem_cons.mpr ⟨mx_ok_iconst (show decode b_mm_run 16 = .ok (.iconst (-1), 1) by decide +kernel) (by decide), ?_⟩
  refine List.forall_mem_cons.mpr ⟨mx_ok_iret (show decode b_mm_run 17 = .ok (.ireturn, 1) by decide +kernel) rfl, ?_⟩
  refine List.forall_mem_cons.mpr ⟨mx_ok_iconst (show decode b_mm_run 18 = .ok (.iconst 0, 1) by decide +kernel) (by decide), ?_⟩
  refine List.forall_mem_cons.mpr ⟨mx_ok_istore_n (show decode b_mm_run 19 = .ok (.istore_n 2, 1) by decide +kernel) rfl (by decide), ?_⟩
  refine List.forall_mem_cons.mpr ⟨mx_ok_iload_n (show decode b_mm_run 20 = .ok (.iload_n 2, 1) by decide +kernel) rfl, ?_⟩
  refine List.forall_mem_cons.mpr ⟨mx_ok_iload_n (show decode b_mm_run 21 = .ok (.iload_n 1, 1) by decide +kernel) rfl, ?_⟩
  refine List.forall_mem_cons.mpr ⟨mx_ok_icmp_ge (show decode b_mm_run 22 = .ok (.if_icmp .ge 30, 3) by decide +kernel) (by decide), ?_⟩
  refine List.forall_mem_cons.mpr ⟨mx_ok_aload_n (show decode b_mm_run 25 = .ok (.aload_n 0, 1) by decide +kernel) rfl, ?_⟩
  refine List.forall_mem_cons.mpr ⟨mx_ok_getf fd_mm_50 (show decode b_mm_run 26 = .ok (.getfield 50, 3) by decide +kernel), ?_⟩
  refine List.forall_mem_cons.mpr ⟨mx_ok_if_ne (show decode b_mm_run 29 = .ok (.ifCond .ne 23, 3) by decide +kernel) (by decide), ?_⟩
  refine List.forall_mem_cons.mpr ⟨mx_ok_aload_n (show decode b_mm_run 32 = .ok (.aload_n 0, 1) by decide +kernel) rfl, ?_⟩
  refine List.forall_mem_cons.mpr ⟨mx_ok_dup (show decode b_mm_run 33 = .ok (.dup, 1) by decide +kernel), ?_⟩
  refine List.forall_mem_cons.mpr ⟨mx_ok_getf fd_mm_56 (show decode b_mm_run 34 = .ok (.getfield 56, 3) by decide +kernel), ?_⟩
  refine List.forall_mem_cons.mpr ⟨mx_ok_iconst (show decode b_mm_run 37 = .ok (.iconst 1, 1) by decide +kernel) (by decide), ?_⟩
  refine List.forall_mem_cons.mpr ⟨mx_ok_iadd (show decode b_mm_run 38 = .ok (.iadd, 1) by decide +kernel), ?_⟩
  refine List.forall_mem_cons.mpr ⟨mx_ok_putf fd_mm_56 fw_3_8 (show decode b_mm_run 39 = .ok (.putfield 56, 3) by decide +kernel), ?_⟩
  refine List.forall_mem_cons.mpr ⟨mx_ok_aload_n (show decode b_mm_run 42 = .ok (.aload_n 0, 1) by decide +kernel) rfl, ?_⟩
  refine List.forall_mem_cons.mpr ⟨mx_ok_invV vw_G (ct_mm_cycle l ) ⟨vm_432, vm_433, vm_324, ⟨by decide +kernel, by decide +kernel, by decide +kernel⟩, ⟨by decide, by decide⟩, rfl, rfl⟩ vm_434 vm_435 rfl (show decode b_mm_run 43 = .ok (.invokevirtual 78, 3) by decide +kernel), ?_⟩
  refine List.forall_mem_cons.mpr ⟨mx_ok_iinc (show decode b_mm_run 46 = .ok (.iinc 2 1, 3) by decide +kernel) (by decide) (by decide), ?_⟩
  refine List.forall_mem_cons.mpr ⟨mx_ok_goto (show decode b_mm_run 49 = .ok (.goto (-29), 3) by decide +kernel) (by decide), ?_⟩
  refine List.forall_mem_cons.mpr ⟨mx_ok_iload_n (show decode b_mm_run 52 = .ok (.iload_n 2, 1) by decide +kernel) rfl, ?_⟩
  refine List.forall_mem_cons.mpr ⟨mx_ok_iret (show decode b_mm_run 53 = .ok (.ireturn, 1) by decide +kernel) rfl, ?_⟩
  exact fun _ h => absurd h List.not_mem_nil
set_option maxRecDepth 100000 in
set_option maxHeartbeats 4000000 in
theorem ct_mm_run (l : Launch) : mx_Ct l vw_T vw_cl km { frames := 6, cells := 0, slots := 0, locals := 132 } y_mm_run b_mm_run 3 (some .int) pre_mm_run fn_mm_run := by
  refine mx_ct_of (tb_mm_run ) (by decide) (ok_mm_run l ) (fun as u h => by obtain ⟨_, rfl, -⟩ := h; exact Nat.le_of_ble_eq_true rfl) ?_
  intro as u hpre At hc hw
  obtain ⟨a1, rfl, hp⟩ := hpre
  obtain ⟨RES, hRES⟩ : ∃ z, z = (mm_run_b a1 u) := ⟨_, rfl⟩
  have hfn : fn_mm_run [.inr (.inr 0), .inl a1] u = mx_rB RES := by
    show ((some (.inl (mm_run a1 u)), (mm_run_s a1 u)) : Option mx_V × mx_S) = _
    rw [hRES, mm_run_eq, mm_run_s_eq]
    rfl
  rw [hfn] at hc
  have lp20 : ∀ (n20 : Nat) (v2 : Int32) (u : mx_S), q_mm_run_l20 a1 n20 v2 u → mm_run_l20 a1 n20 v2 u = RES → At 20 [(2, .inl v2), (0, .inr (.inr 0)), (1, .inl a1)] [] u := by
    intro n20
    induction n20 with
    | zero =>
      intro v2 u hi he
      exact hi.elim
    | succ n20 ih20 =>
      intro v2 u hi20 he20
      exact hc 200 [20] _ _ _ _ (
        And.intro (fun h22 => 
         congrArg mx_rB (show (v2, u) = RES from (if_pos h22).symm.trans he20)) (fun h22 => 
         And.intro (fun h29 => 
          congrArg mx_rB (show (v2, u) = RES from ((if_neg h22).trans (if_neg h29)).symm.trans he20)) (fun h29 => 
          And.intro rfl (
          And.intro rfl (
          And.intro ⟨rfl, ((hi20.2 h22).2 h29).1⟩ (
          hw [0, 1, 2] 20 _ [] _ (ih20 (v2 + 1) (mm_cycle (mx_sf u 0 8 ((mx_gf u 0 8) + (1 : Int32)))) ((hi20.2 h22).2 h29).2 (((if_neg h22).trans (if_pos h29)).symm.trans he20))))))))
  exact hc 200 [20] _ _ _ _ (
    And.intro rfl (
    And.intro (fun h6 => 
     congrArg mx_rB (show ((-1), (mx_sf u 0 0 0)) = RES from (if_pos h6).symm.trans hRES.symm)) (fun h6 => 
     And.intro (fun h13 => 
      hw [0, 1, 2] 20 _ [] _ (lp20 2002 0 (mx_sf u 0 0 0) ((hp.2 h6).1 h13) (((if_neg h6).trans (if_pos h13)).symm.trans hRES.symm))) (fun h13 => 
      congrArg mx_rB (show ((-1), (mx_sf u 0 0 0)) = RES from ((if_neg h6).trans (if_neg h13)).symm.trans hRES.symm)))))
