/-! WideMachine$Writes.comeNearer()V -/
noncomputable def xq_comeNearer_l2 : Nat → Int32 → mx_S → (mx_S)
  | 0, _, u => u
  | n + 1, v1, u =>
    if (mx_gf u 4 3) ≤ v1 then
     u
    else
     xq_comeNearer_l2 n (v1 + 1) (mx_sa u 7 (v1).toNatClampNeg ((mx_ga u 7 (v1).toNatClampNeg) - (1 : Int32)))
def q_xq_comeNearer_l2 (np nd : Nat) : Nat → Int32 → mx_S → Prop
  | 0, _, _ => False
  | n + 1, v1, u =>
    (((mx_gf u 4 3) ≤ v1) → 
     True) ∧ ((¬ ((mx_gf u 4 3) ≤ v1)) → 
     (vp_in v1 18) ∧ (
      (vp_in v1 18) ∧ (
       q_xq_comeNearer_l2 np nd n (v1 + 1) (mx_sa u 7 (v1).toNatClampNeg ((mx_ga u 7 (v1).toNatClampNeg) - (1 : Int32))))))
noncomputable def xq_comeNearer_b (u : mx_S) : mx_S :=
  xq_comeNearer_l2 20 0 u
theorem xq_comeNearer_ex : ∃ f : mx_S → (mx_S), f = xq_comeNearer_b := ⟨_, rfl⟩
noncomputable def xq_comeNearer : mx_S → (mx_S) := Classical.choose xq_comeNearer_ex
theorem xq_comeNearer_eq (u : mx_S) : (xq_comeNearer u) = (xq_comeNearer_b u) := by rw [show xq_comeNearer = xq_comeNearer_b from Classical.choose_spec xq_comeNearer_ex]
def q_xq_comeNearer (np nd : Nat) (u : mx_S) : Prop :=
  q_xq_comeNearer_l2 np nd 20 0 u
def pre_xq_comeNearer (np nd : Nat) : List mx_V → mx_S → Prop := fun as u => as = [.inr (.inr 4)] ∧ q_xq_comeNearer np nd u
noncomputable def fn_xq_comeNearer (np nd : Nat) : mx_F := fun as u => match as with
  | [_] => (none, (xq_comeNearer u))
  | _ => (none, u)
noncomputable def tb_xq_comeNearer (np nd : Nat) : List (Nat × mx_T) := [
  (0, mx_iconst 0 0),
  (1, mx_istore_n 1 1),
  (2, mx_iload_n 1 2),
  (3, mx_aload_n 0 3),
  (4, mx_getf (kx np nd) 1 3 4),
  (7, mx_icmp_ge 26 7),
  (10, mx_aload_n 0 10),
  (11, mx_getf (kx np nd) 1 2 11),
  (14, mx_iload_n 1 14),
  (15, mx_dup2 15),
  (16, mx_iald (kx np nd) 16),
  (17, mx_iconst 1 17),
  (18, mx_isub 18),
  (19, mx_iast (kx np nd) 19),
  (20, mx_iinc 1 1 20),
  (23, mx_goto 2 23),
  (26, mx_vret 26)]
set_option maxRecDepth 100000 in
set_option maxHeartbeats 4000000 in
theorem ok_xq_comeNearer (l : Launch) (np nd : Nat) : ∀ q ∈ tb_xq_comeNearer np nd , mx_Ok l ({ frames := 0, cells := 0, slots := 0, locals := 0 } : Room) b_xq_comeNearer 2 "WideMachine$Writes" none vw_T vw_cl (kx np nd) q.1 q.2 := by
  refine List.forall_mem_cons.mpr ⟨mx_ok_iconst (show decode b_xq_comeNearer 0 = .ok (.iconst 0, 1) by decide +kernel) (by decide), ?_⟩
  refine List.forall_mem_cons.mpr ⟨mx_ok_istore_n (show decode b_xq_comeNearer 1 = .ok (.istore_n 1, 1) by decide +kernel) rfl (by decide), ?_⟩
  refine List.forall_mem_cons.mpr ⟨mx_ok_iload_n (show decode b_xq_comeNearer 2 = .ok (.iload_n 1, 1) by decide +kernel) rfl, ?_⟩
  refine List.forall_mem_cons.mpr ⟨mx_ok_aload_n (show decode b_xq_comeNearer 3 = .ok (.aload_n 0, 1) by decide +kernel) rfl, ?_⟩
  refine List.forall_mem_cons.mpr ⟨mx_ok_getf fd_xq_19 (show decode b_xq_comeNearer 4 = .ok (.getfield 19, 3) by decide +kernel), ?_⟩
  refine List.forall_mem_cons.mpr ⟨mx_ok_icmp_ge (show decode b_xq_comeNearer 7 = .ok (.if_icmp .ge 19, 3) by decide +kernel) (by decide), ?_⟩
  refine List.forall_mem_cons.mpr ⟨mx_ok_aload_n (show decode b_xq_comeNearer 10 = .ok (.aload_n 0, 1) by decide +kernel) rfl, ?_⟩
  refine List.forall_mem_cons.mpr ⟨mx_ok_getf fd_xq_16 (show decode b_xq_comeNearer 11 = .ok (.getfield 16, 3) by decide +kernel), ?_⟩
  refine List.forall_mem_cons.mpr ⟨mx_ok_iload_n (show decode b_xq_comeNearer 14 = .ok (.iload_n 1, 1) by decide +kernel) rfl, ?_⟩
  refine List.forall_mem_cons.mpr ⟨mx_ok_dup2 (show decode b_xq_comeNearer 15 = .ok (.dup2, 1) by decide +kernel), ?_⟩
  refine List.forall_mem_cons.mpr ⟨mx_ok_iald (show decode b_xq_comeNearer 16 = .ok (.iaload, 1) by decide +kernel), ?_⟩
  refine List.forall_mem_cons.mpr ⟨mx_ok_iconst (show decode b_xq_comeNearer 17 = .ok (.iconst 1, 1) by decide +kernel) (by decide), ?_⟩
  refine List.forall_mem_cons.mpr ⟨mx_ok_isub (show decode b_xq_comeNearer 18 = .ok (.isub, 1) by decide +kernel), ?_⟩
  refine List.forall_mem_cons.mpr ⟨mx_ok_iast (show decode b_xq_comeNearer 19 = .ok (.iastore, 1) by decide +kernel), ?_⟩
  refine List.forall_mem_cons.mpr ⟨mx_ok_iinc (show decode b_xq_comeNearer 20 = .ok (.iinc 1 1, 3) by decide +kernel) (by decide) (by decide), ?_⟩
  refine List.forall_mem_cons.mpr ⟨mx_ok_goto (show decode b_xq_comeNearer 23 = .ok (.goto (-21), 3) by decide +kernel) (by decide), ?_⟩
  refine List.forall_mem_cons.mpr ⟨mx_ok_vret (show decode b_xq_comeNearer 26 = .ok (.return_, 1) by decide +kernel) rfl, ?_⟩
  exact fun _ h => absurd h List.not_mem_nil
set_option maxRecDepth 100000 in
set_option maxHeartbeats 4000000 in
theorem ct_xq_comeNearer (l : Launch) (np nd : Nat) : mx_Ct l vw_T vw_cl (kx np nd) { frames := 0, cells := 0, slots := 0, locals := 0 } y_xq_comeNearer b_xq_comeNearer 2 none (pre_xq_comeNearer np nd) (fn_xq_comeNearer np nd) := by
  refine mx_ct_of (tb_xq_comeNearer np nd ) (by decide) (ok_xq_comeNearer l np nd ) (fun as u h => by obtain ⟨rfl, -⟩ := h; exact Nat.le_of_ble_eq_true rfl) ?_
  intro as u hpre At hc hw
  obtain ⟨rfl, hp⟩ := hpre
  obtain ⟨RES, hRES⟩ : ∃ z, z = (xq_comeNearer u) := ⟨_, rfl⟩
  have hfn : fn_xq_comeNearer np nd [.inr (.inr 4)] u = (none, RES) := by rw [hRES]; rfl
  rw [hfn] at hc
  have lp2 : ∀ (n2 : Nat) (v1 : Int32) (u : mx_S), q_xq_comeNearer_l2 np nd n2 v1 u → xq_comeNearer_l2 n2 v1 u = RES → At 2 [(1, .inl v1), (0, .inr (.inr 4))] [] u := by
    intro n2
    induction n2 with
    | zero =>
      intro v1 u hi he
      exact hi.elim
    | succ n2 ih2 =>
      intro v1 u hi2 he2
      exact hc 200 [2] _ _ _ _ (
        And.intro (fun h7 => 
         congrArg (fun z : mx_S => ((none, z) : Option mx_V × mx_S)) (show u = RES from (if_pos h7).symm.trans he2)) (fun h7 => 
         And.intro ((hi2.2 h7).1) (
         And.intro ((hi2.2 h7).2.1) (
         hw [0, 1] 2 _ [] _ (ih2 (v1 + 1) (mx_sa u 7 (v1).toNatClampNeg ((mx_ga u 7 (v1).toNatClampNeg) - (1 : Int32))) (hi2.2 h7).2.2 ((if_neg h7).symm.trans he2))))))
  exact hc 200 [2] _ _ _ _ (
    hw [0, 1] 2 _ [] _ (lp2 20 0 u hp ((xq_comeNearer_eq u).symm.trans hRES.symm)))
/-! WideMachine$Writes.clash()Z -/
noncomputable def xq_clash_l4 (u : mx_S) : Nat → Int32 → Int32 → (Int32)
  | 0, _, _ => 0
  | n + 1, v1, v2 =>
    if (mx_gf u 4 3) ≤ v2 then
     0
    else
     if (mx_ga u 7 (v2).toNatClampNeg) = 0 then
      if (v1 &&& ((1 : Int32) <<< ((mx_ga u 5 (v2).toNatClampNeg) &&& 31))) = 0 then
       xq_clash_l4 u n (v1 ||| ((1 : Int32) <<< ((mx_ga u 5 (v2).toNatClampNeg) &&& 31))) (v2 + 1)
      else
       1
     else
      xq_clash_l4 u n v1 (v2 + 1)
def q_xq_clash_l4 (np nd : Nat) (u : mx_S) : Nat → Int32 → Int32 → Prop
  | 0, _, _ => False
  | n + 1, v1, v2 =>
    (((mx_gf u 4 3) ≤ v2) → 
     True) ∧ ((¬ ((mx_gf u 4 3) ≤ v2)) → 
     (vp_in v2 18) ∧ (
      ((¬ ((mx_ga u 7 (v2).toNatClampNeg) = 0)) → 
       q_xq_clash_l4 np nd u n v1 (v2 + 1)) ∧ (((mx_ga u 7 (v2).toNatClampNeg) = 0) → 
       (vp_in v2 18) ∧ (
        (((v1 &&& ((1 : Int32) <<< ((mx_ga u 5 (v2).toNatClampNeg) &&& 31))) = 0) → 
         q_xq_clash_l4 np nd u n (v1 ||| ((1 : Int32) <<< ((mx_ga u 5 (v2).toNatClampNeg) &&& 31))) (v2 + 1)) ∧ ((¬ ((v1 &&& ((1 : Int32) <<< ((mx_ga u 5 (v2).toNatClampNeg) &&& 31))) = 0)) → 
         True)))))
noncomputable def xq_clash_b (u : mx_S) : Int32 :=
  xq_clash_l4 u 20 0 0
theorem xq_clash_ex : ∃ f : mx_S → (Int32), f = xq_clash_b := ⟨_, rfl⟩
noncomputable def xq_clash : mx_S → (Int32) := Classical.choose xq_clash_ex
theorem xq_clash_eq (u : mx_S) : (xq_clash u) = (xq_clash_b u) := by rw [show xq_clash = xq_clash_b from Classical.choose_spec xq_clash_ex]
def q_xq_clash (np nd : Nat) (u : mx_S) : Prop :=
  q_xq_clash_l4 np nd u 20 0 0
def pre_xq_clash (np nd : Nat) : List mx_V → mx_S → Prop := fun as u => as = [.inr (.inr 4)] ∧ q_xq_clash np nd u
noncomputable def fn_xq_clash (np nd : Nat) : mx_F := fun as u => match as with
  | [_] => mx_rI u (xq_clash u)
  | _ => (none, u)
noncomputable def tb_xq_clash (np nd : Nat) : List (Nat × mx_T) := [
  (0, mx_iconst 0 0),
  (1, mx_istore_n 1 1),
  (2, mx_iconst 0 2),
  (3, mx_istore_n 2 3),
  (4, mx_iload_n 2 4),
  (5, mx_aload_n 0 5),
  (6, mx_getf (kx np nd) 1 3 6),
  (9, mx_icmp_ge 48 9),
  (12, mx_aload_n 0 12),
  (13, mx_getf (kx np nd) 1 2 13),
  (16, mx_iload_n 2 16),
  (17, mx_iald (kx np nd) 17),
  (18, mx_if_ne 42 18),
  (21, mx_iconst 1 21),
  (22, mx_aload_n 0 22),
  (23, mx_getf (kx np nd) 1 0 23),
  (26, mx_iload_n 2 26),
  (27, mx_iald (kx np nd) 27),
  (28, mx_ishl 28),
  (29, mx_istore_n 3 29),
  (30, mx_iload_n 1 30),
  (31, mx_iload_n 3 31),
  (32, mx_iand 32),
  (33, mx_if_eq 38 33),
  (36, mx_iconst 1 36),
  (37, mx_zret 37),
  (38, mx_iload_n 1 38),
  (39, mx_iload_n 3 39),
  (40, mx_ior 40),
  (41, mx_istore_n 1 41),
  (42, mx_iinc 2 1 42),
  (45, mx_goto 4 45),
  (48, mx_iconst 0 48),
  (49, mx_zret 49)]
set_option maxRecDepth 100000 in
set_option maxHeartbeats 4000000 in
theorem ok_xq_clash (l : Launch) (np nd : Nat) : ∀ q ∈ tb_xq_clash np nd , mx_Ok l ({ frames := 0, cells := 0, slots := 0, locals := 0 } : Room) b_xq_clash 4 "WideMachine$Writes" (some .boolean) vw_T vw_cl (kx np nd) q.1 q.2 := by
  refine List.forall_mem_cons.mpr ⟨mx_ok_iconst (show decode b_xq_clash 0 = .ok (.iconst 0, 1) by decide +kernel) (by decide), ?_⟩
  refine List.forall_mem_cons.mpr ⟨mx_ok_istore_n (show decode b_xq_clash 1 = .ok (.istore_n 1, 1) by decide +kernel) rfl (by decide), ?_⟩
  refine List.forall_mem_cons.mpr ⟨mx_ok_iconst (show decode b_xq_clash 2 = .ok (.iconst 0, 1) by decide +kernel) (by decide), ?_⟩
  refine List.forall_mem_cons.mpr ⟨mx_ok_istore_n (show decode b_xq_clash 3 = .ok (.istore_n 2, 1) by decide +kernel) rfl (by decide), ?_⟩
  refine List.forall_mem_cons.mpr ⟨mx_ok_iload_n (show decode b_xq_clash 4 = .ok (.iload_n 2, 1) by decide +kernel) rfl, ?_⟩
  refine List.forall_mem_cons.mpr ⟨mx_ok_aload_n (show decode b_xq_clash 5 = .ok (.aload_n 0, 1) by decide +kernel) rfl, ?_⟩
  refine List.forall_mem_cons.mpr ⟨mx_ok_getf fd_xq_19 (show decode b_xq_clash 6 = .ok (.getfield 19, 3) by decide +kernel), ?_⟩
  refine List.forall_mem_cons.mpr ⟨mx_ok_icmp_ge (show decode b_xq_clash 9 = .ok (.if_icmp .ge 39, 3) by decide +kernel) (by decide), ?_⟩
  refine List.forall_mem_cons.mpr ⟨mx_ok_aload_n (show decode b_xq_clash 12 = .ok (.aload_n 0, 1) by decide +kernel) rfl, ?_⟩
  refine List.forall_mem_cons.mpr ⟨mx_ok_getf fd_xq_16 (show decode b_xq_clash 13 = .ok (.getfield 16, 3) by decide +kernel), ?_⟩
  refine List.forall_mem_cons.mpr ⟨mx_ok_iload_n (show decode b_xq_clash 16 = .ok (.iload_n 2, 1) by decide +kernel) rfl, ?_⟩
  refine List.forall_mem_cons.mpr ⟨mx_ok_iald (show decode b_xq_clash 17 = .ok (.iaload, 1) by decide +kernel), ?_⟩
  refine List.forall_mem_cons.mpr ⟨mx_ok_if_ne (show decode b_xq_clash 18 = .ok (.ifCond .ne 24, 3) by decide +kernel) (by decide), ?_⟩
  refine List.forall_mem_cons.mpr ⟨mx_ok_iconst (show decode b_xq_clash 21 = .ok (.iconst 1, 1) by decide +kernel) (by decide), ?_⟩
  refine List.forall_mem_cons.mpr ⟨mx_ok_aload_n (show decode b_xq_clash 22 = .ok (.aload_n 0, 1) by decide +kernel) rfl, ?_⟩
  refine List.forall_mem_cons.mpr ⟨mx_ok_getf fd_xq_9 (show decode b_xq_clash 23 = .ok (.getfield 9, 3) by decide +kernel), ?_⟩
  refine List.forall_mem_cons.mpr ⟨mx_ok_iload_n (show decode b_xq_clash 26 = .ok (.iload_n 2, 1) by decide +kernel) rfl, ?_⟩
  refine List.forall_mem_cons.mpr ⟨mx_ok_iald (show decode b_xq_clash 27 = .ok (.iaload, 1) by decide +kernel), ?_⟩
  refine List.forall_mem_cons.mpr ⟨mx_ok_ishl (show decode b_xq_clash 28 = .ok (.ishl, 1) by decide +kernel), ?_⟩
  refine List.forall_mem_cons.mpr ⟨mx_ok_istore_n (show decode b_xq_clash 29 = .ok (.istore_n 3, 1) by decide +kernel) rfl (by decide), ?_⟩
  refine List.forall_mem_cons.mpr ⟨mx_ok_iload_n (show decode b_xq_clash 30 = .ok (.iload_n 1, 1) by decide +kernel) rfl, ?_⟩
  refine List.forall_mem_cons.mpr ⟨mx_ok_iload_n (show decode b_xq_clash 31 = .ok (.iload_n 3, 1) by decide +kernel) rfl, ?_⟩
  refine List.forall_mem_cons.mpr ⟨mx_ok_iand (show decode b_xq_clash 32 = .ok (.iand, 1) by decide +kernel), ?_⟩
  refine List.forall_mem_cons.mpr ⟨mx_ok_if_eq (show decode b_xq_clash 33 = .ok (.ifCond .eq 5, 3) by decide +kernel) (by decide), ?_⟩
  refine List.forall_mem_cons.mpr ⟨mx_ok_iconst (show decode b_xq_clash 36 = .ok (.iconst 1, 1) by decide +kernel) (by decide), ?_⟩
  refine List.forall_mem_cons.mpr ⟨mx_ok_zret (show decode b_xq_clash 37 = .ok (.ireturn, 1) by decide +kernel) rfl, ?_⟩
  refine List.forall_mem_cons.mpr ⟨mx_ok_iload_n (show decode b_xq_clash 38 = .ok (.iload_n 1, 1) by decide +kernel) rfl, ?_⟩
  refine List.forall_mem_cons.mpr ⟨mx_ok_iload_n (show decode b_xq_clash 39 = .ok (.iload_n 3, 1) by decide +kernel) rfl, ?_⟩
  refine List.forall_mem_cons.mpr ⟨mx_ok_ior (show decode b_xq_clash 40 = .ok (.ior, 1) by decide +kernel), ?_⟩
  refine List.forall_mem_cons.mpr ⟨mx_ok_istore_n (show decode b_xq_clash 41 = .ok (.istore_n 1, 1) by decide +kernel) rfl (by decide), ?_⟩
  refine List.forall_mem_cons.mpr ⟨mx_ok_iinc (show decode b_xq_clash 42 = .ok (.iinc 2 1, 3) by decide +kernel) (by decide) (by decide), ?_⟩
  refine List.forall_mem_cons.mpr ⟨mx_ok_goto (show decode b_xq_clash 45 = .ok (.goto (-41), 3) by decide +kernel) (by decide), ?_⟩
  refine List.forall_mem_cons.mpr ⟨mx_ok_iconst (show decode b_xq_clash 48 = .ok (.iconst 0, 1) by decide +kernel) (by decide), ?_⟩
  refine List.forall_mem_cons.mpr ⟨mx_ok_zret (show decode b_xq_clash 49 = .ok (.ireturn, 1) by decide +kernel) rfl, ?_⟩
  exact fun _ h => absurd h List.not_mem_nil
set_option maxRecDepth 100000 in
set_option maxHeartbeats 4000000 in
theorem ct_xq_clash (l : Launch) (np nd : Nat) : mx_Ct l vw_T vw_cl (kx np nd) { frames := 0, cells := 0, slots := 0, locals := 0 } y_xq_clash b_xq_clash 4 (some .boolean) (pre_xq_clash np nd) (fn_xq_clash np nd) := by
  refine mx_ct_of (tb_xq_clash np nd ) (by decide) (ok_xq_clash l np nd ) (fun as u h => by obtain ⟨rfl, -⟩ := h; exact Nat.le_of_ble_eq_true rfl) ?_
  intro as u hpre At hc hw
  obtain ⟨rfl, hp⟩ := hpre
  obtain ⟨RES, hRES⟩ : ∃ z, z = (xq_clash u) := ⟨_, rfl⟩
  have hfn : fn_xq_clash np nd [.inr (.inr 4)] u = mx_rI u RES := by rw [hRES]; rfl
  rw [hfn] at hc
  have lp4 : ∀ (n4 : Nat) (v1 : Int32) (v2 : Int32), q_xq_clash_l4 np nd u n4 v1 v2 → xq_clash_l4 u n4 v1 v2 = RES → At 4 [(1, .inl v1), (2, .inl v2), (0, .inr (.inr 4))] [] u := by
    intro n4
    induction n4 with
    | zero =>
      intro v1 v2 hi he
      exact hi.elim
    | succ n4 ih4 =>
      intro v1 v2 hi4 he4
      exact hc 200 [4] _ _ _ _ (
        And.intro (fun h9 => 
         And.intro (Or.inl rfl) (
         congrArg (mx_rI u) (show 0 = RES from (if_pos h9).symm.trans he4))) (fun h9 => 
         And.intro ((hi4.2 h9).1) (
         And.intro (fun h18 => 
          hw [1, 0, 2] 4 _ [] _ (ih4 v1 (v2 + 1) ((hi4.2 h9).2.1 h18) (((if_neg h9).trans (if_neg h18)).symm.trans he4))) (fun h18 => 
          And.intro (((hi4.2 h9).2.2 h18).1) (
          And.intro (fun h33 => 
           hw [1, 0, 3] 4 _ [] _ (ih4 (v1 ||| ((1 : Int32) <<< ((mx_ga u 5 (v2).toNatClampNeg) &&& 31))) (v2 + 1) (((hi4.2 h9).2.2 h18).2.1 h33) (((if_neg h9).trans ((if_pos h18).trans (if_pos h33))).symm.trans he4))) (fun h33 => 
           And.intro (Or.inr rfl) (
           congrArg (mx_rI u) (show 1 = RES from ((if_neg h9).trans ((if_pos h18).trans (if_neg h33))).symm.trans he4))))))))
  exact hc 200 [4] _ _ _ _ (
    hw [1, 0, 2] 4 _ [] _ (lp4 20 0 0 hp ((xq_clash_eq u).symm.trans hRES.symm)))
/-! WideMachine$Writes.land([I)V -/
noncomputable def xq_land_l4 : Nat → Int32 → Int32 → mx_S → (mx_S)
  | 0, _, _, u => u
  | n + 1, v2, v3, u =>
    if (mx_gf u 4 3) ≤ v3 then
     (mx_sf u 4 3 v2)
    else
     if (mx_ga u 7 (v3).toNatClampNeg) = 0 then
      xq_land_l4 n v2 (v3 + 1) (mx_sa u 3 ((mx_ga u 5 (v3).toNatClampNeg)).toNatClampNeg (mx_ga u 6 (v3).toNatClampNeg))
     else
      xq_land_l4 n (v2 + 1) (v3 + 1) (mx_sa (mx_sa (mx_sa u 5 (v2).toNatClampNeg (mx_ga u 5 (v3).toNatClampNeg)) 6 (v2).toNatClampNeg (mx_ga (mx_sa u 5 (v2).toNatClampNeg (mx_ga u 5 (v3).toNatClampNeg)) 6 (v3).toNatClampNeg)) 7 (v2).toNatClampNeg (mx_ga (mx_sa (mx_sa u 5 (v2).toNatClampNeg (mx_ga u 5 (v3).toNatClampNeg)) 6 (v2).toNatClampNeg (mx_ga (mx_sa u 5 (v2).toNatClampNeg (mx_ga u 5 (v3).toNatClampNeg)) 6 (v3).toNatClampNeg)) 7 (v3).toNatClampNeg))
def q_xq_land_l4 (np nd : Nat) : Nat → Int32 → Int32 → mx_S → Prop
  | 0, _, _, _ => False
  | n + 1, v2, v3, u =>
    (((mx_gf u 4 3) ≤ v3) → 
     True) ∧ ((¬ ((mx_gf u 4 3) ≤ v3)) → 
     (vp_in v3 18) ∧ (
      ((¬ ((mx_ga u 7 (v3).toNatClampNeg) = 0)) → 
       (vp_in v3 18) ∧ (
        (vp_in v2 18) ∧ (
         (vp_in v3 18) ∧ (
          (vp_in v2 18) ∧ (
           (vp_in v3 18) ∧ (
            (vp_in v2 18) ∧ (
             q_xq_land_l4 np nd n (v2 + 1) (v3 + 1) (mx_sa (mx_sa (mx_sa u 5 (v2).toNatClampNeg (mx_ga u 5 (v3).toNatClampNeg)) 6 (v2).toNatClampNeg (mx_ga (mx_sa u 5 (v2).toNatClampNeg (mx_ga u 5 (v3).toNatClampNeg)) 6 (v3).toNatClampNeg)) 7 (v2).toNatClampNeg (mx_ga (mx_sa (mx_sa u 5 (v2).toNatClampNeg (mx_ga u 5 (v3).toNatClampNeg)) 6 (v2).toNatClampNeg (mx_ga (mx_sa u 5 (v2).toNatClampNeg (mx_ga u 5 (v3).toNatClampNeg)) 6 (v3).toNatClampNeg)) 7 (v3).toNatClampNeg))))))))) ∧ (((mx_ga u 7 (v3).toNatClampNeg) = 0) → 
       (vp_in v3 18) ∧ (
        (vp_in v3 18) ∧ (
         (vp_in (mx_ga u 5 (v3).toNatClampNeg) 32) ∧ (
          q_xq_land_l4 np nd n v2 (v3 + 1) (mx_sa u 3 ((mx_ga u 5 (v3).toNatClampNeg)).toNatClampNeg (mx_ga u 6 (v3).toNatClampNeg))))))))
noncomputable def xq_land_b (u : mx_S) : mx_S :=
  xq_land_l4 20 0 0 u
theorem xq_land_ex : ∃ f : mx_S → (mx_S), f = xq_land_b := ⟨_, rfl⟩
noncomputable def xq_land : mx_S → (mx_S) := Classical.choose xq_land_ex
theorem xq_land_eq (u : mx_S) : (xq_land u) = (xq_land_b u) := by rw [show xq_land = xq_land_b from Classical.choose_spec xq_land_ex]
def q_xq_land (np nd : Nat) (u : mx_S) : Prop :=
  q_xq_land_l4 np nd 20 0 0 u
def pre_xq_land (np nd : Nat) : List mx_V → mx_S → Prop := fun as u => as = [.inr (.inr 4), .inr (.inr 3)] ∧ q_xq_land np nd u
noncomputable def fn_xq_land (np nd : Nat) : mx_F := fun as u => match as with
  | [_, _] => (none, (xq_land u))
  | _ => (none, u)
noncomputable def tb_xq_land (np nd : Nat) : List (Nat × mx_T) := [
  (0, mx_iconst 0 0),
  (1, mx_istore_n 2 1),
  (2, mx_iconst 0 2),
  (3, mx_istore_n 3 3),
  (4, mx_iload_n 3 4),
  (5, mx_aload_n 0 5),
  (6, mx_getf (kx np nd) 1 3 6),
  (9, mx_icmp_ge 83 9),
  (12, mx_aload_n 0 12),
  (13, mx_getf (kx np nd) 1 2 13),
  (16, mx_iload_n 3 16),
  (17, mx_iald (kx np nd) 17),
  (18, mx_if_ne 38 18),
  (21, mx_aload_n 1 21),
  (22, mx_aload_n 0 22),
  (23, mx_getf (kx np nd) 1 0 23),
  (26, mx_iload_n 3 26),
  (27, mx_iald (kx np nd) 27),
  (28, mx_aload_n 0 28),
  (29, mx_getf (kx np nd) 1 1 29),
  (32, mx_iload_n 3 32),
  (33, mx_iald (kx np nd) 33),
  (34, mx_iast (kx np nd) 34),
  (35, mx_goto 77 35),
  (38, mx_aload_n 0 38),
  (39, mx_getf (kx np nd) 1 0 39),
  (42, mx_iload_n 2 42),
  (43, mx_aload_n 0 43),
  (44, mx_getf (kx np nd) 1 0 44),
  (47, mx_iload_n 3 47),
  (48, mx_iald (kx np nd) 48),
  (49, mx_iast (kx np nd) 49),
  (50, mx_aload_n 0 50),
  (51, mx_getf (kx np nd) 1 1 51),
  (54, mx_iload_n 2 54),
  (55, mx_aload_n 0 55),
  (56, mx_getf (kx np nd) 1 1 56),
  (59, mx_iload_n 3 59),
  (60, mx_iald (kx np nd) 60),
  (61, mx_iast (kx np nd) 61),
  (62, mx_aload_n 0 62),
  (63, mx_getf (kx np nd) 1 2 63),
  (66, mx_iload_n 2 66),
  (67, mx_aload_n 0 67),
  (68, mx_getf (kx np nd) 1 2 68),
  (71, mx_iload_n 3 71),
  (72, mx_iald (kx np nd) 72),
  (73, mx_iast (kx np nd) 73),
  (74, mx_iinc 2 1 74),
  (77, mx_iinc 3 1 77),
  (80, mx_goto 4 80),
  (83, mx_aload_n 0 83),
  (84, mx_iload_n 2 84),
  (85, mx_putf (kx np nd) 1 3 85),
  (88, mx_vret 88)]
set_option maxRecDepth 100000 in
set_option maxHeartbeats 4000000 in
theorem ok_xq_land (l : Launch) (np nd : Nat) : ∀ q ∈ tb_xq_land np nd , mx_Ok l ({ frames := 0, cells := 0, slots := 0, locals := 0 } : Room) b_xq_land 4 "WideMachine$Writes" none vw_T vw_cl (kx np nd) q.1 q.2 := by
  refine List.forall_mem_cons.mpr ⟨mx_ok_iconst (show decode b_xq_land 0 = .ok (.iconst 0, 1) by decide +kernel) (by decide), ?_⟩
  refine List.forall_mem_cons.mpr ⟨mx_ok_istore_n (show decode b_xq_land 1 = .ok (.istore_n 2, 1) by decide +kernel) rfl (by decide), ?_⟩
  refine List.forall_mem_cons.mpr ⟨mx_ok_iconst (show decode b_xq_land 2 = .ok (.iconst 0, 1) by decide +kernel) (by decide), ?_⟩
  refine List.forall_mem_cons.mpr ⟨mx_ok_istore_n (show decode b_xq_land 3 = .ok (.istore_n 3, 1) by decide +kernel) rfl (by decide), ?_⟩
  refine List.forall_mem_cons.mpr ⟨mx_ok_iload_n (show decode b_xq_land 4 = .ok (.iload_n 3, 1) by decide +kernel) rfl, ?_⟩
  refine List.forall_mem_cons.mpr ⟨mx_ok_aload_n (show decode b_xq_land 5 = .ok (.aload_n 0, 1) by decide +kernel) rfl, ?_⟩
  refine List.forall_mem_cons.mpr ⟨mx_ok_getf fd_xq_19 (show decode b_xq_land 6 = .ok (.getfield 19, 3) by decide +kernel), ?_⟩
  refine List.forall_mem_cons.mpr ⟨mx_ok_icmp_ge (show decode b_xq_land 9 = .ok (.if_icmp .ge 74, 3) by decide +kernel) (by decide), ?_⟩
  refine List.forall_mem_cons.mpr ⟨mx_ok_aload_n (show decode b_xq_land 12 = .ok (.aload_n 0, 1) by decide +kernel) rfl, ?_⟩
  refine List.forall_mem_cons.mpr ⟨mx_ok_getf fd_xq_16 (show decode b_xq_land 13 = .ok (.getfield 16, 3) by decide +kernel), ?_⟩
  refine List.forall_mem_cons.mpr ⟨mx_ok_iload_n (show decode b_xq_land 16 = .ok (.iload_n 3, 1) by decide +kernel) rfl, ?_⟩
  refine List.forall_mem_cons.mpr ⟨mx_ok_iald (show decode b_xq_land 17 = .ok (.iaload, 1) by decide +kernel), ?_⟩
  refine List.forall_mem_cons.mpr ⟨mx_ok_if_ne (show decode b_xq_land 18 = .ok (.ifCond .ne 20, 3) by decide +kernel) (by decide), ?_⟩
  refine List.forall_mem_cons.mpr ⟨mx_ok_aload_n (show decode b_xq_land 21 = .ok (.aload_n 1, 1) by decide +kernel) rfl, ?_⟩
  refine List.forall_mem_cons.mpr ⟨mx_ok_aload_n (show decode b_xq_land 22 = .ok (.aload_n 0, 1) by decide +kernel) rfl, ?_⟩
  refine List.forall_mem_cons.mpr ⟨mx_ok_getf fd_xq_9 (show decode b_xq_land 23 = .ok (.getfield 9, 3) by decide +kernel), ?_⟩
  refine List.forall_mem_cons.mpr ⟨mx_ok_iload_n (show decode b_xq_land 26 = .ok (.iload_n 3, 1) by decide +kernel) rfl, ?_⟩
  refine List.forall_mem_cons.mpr ⟨mx_ok_iald (show decode b_xq_land 27 = .ok (.iaload, 1) by decide +kernel), ?_⟩
  refine List.forall_mem_cons.mpr ⟨mx_ok_aload_n (show decode b_xq_land 28 = .ok (.aload_n 0, 1) by decide +kernel) rfl, ?_⟩
  refine List.forall_mem_cons.mpr ⟨mx_ok_getf fd_xq_13 (show decode b_xq_land 29 = .ok (.getfield 13, 3) by decide +kernel), ?_⟩
  refine List.forall_mem_cons.mpr ⟨mx_ok_iload_n (show decode b_xq_land 32 = .ok (.iload_n 3, 1) by decide +kernel) rfl, ?_⟩
  refine List.forall_mem_cons.mpr ⟨mx_ok_iald (show decode b_xq_land 33 = .ok (.iaload, 1) by decide +kernel), ?_⟩
  refine List.forall_mem_cons.mpr ⟨mx_ok_iast (show decode b_xq_land 34 = .ok (.iastore, 1) by decide +kernel), ?_⟩
  refine List.forall_mem_cons.mpr ⟨mx_ok_goto (show decode b_xq_land 35 = .ok (.goto 42, 3) by decide +kernel) (by decide), ?_⟩
  refine List.forall_mem_cons.mpr ⟨mx_ok_aload_n (show decode b_xq_land 38 = .ok (.aload_n 0, 1) by decide +kernel) rfl, ?_⟩
  refine List.forall_mem_cons.mpr ⟨mx_ok_getf fd_xq_9 (show decode b_xq_land 39 = .ok (.getfield 9, 3) by decide +kernel), ?_⟩
  refine List.forall_mem_cons.mpr ⟨mx_ok_iload_n (show decode b_xq_land 42 = .ok (.iload_n 2, 1) by decide +kernel) rfl, ?_⟩
  refine List.forall_mem_cons.mpr ⟨mx_ok_aload_n (show decode b_xq_land 43 = .ok (.aload_n 0, 1) by decide +kernel) rfl, ?_⟩
  refine List.forall_mem_cons.mpr ⟨mx_ok_getf fd_xq_9 (show decode b_xq_land 44 = .ok (.getfield 9, 3) by decide +kernel), ?_⟩
  refine List.forall_mem_cons.mpr ⟨mx_ok_iload_n (show decode b_xq_land 47 = .ok (.iload_n 3, 1) by decide +kernel) rfl, ?_⟩
  refine List.forall_mem_cons.mpr ⟨mx_ok_iald (show decode b_xq_land 48 = .ok (.iaload, 1) by decide +kernel), ?_⟩
  refine List.forall_mem_cons.mpr ⟨mx_ok_iast (show decode b_xq_land 49 = .ok (.iastore, 1) by decide +kernel), ?_⟩
  refine List.forall_mem_cons.mpr ⟨mx_ok_aload_n (show decode b_xq_land 50 = .ok (.aload_n 0, 1) by decide +kernel) rfl, ?_⟩
  refine List.forall_mem_cons.mpr ⟨mx_ok_getf fd_xq_13 (show decode b_xq_land 51 = .ok (.getfield 13, 3) by decide +kernel), ?_⟩
  refine List.forall_mem_cons.mpr ⟨mx_ok_iload_n (show decode b_xq_land 54 = .ok (.iload_n 2, 1) by decide +kernel) rfl, ?_⟩
  refine List.forall_mem_cons.mpr ⟨mx_ok_aload_n (show decode b_xq_land 55 = .ok (.aload_n 0, 1) by decide +kernel) rfl, ?_⟩
  refine List.forall_mem_cons.mpr ⟨mx_ok_getf fd_xq_13 (show decode b_xq_land 56 = .ok (.getfield 13, 3) by decide +kernel), ?_⟩
  refine List.forall_mem_cons.mpr ⟨mx_ok_iload_n (show decode b_xq_land 59 = .ok (.iload_n 3, 1) by decide +kernel) rfl, ?_⟩
  refine List.forall_mem_cons.mpr ⟨mx_ok_iald (show decode b_xq_land 60 = .ok (.iaload, 1) by decide +kernel), ?_⟩
  refine List.forall_mem_cons.mpr ⟨mx_ok_iast (show decode b_xq_land 61 = .ok (.iastore, 1) by decide +kernel), ?_⟩
  refine List.forall_mem_cons.mpr ⟨mx_ok_aload_n (show decode b_xq_land 62 = .ok (.aload_n 0, 1) by decide +kernel) rfl, ?_⟩
  refine List.forall_mem_cons.mpr ⟨mx_ok_getf fd_xq_16 (show decode b_xq_land 63 = .ok (.getfield 16, 3) by decide +kernel), ?_⟩
  refine List.forall_mem_cons.mpr ⟨mx_ok_iload_n (show decode b_xq_land 66 = .ok (.iload_n 2, 1) by decide +kernel) rfl, ?_⟩
  refine List.forall_mem_cons.mpr ⟨mx_ok_aload_n (show decode b_xq_land 67 = .ok (.aload_n 0, 1) by decide +kernel) rfl, ?_⟩
  refine List.forall_mem_cons.mpr ⟨mx_ok_getf fd_xq_16 (show decode b_xq_land 68 = .ok (.getfield 16, 3) by decide +kernel), ?_⟩
  refine List.forall_mem_cons.mpr ⟨mx_ok_iload_n (show decode b_xq_land 71 = .ok (.iload_n 3, 1) by decide +kernel) rfl, ?_⟩
  refine List.forall_mem_cons.mpr ⟨mx_ok_iald (show decode b_xq_land 72 = .ok (.iaload, 1) by decide +kernel), ?_⟩
  refine List.forall_mem_cons.mpr ⟨mx_ok_iast (show decode b_xq_land 73 = .ok (.iastore, 1) by decide +kernel), ?_⟩
  refine List.forall_mem_cons.mpr ⟨mx_ok_iinc (show decode b_xq_land 74 = .ok (.iinc 2 1, 3) by decide +kernel) (by decide) (by decide), ?_⟩
  refine List.forall_mem_cons.mpr ⟨mx_ok_iinc (show decode b_xq_land 77 = .ok (.iinc 3 1, 3) by decide +kernel) (by decide) (by decide), ?_⟩
  refine List.forall_mem_cons.mpr ⟨mx_ok_goto (show decode b_xq_land 80 = .ok (.goto (-76), 3) by decide +kernel) (by decide), ?_⟩
  refine List.forall_mem_cons.mpr ⟨mx_ok_aload_n (show decode b_xq_land 83 = .ok (.aload_n 0, 1) by decide +kernel) rfl, ?_⟩
  refine List.forall_mem_cons.mpr ⟨mx_ok_iload_n (show decode b_xq_land 84 = .ok (.iload_n 2, 1) by decide +kernel) rfl, ?_⟩
  refine List.forall_mem_cons.mpr ⟨mx_ok_putf fd_xq_19 fw_1_3 (show decode b_xq_land 85 = .ok (.putfield 19, 3) by decide +kernel), ?_⟩
  refine List.forall_mem_cons.mpr ⟨mx_ok_vret (show decode b_xq_land 88 = .ok (.return_, 1) by decide +kernel) rfl, ?_⟩
  exact fun _ h => absurd h List.not_mem_nil
set_option maxRecDepth 100000 in
set_option maxHeartbeats 4000000 in
theorem ct_xq_land (l : Launch) (np nd : Nat) : mx_Ct l vw_T vw_cl (kx np nd) { frames := 0, cells := 0, slots := 0, locals := 0 } y_xq_land b_xq_land 4 none (pre_xq_land np nd) (fn_xq_land np nd) := by
  refine mx_ct_of (tb_xq_land np nd ) (by decide) (ok_xq_land l np nd ) (fun as u h => by obtain ⟨rfl, -⟩ := h; exact Nat.le_of_ble_eq_true rfl) ?_
  intro as u hpre At hc hw
  obtain ⟨rfl, hp⟩ := hpre
  obtain ⟨RES, hRES⟩ : ∃ z, z = (xq_land u) := ⟨_, rfl⟩
  have hfn : fn_xq_land np nd [.inr (.inr 4), .inr (.inr 3)] u = (none, RES) := by rw [hRES]; rfl
  rw [hfn] at hc
  have lp4 : ∀ (n4 : Nat) (v2 : Int32) (v3 : Int32) (u : mx_S), q_xq_land_l4 np nd n4 v2 v3 u → xq_land_l4 n4 v2 v3 u = RES → At 4 [(2, .inl v2), (3, .inl v3), (0, .inr (.inr 4)), (1, .inr (.inr 3))] [] u := by
    intro n4
    induction n4 with
    | zero =>
      intro v2 v3 u hi he
      exact hi.elim
    | succ n4 ih4 =>
      intro v2 v3 u hi4 he4
      exact hc 200 [4] _ _ _ _ (
        And.intro (fun h9 => 
         And.intro rfl (
         congrArg (fun z : mx_S => ((none, z) : Option mx_V × mx_S)) (show (mx_sf u 4 3 v2) = RES from (if_pos h9).symm.trans he4))) (fun h9 => 
         And.intro ((hi4.2 h9).1) (
         And.intro (fun h18 => 
          And.intro (((hi4.2 h9).2.1 h18).1) (
          And.intro (((hi4.2 h9).2.1 h18).2.1) (
          And.intro (((hi4.2 h9).2.1 h18).2.2.1) (
          And.intro (((hi4.2 h9).2.1 h18).2.2.2.1) (
          And.intro (((hi4.2 h9).2.1 h18).2.2.2.2.1) (
          And.intro (((hi4.2 h9).2.1 h18).2.2.2.2.2.1) (
          hw [1, 0, 2, 3] 4 _ [] _ (ih4 (v2 + 1) (v3 + 1) (mx_sa (mx_sa (mx_sa u 5 (v2).toNatClampNeg (mx_ga u 5 (v3).toNatClampNeg)) 6 (v2).toNatClampNeg (mx_ga (mx_sa u 5 (v2).toNatClampNeg (mx_ga u 5 (v3).toNatClampNeg)) 6 (v3).toNatClampNeg)) 7 (v2).toNatClampNeg (mx_ga (mx_sa (mx_sa u 5 (v2).toNatClampNeg (mx_ga u 5 (v3).toNatClampNeg)) 6 (v2).toNatClampNeg (mx_ga (mx_sa u 5 (v2).toNatClampNeg (mx_ga u 5 (v3).toNatClampNeg)) 6 (v3).toNatClampNeg)) 7 (v3).toNatClampNeg)) ((hi4.2 h9).2.1 h18).2.2.2.2.2.2 (((if_neg h9).trans (if_neg h18)).symm.trans he4))))))))) (fun h18 => 
          And.intro (((hi4.2 h9).2.2 h18).1) (
          And.intro (((hi4.2 h9).2.2 h18).2.1) (
          And.intro (((hi4.2 h9).2.2 h18).2.2.1) (
          hw [1, 0, 2, 3] 4 _ [] _ (ih4 v2 (v3 + 1) (mx_sa u 3 ((mx_ga u 5 (v3).toNatClampNeg)).toNatClampNeg (mx_ga u 6 (v3).toNatClampNeg)) ((hi4.2 h9).2.2 h18).2.2.2 (((if_neg h9).trans (if_pos h18)).symm.trans he4)))))))))
  exact hc 200 [4] _ _ _ _ (
    hw [1, 0, 2, 3] 4 _ [] _ (lp4 20 0 0 u hp ((xq_land_eq u).symm.trans hRES.symm)))
/-! WideMachine$Branches.comeNearer()V -/
noncomputable def xb_comeNearer_l2 : Nat → Int32 → mx_S → (mx_S)
  | 0, _, u => u
  | n + 1, v1, u =>
    if (mx_gf u 8 2) ≤ v1 then
     u
    else
     xb_comeNearer_l2 n (v1 + 1) (mx_sa u 10 (v1).toNatClampNeg ((mx_ga u 10 (v1).toNatClampNeg) - (1 : Int32)))
def q_xb_comeNearer_l2 (np nd : Nat) : Nat → Int32 → mx_S → Prop
  | 0, _, _ => False
  | n + 1, v1, u =>
    (((mx_gf u 8 2) ≤ v1) → 
     True) ∧ ((¬ ((mx_gf u 8 2) ≤ v1)) → 
     (vp_in v1 12) ∧ (
      (vp_in v1 12) ∧ (
       q_xb_comeNearer_l2 np nd n (v1 + 1) (mx_sa u 10 (v1).toNatClampNeg ((mx_ga u 10 (v1).toNatClampNeg) - (1 : Int32))))))
noncomputable def xb_comeNearer_b (u : mx_S) : mx_S :=
  xb_comeNearer_l2 20 0 u
theorem xb_comeNearer_ex : ∃ f : mx_S → (mx_S), f = xb_comeNearer_b := ⟨_, rfl⟩
noncomputable def xb_comeNearer : mx_S → (mx_S) := Classical.choose xb_comeNearer_ex
theorem xb_comeNearer_eq (u : mx_S) : (xb_comeNearer u) = (xb_comeNearer_b u) := by rw [show xb_comeNearer = xb_comeNearer_b from Classical.choose_spec xb_comeNearer_ex]
def q_xb_comeNearer (np nd : Nat) (u : mx_S) : Prop :=
  q_xb_comeNearer_l2 np nd 20 0 u
def pre_xb_comeNearer (np nd : Nat) : List mx_V → mx_S → Prop := fun as u => as = [.inr (.inr 8)] ∧ q_xb_comeNearer np nd u
noncomputable def fn_xb_comeNearer (np nd : Nat) : mx_F := fun as u => match as with
  | [_] => (none, (xb_comeNearer u))
  | _ => (none, u)
noncomputable def tb_xb_comeNearer (np nd : Nat) : List (Nat × mx_T) := [
  (0, mx_iconst 0 0),
  (1, mx_istore_n 1 1),
  (2, mx_iload_n 1 2),
  (3, mx_aload_n 0 3),
  (4, mx_getf (kx np nd) 2 2 4),
  (7, mx_icmp_ge 26 7),
  (10, mx_aload_n 0 10),
  (11, mx_getf (kx np nd) 2 1 11),
  (14, mx_iload_n 1 14),
  (15, mx_dup2 15),
  (16, mx_iald (kx np nd) 16),
  (17, mx_iconst 1 17),
  (18, mx_isub 18),
  (19, mx_iast (kx np nd) 19),
  (20, mx_iinc 1 1 20),
  (23, mx_goto 2 23),
  (26, mx_vret 26)]
set_option maxRecDepth 100000 in
set_option maxHeartbeats 4000000 in
theorem ok_xb_comeNearer (l : Launch) (np nd : Nat) : ∀ q ∈ tb_xb_comeNearer np nd , mx_Ok l ({ frames := 0, cells := 0, slots := 0, locals := 0 } : Room) b_xb_comeNearer 2 "WideMachine$Branches" none vw_T vw_cl (kx np nd) q.1 q.2 := by
  refine List.forall_mem_cons.mpr ⟨mx_ok_iconst (show decode b_xb_comeNearer 0 = .ok (.iconst 0, 1) by decide +kernel) (by decide), ?_⟩
  refine List.forall_mem_cons.mpr ⟨mx_ok_istore_n (show decode b_xb_comeNearer 1 = .ok (.istore_n 1, 1) by decide +kernel) rfl (by decide), ?_⟩
  refine List.forall_mem_cons.mpr ⟨mx_ok_iload_n (show decode b_xb_comeNearer 2 = .ok (.iload_n 1, 1) by decide +kernel) rfl, ?_⟩
  refine List.forall_mem_cons.mpr ⟨mx_ok_aload_n (show decode b_xb_comeNearer 3 = .ok (.aload_n 0, 1) by decide +kernel) rfl, ?_⟩
  refine List.forall_mem_cons.mpr ⟨mx_ok_getf fd_xb_16 (show decode b_xb_comeNearer 4 = .ok (.getfield 16, 3) by decide +kernel), ?_⟩
  refine List.forall_mem_cons.mpr ⟨mx_ok_icmp_ge (show decode b_xb_comeNearer 7 = .ok (.if_icmp .ge 19, 3) by decide +kernel) (by decide), ?_⟩
  refine List.forall_mem_cons.mpr ⟨mx_ok_aload_n (show decode b_xb_comeNearer 10 = .ok (.aload_n 0, 1) by decide +kernel) rfl, ?_⟩
  refine List.forall_mem_cons.mpr ⟨mx_ok_getf fd_xb_13 (show decode b_xb_comeNearer 11 = .ok (.getfield 13, 3) by decide +kernel), ?_⟩
  refine List.forall_mem_cons.mpr ⟨mx_ok_iload_n (show decode b_xb_comeNearer 14 = .ok (.iload_n 1, 1) by decide +kernel) rfl, ?_⟩
  refine List.forall_mem_cons.mpr ⟨mx_ok_dup2 (show decode b_xb_comeNearer 15 = .ok (.dup2, 1) by decide +kernel), ?_⟩
  refine List.forall_mem_cons.mpr ⟨mx_ok_iald (show decode b_xb_comeNearer 16 = .ok (.iaload, 1) by decide +kernel), ?_⟩
  refine List.forall_mem_cons.mpr ⟨mx_ok_iconst (show decode b_xb_comeNearer 17 = .ok (.iconst 1, 1) by decide +kernel) (by decide), ?_⟩
  refine List.forall_mem_cons.mpr ⟨mx_ok_isub (show decode b_xb_comeNearer 18 = .ok (.isub, 1) by decide +kernel), ?_⟩
  refine List.forall_mem_cons.mpr ⟨mx_ok_iast (show decode b_xb_comeNearer 19 = .ok (.iastore, 1) by decide +kernel), ?_⟩
  refine List.forall_mem_cons.mpr ⟨mx_ok_iinc (show decode b_xb_comeNearer 20 = .ok (.iinc 1 1, 3) by decide +kernel) (by decide) (by decide), ?_⟩
  refine List.forall_mem_cons.mpr ⟨mx_ok_goto (show decode b_xb_comeNearer 23 = .ok (.goto (-21), 3) by decide +kernel) (by decide), ?_⟩
  refine List.forall_mem_cons.mpr ⟨mx_ok_vret (show decode b_xb_comeNearer 26 = .ok (.return_, 1) by decide +kernel) rfl, ?_⟩
  exact fun _ h => absurd h List.not_mem_nil
set_option maxRecDepth 100000 in
set_option maxHeartbeats 4000000 in
theorem ct_xb_comeNearer (l : Launch) (np nd : Nat) : mx_Ct l vw_T vw_cl (kx np nd) { frames := 0, cells := 0, slots := 0, locals := 0 } y_xb_comeNearer b_xb_comeNearer 2 none (pre_xb_comeNearer np nd) (fn_xb_comeNearer np nd) := by
  refine mx_ct_of (tb_xb_comeNearer np nd ) (by decide) (ok_xb_comeNearer l np nd ) (fun as u h => by obtain ⟨rfl, -⟩ := h; exact Nat.le_of_ble_eq_true rfl) ?_
  intro as u hpre At hc hw
  obtain ⟨rfl, hp⟩ := hpre
  obtain ⟨RES, hRES⟩ : ∃ z, z = (xb_comeNearer u) := ⟨_, rfl⟩
  have hfn : fn_xb_comeNearer np nd [.inr (.inr 8)] u = (none, RES) := by rw [hRES]; rfl
  rw [hfn] at hc
  have lp2 : ∀ (n2 : Nat) (v1 : Int32) (u : mx_S), q_xb_comeNearer_l2 np nd n2 v1 u → xb_comeNearer_l2 n2 v1 u = RES → At 2 [(1, .inl v1), (0, .inr (.inr 8))] [] u := by
    intro n2
    induction n2 with
    | zero =>
      intro v1 u hi he
      exact hi.elim
    | succ n2 ih2 =>
      intro v1 u hi2 he2
      exact hc 200 [2] _ _ _ _ (
        And.intro (fun h7 => 
         congrArg (fun z : mx_S => ((none, z) : Option mx_V × mx_S)) (show u = RES from (if_pos h7).symm.trans he2)) (fun h7 => 
         And.intro ((hi2.2 h7).1) (
         And.intro ((hi2.2 h7).2.1) (
         hw [0, 1] 2 _ [] _ (ih2 (v1 + 1) (mx_sa u 10 (v1).toNatClampNeg ((mx_ga u 10 (v1).toNatClampNeg) - (1 : Int32))) (hi2.2 h7).2.2 ((if_neg h7).symm.trans he2))))))
  exact hc 200 [2] _ _ _ _ (
    hw [0, 1] 2 _ [] _ (lp2 20 0 u hp ((xb_comeNearer_eq u).symm.trans hRES.symm)))
/-! WideMachine$Branches.arrived()I -/
noncomputable def xb_arrived_l2 (u : mx_S) : Nat → Int32 → (Int32)
  | 0, _ => 0
  | n + 1, v1 =>
    if (mx_gf u 8 2) ≤ v1 then
     v1
    else
     if (mx_ga u 10 (v1).toNatClampNeg) = 0 then
      xb_arrived_l2 u n (v1 + 1)
     else
      v1
def q_xb_arrived_l2 (np nd : Nat) (u : mx_S) : Nat → Int32 → Prop
  | 0, _ => False
  | n + 1, v1 =>
    (((mx_gf u 8 2) ≤ v1) → 
     True) ∧ ((¬ ((mx_gf u 8 2) ≤ v1)) → 
     (vp_in v1 12) ∧ (
      ((¬ ((mx_ga u 10 (v1).toNatClampNeg) = 0)) → 
       True) ∧ (((mx_ga u 10 (v1).toNatClampNeg) = 0) → 
       q_xb_arrived_l2 np nd u n (v1 + 1))))
noncomputable def xb_arrived_b (u : mx_S) : Int32 :=
  xb_arrived_l2 u 20 0
theorem xb_arrived_ex : ∃ f : mx_S → (Int32), f = xb_arrived_b := ⟨_, rfl⟩
noncomputable def xb_arrived : mx_S → (Int32) := Classical.choose xb_arrived_ex
theorem xb_arrived_eq (u : mx_S) : (xb_arrived u) = (xb_arrived_b u) := by rw [show xb_arrived = xb_arrived_b from Classical.choose_spec xb_arrived_ex]
def q_xb_arrived (np nd : Nat) (u : mx_S) : Prop :=
  q_xb_arrived_l2 np nd u 20 0
def pre_xb_arrived (np nd : Nat) : List mx_V → mx_S → Prop := fun as u => as = [.inr (.inr 8)] ∧ q_xb_arrived np nd u
noncomputable def fn_xb_arrived (np nd : Nat) : mx_F := fun as u => match as with
  | [_] => mx_rI u (xb_arrived u)
  | _ => (none, u)
noncomputable def tb_xb_arrived (np nd : Nat) : List (Nat × mx_T) := [
  (0, mx_iconst 0 0),
  (1, mx_istore_n 1 1),
  (2, mx_iload_n 1 2),
  (3, mx_aload_n 0 3),
  (4, mx_getf (kx np nd) 2 2 4),
  (7, mx_icmp_ge 25 7),
  (10, mx_aload_n 0 10),
  (11, mx_getf (kx np nd) 2 1 11),
  (14, mx_iload_n 1 14),
  (15, mx_iald (kx np nd) 15),
  (16, mx_if_ne 25 16),
  (19, mx_iinc 1 1 19),
  (22, mx_goto 2 22),
  (25, mx_iload_n 1 25),
  (26, mx_iret 26)]
set_option maxRecDepth 100000 in
set_option maxHeartbeats 4000000 in
theorem ok_xb_arrived (l : Launch) (np nd : Nat) : ∀ q ∈ tb_xb_arrived np nd , mx_Ok l ({ frames := 0, cells := 0, slots := 0, locals := 0 } : Room) b_xb_arrived 2 "WideMachine$Branches" (some .int) vw_T vw_cl (kx np nd) q.1 q.2 := by
  refine List.forall_mem_cons.mpr ⟨mx_ok_iconst (show decode b_xb_arrived 0 = .ok (.iconst 0, 1) by decide +kernel) (by decide), ?_⟩
  refine List.forall_mem_cons.mpr ⟨mx_ok_istore_n (show decode b_xb_arrived 1 = .ok (.istore_n 1, 1) by decide +kernel) rfl (by decide), ?_⟩
  refine List.forall_mem_cons.mpr ⟨mx_ok_iload_n (show decode b_xb_arrived 2 = .ok (.iload_n 1, 1) by decide +kernel) rfl, ?_⟩
  refine List.forall_mem_cons.mpr ⟨mx_ok_aload_n (show decode b_xb_arrived 3 = .ok (.aload_n 0, 1) by decide +kernel) rfl, ?_⟩
  refine List.forall_mem_cons.mpr ⟨mx_ok_getf fd_xb_16 (show decode b_xb_arrived 4 = .ok (.getfield 16, 3) by decide +kernel), ?_⟩
  refine List.forall_mem_cons.mpr ⟨mx_ok_icmp_ge (show decode b_xb_arrived 7 = .ok (.if_icmp .ge 18, 3) by decide +kernel) (by decide), ?_⟩
  refine List.forall_mem_cons.mpr ⟨mx_ok_aload_n (show decode b_xb_arrived 10 = .ok (.aload_n 0, 1) by decide +kernel) rfl, ?_⟩
  refine List.forall_mem_cons.mpr ⟨mx_ok_getf fd_xb_13 (show decode b_xb_arrived 11 = .ok (.getfield 13, 3) by decide +kernel), ?_⟩
  refine List.forall_mem_cons.mpr ⟨mx_ok_iload_n (show decode b_xb_arrived 14 = .ok (.iload_n 1, 1) by decide +kernel) rfl, ?_⟩
  refine List.forall_mem_cons.mpr ⟨mx_ok_iald (show decode b_xb_arrived 15 = .ok (.iaload, 1) by decide +kernel), ?_⟩
  refine List.forall_mem_cons.mpr ⟨mx_ok_if_ne (show decode b_xb_arrived 16 = .ok (.ifCond .ne 9, 3) by decide +kernel) (by decide), ?_⟩
  refine List.forall_mem_cons.mpr ⟨mx_ok_iinc (show decode b_xb_arrived 19 = .ok (.iinc 1 1, 3) by decide +kernel) (by decide) (by decide), ?_⟩
  refine List.forall_mem_cons.mpr ⟨mx_ok_goto (show decode b_xb_arrived 22 = .ok (.goto (-20), 3) by decide +kernel) (by decide), ?_⟩
  refine List.forall_mem_cons.mpr ⟨mx_ok_iload_n (show decode b_xb_arrived 25 = .ok (.iload_n 1, 1) by decide +kernel) rfl, ?_⟩
  refine List.forall_mem_cons.mpr ⟨mx_ok_iret (show decode b_xb_arrived 26 = .ok (.ireturn, 1) by decide +kernel) rfl, ?_⟩
  exact fun _ h => absurd h List.not_mem_nil
set_option maxRecDepth 100000 in
set_option maxHeartbeats 4000000 in
theorem ct_xb_arrived (l : Launch) (np nd : Nat) : mx_Ct l vw_T vw_cl (kx np nd) { frames := 0, cells := 0, slots := 0, locals := 0 } y_xb_arrived b_xb_arrived 2 (some .int) (pre_xb_arrived np nd) (fn_xb_arrived np nd) := by
  refine mx_ct_of (tb_xb_arrived np nd ) (by decide) (ok_xb_arrived l np nd ) (fun as u h => by obtain ⟨rfl, -⟩ := h; exact Nat.le_of_ble_eq_true rfl) ?_
  intro as u hpre At hc hw
  obtain ⟨rfl, hp⟩ := hpre
  obtain ⟨RES, hRES⟩ : ∃ z, z = (xb_arrived u) := ⟨_, rfl⟩
  have hfn : fn_xb_arrived np nd [.inr (.inr 8)] u = mx_rI u RES := by rw [hRES]; rfl
  rw [hfn] at hc
  have lp2 : ∀ (n2 : Nat) (v1 : Int32), q_xb_arrived_l2 np nd u n2 v1 → xb_arrived_l2 u n2 v1 = RES → At 2 [(1, .inl v1), (0, .inr (.inr 8))] [] u := by
    intro n2
    induction n2 with
    | zero =>
      intro v1 hi he
      exact hi.elim
    | succ n2 ih2 =>
      intro v1 hi2 he2
      exact hc 200 [2] _ _ _ _ (
        And.intro (fun h7 => 
         congrArg (mx_rI u) (show v1 = RES from (if_pos h7).symm.trans he2)) (fun h7 => 
         And.intro ((hi2.2 h7).1) (
         And.intro (fun h16 => 
          congrArg (mx_rI u) (show v1 = RES from ((if_neg h7).trans (if_neg h16)).symm.trans he2)) (fun h16 => 
          hw [0, 1] 2 _ [] _ (ih2 (v1 + 1) ((hi2.2 h7).2.2 h16) (((if_neg h7).trans (if_pos h16)).symm.trans he2))))))
  exact hc 200 [2] _ _ _ _ (
    hw [0, 1] 2 _ [] _ (lp2 20 0 hp ((xb_arrived_eq u).symm.trans hRES.symm)))
/-! WideMachine$Branches.takeFirst()I -/
noncomputable def xb_takeFirst_l9 : Nat → Int32 → Int32 → mx_S → (Int32 × mx_S)
  | 0, _, _, u => (0, u)
  | n + 1, v1, v2, u =>
    if (mx_gf u 8 2) ≤ v2 then
     (v1, (mx_sf u 8 2 ((mx_gf u 8 2) - (1 : Int32))))
    else
     xb_takeFirst_l9 n v1 (v2 + 1) (mx_sa (mx_sa u 9 ((v2 - (1 : Int32))).toNatClampNeg (mx_ga u 9 (v2).toNatClampNeg)) 10 ((v2 - (1 : Int32))).toNatClampNeg (mx_ga (mx_sa u 9 ((v2 - (1 : Int32))).toNatClampNeg (mx_ga u 9 (v2).toNatClampNeg)) 10 (v2).toNatClampNeg))
def q_xb_takeFirst_l9 (np nd : Nat) : Nat → Int32 → Int32 → mx_S → Prop
  | 0, _, _, _ => False
  | n + 1, v1, v2, u =>
    (((mx_gf u 8 2) ≤ v2) → 
     True) ∧ ((¬ ((mx_gf u 8 2) ≤ v2)) → 
     (vp_in v2 12) ∧ (
      (vp_in (v2 - (1 : Int32)) 12) ∧ (
       (vp_in v2 12) ∧ (
        (vp_in (v2 - (1 : Int32)) 12) ∧ (
         q_xb_takeFirst_l9 np nd n v1 (v2 + 1) (mx_sa (mx_sa u 9 ((v2 - (1 : Int32))).toNatClampNeg (mx_ga u 9 (v2).toNatClampNeg)) 10 ((v2 - (1 : Int32))).toNatClampNeg (mx_ga (mx_sa u 9 ((v2 - (1 : Int32))).toNatClampNeg (mx_ga u 9 (v2).toNatClampNeg)) 10 (v2).toNatClampNeg)))))))
noncomputable def xb_takeFirst_b (u : mx_S) : Int32 × mx_S :=
  xb_takeFirst_l9 20 (mx_ga u 9 ((0 : Int32)).toNatClampNeg) 1 u
theorem xb_takeFirst_ex : ∃ f : mx_S → Int32, f = (fun u => (xb_takeFirst_b u).1) := ⟨_, rfl⟩
noncomputable def xb_takeFirst : mx_S → Int32 := Classical.choose xb_takeFirst_ex
theorem xb_takeFirst_eq (u : mx_S) : (xb_takeFirst u) = (xb_takeFirst_b u).1 := by rw [show xb_takeFirst = (fun u => (xb_takeFirst_b u).1) from Classical.choose_spec xb_takeFirst_ex]
theorem xb_takeFirst_s_ex : ∃ f : mx_S → mx_S, f = (fun u => (xb_takeFirst_b u).2) := ⟨_, rfl⟩
noncomputable def xb_takeFirst_s : mx_S → mx_S := Classical.choose xb_takeFirst_s_ex
theorem xb_takeFirst_s_eq (u : mx_S) : (xb_takeFirst_s u) = (xb_takeFirst_b u).2 := by rw [show xb_takeFirst_s = (fun u => (xb_takeFirst_b u).2) from Classical.choose_spec xb_takeFirst_s_ex]
def q_xb_takeFirst (np nd : Nat) (u : mx_S) : Prop :=
  q_xb_takeFirst_l9 np nd 20 (mx_ga u 9 ((0 : Int32)).toNatClampNeg) 1 u
def pre_xb_takeFirst (np nd : Nat) : List mx_V → mx_S → Prop := fun as u => as = [.inr (.inr 8)] ∧ q_xb_takeFirst np nd u
noncomputable def fn_xb_takeFirst (np nd : Nat) : mx_F := fun as u => match as with
  | [_] => (some (.inl (xb_takeFirst u)), (xb_takeFirst_s u))
  | _ => (none, u)
noncomputable def tb_xb_takeFirst (np nd : Nat) : List (Nat × mx_T) := [
  (0, mx_aload_n 0 0),
  (1, mx_getf (kx np nd) 2 0 1),
  (4, mx_iconst 0 4),
  (5, mx_iald (kx np nd) 5),
  (6, mx_istore_n 1 6),
  (7, mx_iconst 1 7),
  (8, mx_istore_n 2 8),
  (9, mx_iload_n 2 9),
  (10, mx_aload_n 0 10),
  (11, mx_getf (kx np nd) 2 2 11),
  (14, mx_icmp_ge 51 14),
  (17, mx_aload_n 0 17),
  (18, mx_getf (kx np nd) 2 0 18),
  (21, mx_iload_n 2 21),
  (22, mx_iconst 1 22),
  (23, mx_isub 23),
  (24, mx_aload_n 0 24),
  (25, mx_getf (kx np nd) 2 0 25),
  (28, mx_iload_n 2 28),
  (29, mx_iald (kx np nd) 29),
  (30, mx_iast (kx np nd) 30),
  (31, mx_aload_n 0 31),
  (32, mx_getf (kx np nd) 2 1 32),
  (35, mx_iload_n 2 35),
  (36, mx_iconst 1 36),
  (37, mx_isub 37),
  (38, mx_aload_n 0 38),
  (39, mx_getf (kx np nd) 2 1 39),
  (42, mx_iload_n 2 42),
  (43, mx_iald (kx np nd) 43),
  (44, mx_iast (kx np nd) 44),
  (45, mx_iinc 2 1 45),
  (48, mx_goto 9 48),
  (51, mx_aload_n 0 51),
  (52, mx_dup 52),
  (53, mx_getf (kx np nd) 2 2 53),
  (56, mx_iconst 1 56),
  (57, mx_isub 57),
  (58, mx_putf (kx np nd) 2 2 58),
  (61, mx_iload_n 1 61),
  (62, mx_iret 62)]
set_option maxRecDepth 100000 in
set_option maxHeartbeats 4000000 in
theorem ok_xb_takeFirst (l : Launch) (np nd : Nat) : ∀ q ∈ tb_xb_takeFirst np nd , mx_Ok l ({ frames := 0, cells := 0, slots := 0, locals := 0 } : Room) b_xb_takeFirst 3 "WideMachine$Branches" (some .int) vw_T vw_cl (kx np nd) q.1 q.2 := by
  refine List.forall_mem_cons.mpr ⟨mx_ok_aload_n (show decode b_xb_takeFirst 0 = .ok (.aload_n 0, 1) by decide +kernel) rfl, ?_⟩
  refine List.forall_mem_cons.mpr ⟨mx_ok_getf fd_xb_9 (show decode b_xb_takeFirst 1 = .ok (.getfield 9, 3) by decide +kernel), ?_⟩
  refine List.forall_mem_cons.mpr ⟨mx_ok_iconst (show decode b_xb_takeFirst 4 = .ok (.iconst 0, 1) by decide +kernel) (by decide), ?_⟩
  refine List.forall_mem_cons.mpr ⟨mx_ok_iald (show decode b_xb_takeFirst 5 = .ok (.iaload, 1) by decide +kernel), ?_⟩
  refine List.forall_mem_cons.mpr ⟨mx_ok_istore_n (show decode b_xb_takeFirst 6 = .ok (.istore_n 1, 1) by decide +kernel) rfl (by decide), ?_⟩
  refine List.forall_mem_cons.mpr ⟨mx_ok_iconst (show decode b_xb_takeFirst 7 = .ok (.iconst 1, 1) by decide +kernel) (by decide), ?_⟩
  refine List.forall_mem_cons.mpr ⟨mx_ok_istore_n (show decode b_xb_takeFirst 8 = .ok (.istore_n 2, 1) by decide +kernel) rfl (by decide), ?_⟩
  refine List.forall_mem_cons.mpr ⟨mx_ok_iload_n (show decode b_xb_takeFirst 9 = .ok (.iload_n 2, 1) by decide +kernel) rfl, ?_⟩
  refine List.forall_mem_cons.mpr ⟨mx_ok_aload_n (show decode b_xb_takeFirst 10 = .ok (.aload_n 0, 1) by decide +kernel) rfl, ?_⟩
  refine List.forall_mem_cons.mpr ⟨mx_ok_getf fd_xb_16 (show decode b_xb_takeFirst 11 = .ok (.getfield 16, 3) by decide +kernel), ?_⟩
  refine List.forall_mem_cons.mpr ⟨mx_ok_icmp_ge (show decode b_xb_takeFirst 14 = .ok (.if_icmp .ge 37, 3) by decide +kernel) (by decide), ?_⟩
  refine List.forall_mem_cons.mpr ⟨mx_ok_aload_n (show decode b_xb_takeFirst 17 = .ok (.aload_n 0, 1) by decide +kernel) rfl, ?_⟩
  refine List.forall_mem_cons.mpr ⟨mx_ok_getf fd_xb_9 (show decode b_xb_takeFirst 18 = .ok (.getfield 9, 3) by decide +kernel), ?_⟩
  refine List.forall_mem_cons.mpr ⟨mx_ok_iload_n (show decode b_xb_takeFirst 21 = .ok (.iload_n 2, 1) by decide +kernel) rfl, ?_⟩
  refine List.forall_mem_cons.mpr ⟨mx_ok_iconst (show decode b_xb_takeFirst 22 = .ok (.iconst 1, 1) by decide +kernel) (by decide), ?_⟩
  refine List.forall_mem_cons.mpr ⟨mx_ok_isub (show decode b_xb_takeFirst 23 = .ok (.isub, 1) by decide +kernel), ?_⟩
  refine List.forall_mem_cons.mpr ⟨mx_ok_aload_n (show decode b_xb_takeFirst 24 = .ok (.aload_n 0, 1) by decide +kernel) rfl, ?_⟩
  refine List.forall_mem_cons.mpr ⟨mx_ok_getf fd_xb_9 (show decode b_xb_takeFirst 25 = .ok (.getfield 9, 3) by decide +kernel), ?_⟩
  refine List.forall_mem_cons.mpr ⟨mx_ok_iload_n (show decode b_xb_takeFirst 28 = .ok (.iload_n 2, 1) by decide +kernel) rfl, ?_⟩
  refine List.forall_mem_cons.mpr ⟨mx_ok_iald (show decode b_xb_takeFirst 29 = .ok (.iaload, 1) by decide +kernel), ?_⟩
  refine List.forall_mem_cons.mpr ⟨mx_ok_iast (show decode b_xb_takeFirst 30 = .ok (.iastore, 1) by decide +kernel), ?_⟩
  refine List.forall_mem_cons.mpr ⟨mx_ok_aload_n (show decode b_xb_takeFirst 31 = .ok (.aload_n 0, 1) by decide +kernel) rfl, ?_⟩
  refine List.forall_mem_cons.mpr ⟨mx_ok_getf fd_xb_13 (show decode b_xb_takeFirst 32 = .ok (.getfield 13, 3) by decide +kernel), ?_⟩
  refine List.forall_mem_cons.mpr ⟨mx_ok_iload_n (show decode b_xb_takeFirst 35 = .ok (.iload_n 2, 1) by decide +kernel) rfl, ?_⟩
  refine List.forall_mem_cons.mpr ⟨mx_ok_iconst (show decode b_xb_takeFirst 36 = .ok (.iconst 1, 1) by decide +kernel) (by decide), ?_⟩
  refine List.forall_mem_cons.mpr ⟨mx_ok_isub (show decode b_xb_takeFirst 37 = .ok (.isub, 1) by decide +kernel), ?_⟩
  refine List.forall_mem_cons.mpr ⟨mx_ok_aload_n (show decode b_xb_takeFirst 38 = .ok (.aload_n 0, 1) by decide +kernel) rfl, ?_⟩
  refine List.forall_mem_cons.mpr ⟨mx_ok_getf fd_xb_13 (show decode b_xb_takeFirst 39 = .ok (.getfield 13, 3) by decide +kernel), ?_⟩
  refine List.forall_mem_cons.mpr ⟨mx_ok_iload_n (show decode b_xb_takeFirst 42 = .ok (.iload_n 2, 1) by decide +kernel) rfl, ?_⟩
  refine List.forall_mem_cons.mpr ⟨mx_ok_iald (show decode b_xb_takeFirst 43 = .ok (.iaload, 1) by decide +kernel), ?_⟩
  refine List.forall_mem_cons.mpr ⟨mx_ok_iast (show decode b_xb_takeFirst 44 = .ok (.iastore, 1) by decide +kernel), ?_⟩
  refine List.forall_mem_cons.mpr ⟨mx_ok_iinc (show decode b_xb_takeFirst 45 = .ok (.iinc 2 1, 3) by decide +kernel) (by decide) (by decide), ?_⟩
  refine List.forall_mem_cons.mpr ⟨mx_ok_goto (show decode b_xb_takeFirst 48 = .ok (.goto (-39), 3) by decide +kernel) (by decide), ?_⟩
  refine List.forall_mem_cons.mpr ⟨mx_ok_aload_n (show decode b_xb_takeFirst 51 = .ok (.aload_n 0, 1) by decide +kernel) rfl, ?_⟩
  refine List.forall_mem_cons.mpr ⟨mx_ok_dup (show decode b_xb_takeFirst 52 = .ok (.dup, 1) by decide +kernel), ?_⟩
  refine List.forall_mem_cons.mpr ⟨mx_ok_getf fd_xb_16 (show decode b_xb_takeFirst 53 = .ok (.getfield 16, 3) by decide +kernel), ?_⟩
  refine List.forall_mem_cons.mpr ⟨mx_ok_iconst (show decode b_xb_takeFirst 56 = .ok (.iconst 1, 1) by decide +kernel) (by decide), ?_⟩
  refine List.forall_mem_cons.mpr ⟨mx_ok_isub (show decode b_xb_takeFirst 57 = .ok (.isub, 1) by decide +kernel), ?_⟩
  refine List.forall_mem_cons.mpr ⟨mx_ok_putf fd_xb_16 fw_2_2 (show decode b_xb_takeFirst 58 = .ok (.putfield 16, 3) by decide +kernel), ?_⟩
  refine List.forall_mem_cons.mpr ⟨mx_ok_iload_n (show decode b_xb_takeFirst 61 = .ok (.iload_n 1, 1) by decide +kernel) rfl, ?_⟩
  refine List.forall_mem_cons.mpr ⟨mx_ok_iret (show decode b_xb_takeFirst 62 = .ok (.ireturn, 1) by decide +kernel) rfl, ?_⟩
  exact fun _ h => absurd h List.not_mem_nil
set_option maxRecDepth 100000 in
set_option maxHeartbeats 4000000 in
theorem ct_xb_takeFirst (l : Launch) (np nd : Nat) : mx_Ct l vw_T vw_cl (kx np nd) { frames := 0, cells := 0, slots := 0, locals := 0 } y_xb_takeFirst b_xb_takeFirst 3 (some .int) (pre_xb_takeFirst np nd) (fn_xb_takeFirst np nd) := by
  refine mx_ct_of (tb_xb_takeFirst np nd ) (by decide) (ok_xb_takeFirst l np nd ) (fun as u h => by obtain ⟨rfl, -⟩ := h; exact Nat.le_of_ble_eq_true rfl) ?_
  intro as u hpre At hc hw
  obtain ⟨rfl, hp⟩ := hpre
  obtain ⟨RES, hRES⟩ : ∃ z, z = (xb_takeFirst_b u) := ⟨_, rfl⟩
  have hfn : fn_xb_takeFirst np nd [.inr (.inr 8)] u = mx_rB RES := by
    show ((some (.inl (xb_takeFirst u)), (xb_takeFirst_s u)) : Option mx_V × mx_S) = _
    rw [hRES, xb_takeFirst_eq, xb_takeFirst_s_eq]
    rfl
  rw [hfn] at hc
  have lp9 : ∀ (n9 : Nat) (v1 : Int32) (v2 : Int32) (u : mx_S), q_xb_takeFirst_l9 np nd n9 v1 v2 u → xb_takeFirst_l9 n9 v1 v2 u = RES → At 9 [(1, .inl v1), (2, .inl v2), (0, .inr (.inr 8))] [] u := by
    intro n9
    induction n9 with
    | zero =>
      intro v1 v2 u hi he
      exact hi.elim
    | succ n9 ih9 =>
      intro v1 v2 u hi9 he9
      exact hc 200 [9] _ _ _ _ (
        And.intro (fun h14 => 
         And.intro rfl (
         congrArg mx_rB (show (v1, (mx_sf u 8 2 ((mx_gf u 8 2) - (1 : Int32)))) = RES from (if_pos h14).symm.trans he9))) (fun h14 => 
         And.intro ((hi9.2 h14).1) (
         And.intro ((hi9.2 h14).2.1) (
         And.intro ((hi9.2 h14).2.2.1) (
         And.intro ((hi9.2 h14).2.2.2.1) (
         hw [1, 0, 2] 9 _ [] _ (ih9 v1 (v2 + 1) (mx_sa (mx_sa u 9 ((v2 - (1 : Int32))).toNatClampNeg (mx_ga u 9 (v2).toNatClampNeg)) 10 ((v2 - (1 : Int32))).toNatClampNeg (mx_ga (mx_sa u 9 ((v2 - (1 : Int32))).toNatClampNeg (mx_ga u 9 (v2).toNatClampNeg)) 10 (v2).toNatClampNeg)) (hi9.2 h14).2.2.2.2 ((if_neg h14).symm.trans he9))))))))
  exact hc 200 [9] _ _ _ _ (
    And.intro (mx_in0 (by decide)) (
    hw [1, 0, 2] 9 _ [] _ (lp9 20 (mx_ga u 9 ((0 : Int32)).toNatClampNeg) 1 u hp ((rfl).symm.trans hRES.symm))))
/-! WideMachine$Branches.add(I)V -/
noncomputable def xb_add_b (a1 : Int32) (u : mx_S) : mx_S :=
  if 12 ≤ (mx_gf u 8 2) then
   u
  else
   (mx_sf (mx_sa (mx_sa u 9 ((mx_gf u 8 2)).toNatClampNeg a1) 10 ((mx_gf (mx_sa u 9 ((mx_gf u 8 2)).toNatClampNeg a1) 8 2)).toNatClampNeg 6) 8 2 ((mx_gf (mx_sa (mx_sa u 9 ((mx_gf u 8 2)).toNatClampNeg a1) 10 ((mx_gf (mx_sa u 9 ((mx_gf u 8 2)).toNatClampNeg a1) 8 2)).toNatClampNeg 6) 8 2) + (1 : Int32)))
theorem xb_add_ex : ∃ f : Int32 → mx_S → (mx_S), f = xb_add_b := ⟨_, rfl⟩
noncomputable def xb_add : Int32 → mx_S → (mx_S) := Classical.choose xb_add_ex
theorem xb_add_eq (a1 : Int32) (u : mx_S) : (xb_add a1 u) = (xb_add_b a1 u) := by rw [show xb_add = xb_add_b from Classical.choose_spec xb_add_ex]
def q_xb_add (np nd : Nat) (a1 : Int32) (u : mx_S) : Prop :=
  ((12 ≤ (mx_gf u 8 2)) → 
   True) ∧ ((¬ (12 ≤ (mx_gf u 8 2))) → 
   (vp_in (mx_gf u 8 2) 12) ∧ (
    (vp_in (mx_gf (mx_sa u 9 ((mx_gf u 8 2)).toNatClampNeg a1) 8 2) 12)))
def pre_xb_add (np nd : Nat) : List mx_V → mx_S → Prop := fun as u => ∃ (a1 : Int32), as = [.inr (.inr 8), .inl a1] ∧ q_xb_add np nd a1 u
noncomputable def fn_xb_add (np nd : Nat) : mx_F := fun as u => match as with
  | [_, .inl a1] => (none, (xb_add a1 u))
  | _ => (none, u)
noncomputable def tb_xb_add (np nd : Nat) : List (Nat × mx_T) := [
  (0, mx_aload_n 0 0),
  (1, mx_getf (kx np nd) 2 2 1),
  (4, mx_bipush 12 4),
  (6, mx_icmp_ge 40 6),
  (9, mx_aload_n 0 9),
  (10, mx_getf (kx np nd) 2 0 10),
  (13, mx_aload_n 0 13),
  (14, mx_getf (kx np nd) 2 2 14),
  (17, mx_iload_n 1 17),
  (18, mx_iast (kx np nd) 18),
  (19, mx_aload_n 0 19),
  (20, mx_getf (kx np nd) 2 1 20),
  (23, mx_aload_n 0 23),
  (24, mx_getf (kx np nd) 2 2 24),
  (27, mx_bipush 6 27),
  (29, mx_iast (kx np nd) 29),
  (30, mx_aload_n 0 30),
  (31, mx_dup 31),
  (32, mx_getf (kx np nd) 2 2 32),
  (35, mx_iconst 1 35),
  (36, mx_iadd 36),
  (37, mx_putf (kx np nd) 2 2 37),
  (40, mx_vret 40)]
set_option maxRecDepth 100000 in
set_option maxHeartbeats 4000000 in
theorem ok_xb_add (l : Launch) (np nd : Nat) : ∀ q ∈ tb_xb_add np nd , mx_Ok l ({ frames := 0, cells := 0, slots := 0, locals := 0 } : Room) b_xb_add 2 "WideMachine$Branches" none vw_T vw_cl (kx np nd) q.1 q.2 := by
  refine List.forall_mem_cons.mpr ⟨mx_ok_aload_n (show decode b_xb_add 0 = .ok (.aload_n 0, 1) by decide +kernel) rfl, ?_⟩
  refine List.forall_mem_cons.mpr ⟨mx_ok_getf fd_xb_16 (show decode b_xb_add 1 = .ok (.getfield 16, 3) by decide +kernel), ?_⟩
  refine List.forall_mem_cons.mpr ⟨mx_ok_bipush (show decode b_xb_add 4 = .ok (.bipush 12, 2) by decide +kernel) (by decide), ?_⟩
  refine List.forall_mem_cons.mpr ⟨mx_ok_icmp_ge (show decode b_xb_add 6 = .ok (.if_icmp .ge 34, 3) by decide +kernel) (by decide), ?_⟩
  refine List.forall_mem_cons.mpr ⟨mx_ok_aload_n (show decode b_xb_add 9 = .ok (.aload_n 0, 1) by decide +kernel) rfl, ?_⟩
  refine List.forall_mem_cons.mpr ⟨mx_ok_getf fd_xb_9 (show decode b_xb_add 10 = .ok (.getfield 9, 3) by decide +kernel), ?_⟩
  refine List.forall_mem_cons.mpr ⟨mx_ok_aload_n (show decode b_xb_add 13 = .ok (.aload_n 0, 1) by decide +kernel) rfl, ?_⟩
  refine List.forall_mem_cons.mpr ⟨mx_ok_getf fd_xb_16 (show decode b_xb_add 14 = .ok (.getfield 16, 3) by decide +kernel), ?_⟩
  refine List.forall_mem_cons.mpr ⟨mx_ok_iload_n (show decode b_xb_add 17 = .ok (.iload_n 1, 1) by decide +kernel) rfl, ?_⟩
  refine List.forall_mem_cons.mpr ⟨mx_ok_iast (show decode b_xb_add 18 = .ok (.iastore, 1) by decide +kernel), ?_⟩
  refine List.forall_mem_cons.mpr ⟨mx_ok_aload_n (show decode b_xb_add 19 = .ok (.aload_n 0, 1) by decide +kernel) rfl, ?_⟩
  refine List.forall_mem_cons.mpr ⟨mx_ok_getf fd_xb_13 (show decode b_xb_add 20 = .ok (.getfield 13, 3) by decide +kernel), ?_⟩
  refine List.forall_mem_cons.mpr ⟨mx_ok_aload_n (show decode b_xb_add 23 = .ok (.aload_n 0, 1) by decide +kernel) rfl, ?_⟩
  refine List.forall_mem_cons.mpr ⟨mx_ok_getf fd_xb_16 (show decode b_xb_add 24 = .ok (.getfield 16, 3) by decide +kernel), ?_⟩
  refine List.forall_mem_cons.mpr ⟨mx_ok_bipush (show decode b_xb_add 27 = .ok (.bipush 6, 2) by decide +kernel) (by decide), ?_⟩
  refine List.forall_mem_cons.mpr ⟨mx_ok_iast (show decode b_xb_add 29 = .ok (.iastore, 1) by decide +kernel), ?_⟩
  refine List.forall_mem_cons.mpr ⟨mx_ok_aload_n (show decode b_xb_add 30 = .ok (.aload_n 0, 1) by decide +kernel) rfl, ?_⟩
  refine List.forall_mem_cons.mpr ⟨mx_ok_dup (show decode b_xb_add 31 = .ok (.dup, 1) by decide +kernel), ?_⟩
  refine List.forall_mem_cons.mpr ⟨mx_ok_getf fd_xb_16 (show decode b_xb_add 32 = .ok (.getfield 16, 3) by decide +kernel), ?_⟩
  refine List.forall_mem_cons.mpr ⟨mx_ok_iconst (show decode b_xb_add 35 = .ok (.iconst 1, 1) by decide +kernel) (by decide), ?_⟩
  refine List.forall_mem_cons.mpr ⟨mx_ok_iadd (show decode b_xb_add 36 = .ok (.iadd, 1) by decide +kernel), ?_⟩
  refine List.forall_mem_cons.mpr ⟨mx_ok_putf fd_xb_16 fw_2_2 (show decode b_xb_add 37 = .ok (.putfield 16, 3) by decide +kernel), ?_⟩
  refine List.forall_mem_cons.mpr ⟨mx_ok_vret (show decode b_xb_add 40 = .ok (.return_, 1) by decide +kernel) rfl, ?_⟩
  exact fun _ h => absurd h List.not_mem_nil
set_option maxRecDepth 100000 in
set_option maxHeartbeats 4000000 in
theorem ct_xb_add (l : Launch) (np nd : Nat) : mx_Ct l vw_T vw_cl (kx np nd) { frames := 0, cells := 0, slots := 0, locals := 0 } y_xb_add b_xb_add 2 none (pre_xb_add np nd) (fn_xb_add np nd) := by
  refine mx_ct_of (tb_xb_add np nd ) (by decide) (ok_xb_add l np nd ) (fun as u h => by obtain ⟨_, rfl, -⟩ := h; exact Nat.le_of_ble_eq_true rfl) ?_
  intro as u hpre At hc hw
  obtain ⟨a1, rfl, hp⟩ := hpre
  exact hc 200 [] _ _ _ _ (
    And.intro (fun h6 => 
     congrArg (fun z : mx_S => ((none, z) : Option mx_V × mx_S)) (show u = (xb_add a1 u) from ((xb_add_eq a1 u).trans (if_pos h6)).symm)) (fun h6 => 
     And.intro ((hp.2 h6).1) (
     And.intro ((hp.2 h6).2) (
     And.intro rfl (
     congrArg (fun z : mx_S => ((none, z) : Option mx_V × mx_S)) (show (mx_sf (mx_sa (mx_sa u 9 ((mx_gf u 8 2)).toNatClampNeg a1) 10 ((mx_gf (mx_sa u 9 ((mx_gf u 8 2)).toNatClampNeg a1) 8 2)).toNatClampNeg 6) 8 2 ((mx_gf (mx_sa (mx_sa u 9 ((mx_gf u 8 2)).toNatClampNeg a1) 10 ((mx_gf (mx_sa u 9 ((mx_gf u 8 2)).toNatClampNeg a1) 8 2)).toNatClampNeg 6) 8 2) + (1 : Int32))) = (xb_add a1 u) from ((xb_add_eq a1 u).trans (if_neg h6)).symm))))))
/-! WideMachine$Writes.add(III)V -/
noncomputable def xq_add_b (a1 : Int32) (a2 : Int32) (a3 : Int32) (u : mx_S) : mx_S :=
  if 18 ≤ (mx_gf u 4 3) then
   u
  else
   (mx_sf (mx_sa (mx_sa (mx_sa u 5 ((mx_gf u 4 3)).toNatClampNeg a1) 6 ((mx_gf (mx_sa u 5 ((mx_gf u 4 3)).toNatClampNeg a1) 4 3)).toNatClampNeg a2) 7 ((mx_gf (mx_sa (mx_sa u 5 ((mx_gf u 4 3)).toNatClampNeg a1) 6 ((mx_gf (mx_sa u 5 ((mx_gf u 4 3)).toNatClampNeg a1) 4 3)).toNatClampNeg a2) 4 3)).toNatClampNeg a3) 4 3 ((mx_gf (mx_sa (mx_sa (mx_sa u 5 ((mx_gf u 4 3)).toNatClampNeg a1) 6 ((mx_gf (mx_sa u 5 ((mx_gf u 4 3)).toNatClampNeg a1) 4 3)).toNatClampNeg a2) 7 ((mx_gf (mx_sa (mx_sa u 5 ((mx_gf u 4 3)).toNatClampNeg a1) 6 ((mx_gf (mx_sa u 5 ((mx_gf u 4 3)).toNatClampNeg a1) 4 3)).toNatClampNeg a2) 4 3)).toNatClampNeg a3) 4 3) + (1 : Int32)))
theorem xq_add_ex : ∃ f : Int32 → Int32 → Int32 → mx_S → (mx_S), f = xq_add_b := ⟨_, rfl⟩
noncomputable def xq_add : Int32 → Int32 → Int32 → mx_S → (mx_S) := Classical.choose xq_add_ex
theorem xq_add_eq (a1 : Int32) (a2 : Int32) (a3 : Int32) (u : mx_S) : (xq_add a1 a2 a3 u) = (xq_add_b a1 a2 a3 u) := by rw [show xq_add = xq_add_b from Classical.choose_spec xq_add_ex]
def q_xq_add (np nd : Nat) (a1 : Int32) (a2 : Int32) (a3 : Int32) (u : mx_S) : Prop :=
  ((18 ≤ (mx_gf u 4 3)) → 
   True) ∧ ((¬ (18 ≤ (mx_gf u 4 3))) → 
   (vp_in (mx_gf u 4 3) 18) ∧ (
    (vp_in (mx_gf (mx_sa u 5 ((mx_gf u 4 3)).toNatClampNeg a1) 4 3) 18) ∧ (
     (vp_in (mx_gf (mx_sa (mx_sa u 5 ((mx_gf u 4 3)).toNatClampNeg a1) 6 ((mx_gf (mx_sa u 5 ((mx_gf u 4 3)).toNatClampNeg a1) 4 3)).toNatClampNeg a2) 4 3) 18))))
def pre_xq_add (np nd : Nat) : List mx_V → mx_S → Prop := fun as u => ∃ (a1 : Int32) (a2 : Int32) (a3 : Int32), as = [.inr (.inr 4), .inl a1, .inl a2, .inl a3] ∧ q_xq_add np nd a1 a2 a3 u
noncomputable def fn_xq_add (np nd : Nat) : mx_F := fun as u => match as with
  | [_, .inl a1, .inl a2, .inl a3] => (none, (xq_add a1 a2 a3 u))
  | _ => (none, u)
noncomputable def tb_xq_add (np nd : Nat) : List (Nat × mx_T) := [
  (0, mx_aload_n 0 0),
  (1, mx_getf (kx np nd) 1 3 1),
  (4, mx_bipush 18 4),
  (6, mx_icmp_ge 49 6),
  (9, mx_aload_n 0 9),
  (10, mx_getf (kx np nd) 1 0 10),
  (13, mx_aload_n 0 13),
  (14, mx_getf (kx np nd) 1 3 14),
  (17, mx_iload_n 1 17),
  (18, mx_iast (kx np nd) 18),
  (19, mx_aload_n 0 19),
  (20, mx_getf (kx np nd) 1 1 20),
  (23, mx_aload_n 0 23),
  (24, mx_getf (kx np nd) 1 3 24),
  (27, mx_iload_n 2 27),
  (28, mx_iast (kx np nd) 28),
  (29, mx_aload_n 0 29),
  (30, mx_getf (kx np nd) 1 2 30),
  (33, mx_aload_n 0 33),
  (34, mx_getf (kx np nd) 1 3 34),
  (37, mx_iload_n 3 37),
  (38, mx_iast (kx np nd) 38),
  (39, mx_aload_n 0 39),
  (40, mx_dup 40),
  (41, mx_getf (kx np nd) 1 3 41),
  (44, mx_iconst 1 44),
  (45, mx_iadd 45),
  (46, mx_putf (kx np nd) 1 3 46),
  (49, mx_vret 49)]
set_option maxRecDepth 100000 in
set_option maxHeartbeats 4000000 in
theorem ok_xq_add (l : Launch) (np nd : Nat) : ∀ q ∈ tb_xq_add np nd , mx_Ok l ({ frames := 0, cells := 0, slots := 0, locals := 0 } : Room) b_xq_add 4 "WideMachine$Writes" none vw_T vw_cl (kx np nd) q.1 q.2 := by
  refine List.forall_mem_cons.mpr ⟨mx_ok_aload_n (show decode b_xq_add 0 = .ok (.aload_n 0, 1) by decide +kernel) rfl, ?_⟩
  refine List.forall_mem_cons.mpr ⟨mx_ok_getf fd_xq_19 (show decode b_xq_add 1 = .ok (.getfield 19, 3) by decide +kernel), ?_⟩
  refine List.forall_mem_cons.mpr ⟨mx_ok_bipush (show decode b_xq_add 4 = .ok (.bipush 18, 2) by decide +kernel) (by decide), ?_⟩
  refine List.forall_mem_cons.mpr ⟨mx_ok_icmp_ge (show decode b_xq_add 6 = .ok (.if_icmp .ge 43, 3) by decide +kernel) (by decide), ?_⟩
  refine List.forall_mem_cons.mpr ⟨mx_ok_aload_n (show decode b_xq_add 9 = .ok (.aload_n 0, 1) by decide +kernel) rfl, ?_⟩
  refine List.forall_mem_cons.mpr ⟨mx_ok_getf fd_xq_9 (show decode b_xq_add 10 = .ok (.getfield 9, 3) by decide +kernel), ?_⟩
  refine List.forall_mem_cons.mpr ⟨mx_ok_aload_n (show decode b_xq_add 13 = .ok (.aload_n 0, 1) by decide +kernel) rfl, ?_⟩
  refine List.forall_mem_cons.mpr ⟨mx_ok_getf fd_xq_19 (show decode b_xq_add 14 = .ok (.getfield 19, 3) by decide +kernel), ?_⟩
  refine List.forall_mem_cons.mpr ⟨mx_ok_iload_n (show decode b_xq_add 17 = .ok (.iload_n 1, 1) by decide +kernel) rfl, ?_⟩
  refine List.forall_mem_cons.mpr ⟨mx_ok_iast (show decode b_xq_add 18 = .ok (.iastore, 1) by decide +kernel), ?_⟩
  refine List.forall_mem_cons.mpr ⟨mx_ok_aload_n (show decode b_xq_add 19 = .ok (.aload_n 0, 1) by decide +kernel) rfl, ?_⟩
  refine List.forall_mem_cons.mpr ⟨mx_ok_getf fd_xq_13 (show decode b_xq_add 20 = .ok (.getfield 13, 3) by decide +kernel), ?_⟩
  refine List.forall_mem_cons.mpr ⟨mx_ok_aload_n (show decode b_xq_add 23 = .ok (.aload_n 0, 1) by decide +kernel) rfl, ?_⟩
  refine List.forall_mem_cons.mpr ⟨mx_ok_getf fd_xq_19 (show decode b_xq_add 24 = .ok (.getfield 19, 3) by decide +kernel), ?_⟩
  refine List.forall_mem_cons.mpr ⟨mx_ok_iload_n (show decode b_xq_add 27 = .ok (.iload_n 2, 1) by decide +kernel) rfl, ?_⟩
  refine List.forall_mem_cons.mpr ⟨mx_ok_iast (show decode b_xq_add 28 = .ok (.iastore, 1) by decide +kernel), ?_⟩
  refine List.forall_mem_cons.mpr ⟨mx_ok_aload_n (show decode b_xq_add 29 = .ok (.aload_n 0, 1) by decide +kernel) rfl, ?_⟩
  refine List.forall_mem_cons.mpr ⟨mx_ok_getf fd_xq_16 (show decode b_xq_add 30 = .ok (.getfield 16, 3) by decide +kernel), ?_⟩
  refine List.forall_mem_cons.mpr ⟨mx_ok_aload_n (show decode b_xq_add 33 = .ok (.aload_n 0, 1) by decide +kernel) rfl, ?_⟩
  refine List.forall_mem_cons.mpr ⟨mx_ok_getf fd_xq_19 (show decode b_xq_add 34 = .ok (.getfield 19, 3) by decide +kernel), ?_⟩
  refine List.forall_mem_cons.mpr ⟨mx_ok_iload_n (show decode b_xq_add 37 = .ok (.iload_n 3, 1) by decide +kernel) rfl, ?_⟩
  refine List.forall_mem_cons.mpr ⟨mx_ok_iast (show decode b_xq_add 38 = .ok (.iastore, 1) by decide +kernel), ?_⟩
  refine List.forall_mem_cons.mpr ⟨mx_ok_aload_n (show decode b_xq_add 39 = .ok (.aload_n 0, 1) by decide +kernel) rfl, ?_⟩
  refine List.forall_mem_cons.mpr ⟨mx_ok_dup (show decode b_xq_add 40 = .ok (.dup, 1) by decide +kernel), ?_⟩
  refine List.forall_mem_cons.mpr ⟨mx_ok_getf fd_xq_19 (show decode b_xq_add 41 = .ok (.getfield 19, 3) by decide +kernel), ?_⟩
  refine List.forall_mem_cons.mpr ⟨mx_ok_iconst (show decode b_xq_add 44 = .ok (.iconst 1, 1) by decide +kernel) (by decide), ?_⟩
  refine List.forall_mem_cons.mpr ⟨mx_ok_iadd (show decode b_xq_add 45 = .ok (.iadd, 1) by decide +kernel), ?_⟩
  refine List.forall_mem_cons.mpr ⟨mx_ok_putf fd_xq_19 fw_1_3 (show decode b_xq_add 46 = .ok (.putfield 19, 3) by decide +kernel), ?_⟩
  refine List.forall_mem_cons.mpr ⟨mx_ok_vret (show decode b_xq_add 49 = .ok (.return_, 1) by decide +kernel) rfl, ?_⟩
  exact fun _ h => absurd h List.not_mem_nil
set_option maxRecDepth 100000 in
set_option maxHeartbeats 4000000 in
theorem ct_xq_add (l : Launch) (np nd : Nat) : mx_Ct l vw_T vw_cl (kx np nd) { frames := 0, cells := 0, slots := 0, locals := 0 } y_xq_add b_xq_add 4 none (pre_xq_add np nd) (fn_xq_add np nd) := by
  refine mx_ct_of (tb_xq_add np nd ) (by decide) (ok_xq_add l np nd ) (fun as u h => by obtain ⟨_, _, _, rfl, -⟩ := h; exact Nat.le_of_ble_eq_true rfl) ?_
  intro as u hpre At hc hw
  obtain ⟨a1, a2, a3, rfl, hp⟩ := hpre
  exact hc 200 [] _ _ _ _ (
    And.intro (fun h6 => 
     congrArg (fun z : mx_S => ((none, z) : Option mx_V × mx_S)) (show u = (xq_add a1 a2 a3 u) from ((xq_add_eq a1 a2 a3 u).trans (if_pos h6)).symm)) (fun h6 => 
     And.intro ((hp.2 h6).1) (
     And.intro ((hp.2 h6).2.1) (
     And.intro ((hp.2 h6).2.2) (
     And.intro rfl (
     congrArg (fun z : mx_S => ((none, z) : Option mx_V × mx_S)) (show (mx_sf (mx_sa (mx_sa (mx_sa u 5 ((mx_gf u 4 3)).toNatClampNeg a1) 6 ((mx_gf (mx_sa u 5 ((mx_gf u 4 3)).toNatClampNeg a1) 4 3)).toNatClampNeg a2) 7 ((mx_gf (mx_sa (mx_sa u 5 ((mx_gf u 4 3)).toNatClampNeg a1) 6 ((mx_gf (mx_sa u 5 ((mx_gf u 4 3)).toNatClampNeg a1) 4 3)).toNatClampNeg a2) 4 3)).toNatClampNeg a3) 4 3 ((mx_gf (mx_sa (mx_sa (mx_sa u 5 ((mx_gf u 4 3)).toNatClampNeg a1) 6 ((mx_gf (mx_sa u 5 ((mx_gf u 4 3)).toNatClampNeg a1) 4 3)).toNatClampNeg a2) 7 ((mx_gf (mx_sa (mx_sa u 5 ((mx_gf u 4 3)).toNatClampNeg a1) 6 ((mx_gf (mx_sa u 5 ((mx_gf u 4 3)).toNatClampNeg a1) 4 3)).toNatClampNeg a2) 4 3)).toNatClampNeg a3) 4 3) + (1 : Int32))) = (xq_add a1 a2 a3 u) from ((xq_add_eq a1 a2 a3 u).trans (if_neg h6)).symm)))))))
/-! WideMachine$Writes.clear()V -/
noncomputable def xq_clear (u : mx_S) : mx_S :=
  (mx_sf u 4 3 0)
def pre_xq_clear (np nd : Nat) : List mx_V → mx_S → Prop := fun as u => as = [.inr (.inr 4)] ∧ True
noncomputable def fn_xq_clear (np nd : Nat) : mx_F := fun as u => match as with
  | [_] => (none, (xq_clear u))
  | _ => (none, u)
noncomputable def tb_xq_clear (np nd : Nat) : List (Nat × mx_T) := [
  (0, mx_aload_n 0 0),
  (1, mx_iconst 0 1),
  (2, mx_putf (kx np nd) 1 3 2),
  (5, mx_vret 5)]
set_option maxRecDepth 100000 in
set_option maxHeartbeats 4000000 in
theorem ok_xq_clear (l : Launch) (np nd : Nat) : ∀ q ∈ tb_xq_clear np nd , mx_Ok l ({ frames := 0, cells := 0, slots := 0, locals := 0 } : Room) b_xq_clear 1 "WideMachine$Writes" none vw_T vw_cl (kx np nd) q.1 q.2 := by
  refine List.forall_mem_cons.mpr ⟨mx_ok_aload_n (show decode b_xq_clear 0 = .ok (.aload_n 0, 1) by decide +kernel) rfl, ?_⟩
  refine List.forall_mem_cons.mpr ⟨mx_ok_iconst (show decode b_xq_clear 1 = .ok (.iconst 0, 1) by decide +kernel) (by decide), ?_⟩
  refine List.forall_mem_cons.mpr ⟨mx_ok_putf fd_xq_19 fw_1_3 (show decode b_xq_clear 2 = .ok (.putfield 19, 3) by decide +kernel), ?_⟩
  refine List.forall_mem_cons.mpr ⟨mx_ok_vret (show decode b_xq_clear 5 = .ok (.return_, 1) by decide +kernel) rfl, ?_⟩
  exact fun _ h => absurd h List.not_mem_nil
set_option maxRecDepth 100000 in
set_option maxHeartbeats 4000000 in
theorem ct_xq_clear (l : Launch) (np nd : Nat) : mx_Ct l vw_T vw_cl (kx np nd) { frames := 0, cells := 0, slots := 0, locals := 0 } y_xq_clear b_xq_clear 1 none (pre_xq_clear np nd) (fn_xq_clear np nd) := by
  refine mx_ct_of (tb_xq_clear np nd ) (by decide) (ok_xq_clear l np nd ) (fun as u h => by obtain ⟨rfl, -⟩ := h; exact Nat.le_of_ble_eq_true rfl) ?_
  intro as u hpre At hc hw
  obtain ⟨rfl, hp⟩ := hpre
  exact hc 200 [] _ _ _ _ (
    And.intro rfl (
    congrArg (fun z : mx_S => ((none, z) : Option mx_V × mx_S)) (show (mx_sf u 4 3 0) = (xq_clear u) from (rfl).symm)))
/-! WideMachine$Branches.clear()V -/
noncomputable def xb_clear (u : mx_S) : mx_S :=
  (mx_sf u 8 2 0)
def pre_xb_clear (np nd : Nat) : List mx_V → mx_S → Prop := fun as u => as = [.inr (.inr 8)] ∧ True
noncomputable def fn_xb_clear (np nd : Nat) : mx_F := fun as u => match as with
  | [_] => (none, (xb_clear u))
  | _ => (none, u)
noncomputable def tb_xb_clear (np nd : Nat) : List (Nat × mx_T) := [
  (0, mx_aload_n 0 0),
  (1, mx_iconst 0 1),
  (2, mx_putf (kx np nd) 2 2 2),
  (5, mx_vret 5)]
set_option maxRecDepth 100000 in
set_option maxHeartbeats 4000000 in
theorem ok_xb_clear (l : Launch) (np nd : Nat) : ∀ q ∈ tb_xb_clear np nd , mx_Ok l ({ frames := 0, cells := 0, slots := 0, locals := 0 } : Room) b_xb_clear 1 "WideMachine$Branches" none vw_T vw_cl (kx np nd) q.1 q.2 := by
  refine List.forall_mem_cons.mpr ⟨mx_ok_aload_n (show decode b_xb_clear 0 = .ok (.aload_n 0, 1) by decide +kernel) rfl, ?_⟩
  refine List.forall_mem_cons.mpr ⟨mx_ok_iconst (show decode b_xb_clear 1 = .ok (.iconst 0, 1) by decide +kernel) (by decide), ?_⟩
  refine List.forall_mem_cons.mpr ⟨mx_ok_putf fd_xb_16 fw_2_2 (show decode b_xb_clear 2 = .ok (.putfield 16, 3) by decide +kernel), ?_⟩
  refine List.forall_mem_cons.mpr ⟨mx_ok_vret (show decode b_xb_clear 5 = .ok (.return_, 1) by decide +kernel) rfl, ?_⟩
  exact fun _ h => absurd h List.not_mem_nil
set_option maxRecDepth 100000 in
set_option maxHeartbeats 4000000 in
theorem ct_xb_clear (l : Launch) (np nd : Nat) : mx_Ct l vw_T vw_cl (kx np nd) { frames := 0, cells := 0, slots := 0, locals := 0 } y_xb_clear b_xb_clear 1 none (pre_xb_clear np nd) (fn_xb_clear np nd) := by
  refine mx_ct_of (tb_xb_clear np nd ) (by decide) (ok_xb_clear l np nd ) (fun as u h => by obtain ⟨rfl, -⟩ := h; exact Nat.le_of_ble_eq_true rfl) ?_
  intro as u hpre At hc hw
  obtain ⟨rfl, hp⟩ := hpre
  exact hc 200 [] _ _ _ _ (
    And.intro rfl (
    congrArg (fun z : mx_S => ((none, z) : Option mx_V × mx_S)) (show (mx_sf u 8 2 0) = (xb_clear u) from (rfl).symm)))
