/-! WideMachine.landWrites()V -/
noncomputable def xm_landWrites_b (u : mx_S) : mx_S :=
  if (xq_clash (xq_comeNearer u)) = 0 then
   (xq_land (xq_comeNearer u))
  else
   (mx_sf (xq_comeNearer u) 0 5 5)
theorem xm_landWrites_ex : ∃ f : mx_S → (mx_S), f = xm_landWrites_b := ⟨_, rfl⟩
noncomputable def xm_landWrites : mx_S → (mx_S) := Classical.choose xm_landWrites_ex
theorem xm_landWrites_eq (u : mx_S) : (xm_landWrites u) = (xm_landWrites_b u) := by rw [show xm_landWrites = xm_landWrites_b from Classical.choose_spec xm_landWrites_ex]
def q_xm_landWrites (np nd : Nat) (u : mx_S) : Prop :=
  ((q_xq_comeNearer np nd u)) ∧ (
   ((q_xq_clash np nd (xq_comeNearer u))) ∧ (
    (((xq_clash (xq_comeNearer u)) = 0) → 
     ((q_xq_land np nd (xq_comeNearer u)))) ∧ ((¬ ((xq_clash (xq_comeNearer u)) = 0)) → 
     True)))
def pre_xm_landWrites (np nd : Nat) : List mx_V → mx_S → Prop := fun as u => as = [.inr (.inr 0)] ∧ q_xm_landWrites np nd u
noncomputable def fn_xm_landWrites (np nd : Nat) : mx_F := fun as u => match as with
  | [_] => (none, (xm_landWrites u))
  | _ => (none, u)
noncomputable def tb_xm_landWrites (np nd : Nat) : List (Nat × mx_T) := [
  (0, mx_aload_n 0 0),
  (1, mx_getf (kx np nd) 0 3 1),
  (4, mx_invV (kx np nd) 1 0 (pre_xq_comeNearer np nd) (fn_xq_comeNearer np nd) 4),
  (7, mx_aload_n 0 7),
  (8, mx_getf (kx np nd) 0 3 8),
  (11, mx_invV (kx np nd) 1 0 (pre_xq_clash np nd) (fn_xq_clash np nd) 11),
  (14, mx_if_eq 25 14),
  (17, mx_aload_n 0 17),
  (18, mx_iconst 5 18),
  (19, mx_putf (kx np nd) 0 5 19),
  (22, mx_goto 36 22),
  (25, mx_aload_n 0 25),
  (26, mx_getf (kx np nd) 0 3 26),
  (29, mx_aload_n 0 29),
  (30, mx_getf (kx np nd) 0 2 30),
  (33, mx_invV (kx np nd) 1 1 (pre_xq_land np nd) (fn_xq_land np nd) 33),
  (36, mx_vret 36)]
set_option maxRecDepth 100000 in
set_option maxHeartbeats 4000000 in
theorem ok_xm_landWrites (l : Launch) (np nd : Nat) : ∀ q ∈ tb_xm_landWrites np nd , mx_Ok l ({ frames := 1, cells := 0, slots := 0, locals := 23 } : Room) b_xm_landWrites 1 "WideMachine" none vw_T vw_cl (kx np nd) q.1 q.2 := by
  refine List.forall_mem_cons.mpr ⟨mx_ok_aload_n (show decode b_xm_landWrites 0 = .ok (.aload_n 0, 1) by decide +kernel) rfl, ?_⟩
  refine List.forall_mem_cons.mpr ⟨mx_ok_getf fd_xm_26 (show decode b_xm_landWrites 1 = .ok (.getfield 26, 3) by decide +kernel), ?_⟩
  refine List.forall_mem_cons.mpr ⟨mx_ok_invV vw_G (ct_xq_comeNearer l np nd) ⟨vm_55, vm_56, vm_57, ⟨by decide +kernel, by decide +kernel, by decide +kernel⟩, ⟨by decide, by decide⟩, rfl, rfl⟩ vm_58 vm_59 rfl (show decode b_xm_landWrites 4 = .ok (.invokevirtual 116, 3) by decide +kernel), ?_⟩
  refine List.forall_mem_cons.mpr ⟨mx_ok_aload_n (show decode b_xm_landWrites 7 = .ok (.aload_n 0, 1) by decide +kernel) rfl, ?_⟩
  refine List.forall_mem_cons.mpr ⟨mx_ok_getf fd_xm_26 (show decode b_xm_landWrites 8 = .ok (.getfield 26, 3) by decide +kernel), ?_⟩
  refine List.forall_mem_cons.mpr ⟨mx_ok_invV vw_G (ct_xq_clash l np nd) ⟨vm_60, vm_61, vm_57, ⟨by decide +kernel, by decide +kernel, by decide +kernel⟩, ⟨by decide, by decide⟩, rfl, rfl⟩ vm_62 vm_63 rfl (show decode b_xm_landWrites 11 = .ok (.invokevirtual 119, 3) by decide +kernel), ?_⟩
  refine List.forall_mem_cons.mpr ⟨mx_ok_if_eq (show decode b_xm_landWrites 14 = .ok (.ifCond .eq 11, 3) by decide +kernel) (by decide), ?_⟩
  refine List.forall_mem_cons.mpr ⟨mx_ok_aload_n (show decode b_xm_landWrites 17 = .ok (.aload_n 0, 1) by decide +kernel) rfl, ?_⟩
  refine List.forall_mem_cons.mpr ⟨mx_ok_iconst (show decode b_xm_landWrites 18 = .ok (.iconst 5, 1) by decide +kernel) (by decide), ?_⟩
  refine List.forall_mem_cons.mpr ⟨mx_ok_putf fd_xm_41 fw_0_5 (show decode b_xm_landWrites 19 = .ok (.putfield 41, 3) by decide +kernel), ?_⟩
  refine List.forall_mem_cons.mpr ⟨mx_ok_goto (show decode b_xm_landWrites 22 = .ok (.goto 14, 3) by decide +kernel) (by decide), ?_⟩
  refine List.forall_mem_cons.mpr ⟨mx_ok_aload_n (show decode b_xm_landWrites 25 = .ok (.aload_n 0, 1) by decide +kernel) rfl, ?_⟩
  refine List.forall_mem_cons.mpr ⟨mx_ok_getf fd_xm_26 (show decode b_xm_landWrites 26 = .ok (.getfield 26, 3) by decide +kernel), ?_⟩
  refine List.forall_mem_cons.mpr ⟨mx_ok_aload_n (show decode b_xm_landWrites 29 = .ok (.aload_n 0, 1) by decide +kernel) rfl, ?_⟩
  refine List.forall_mem_cons.mpr ⟨mx_ok_getf fd_xm_20 (show decode b_xm_landWrites 30 = .ok (.getfield 20, 3) by decide +kernel), ?_⟩
  refine List.forall_mem_cons.mpr ⟨mx_ok_invV vw_G (ct_xq_land l np nd) ⟨vm_65, vm_66, vm_57, ⟨by decide +kernel, by decide +kernel, by decide +kernel⟩, ⟨by decide, by decide⟩, rfl, rfl⟩ vm_67 vm_68 rfl (show decode b_xm_landWrites 33 = .ok (.invokevirtual 123, 3) by decide +kernel), ?_⟩
  refine List.forall_mem_cons.mpr ⟨mx_ok_vret (show decode b_xm_landWrites 36 = .ok (.return_, 1) by decide +kernel) rfl, ?_⟩
  exact fun _ h => absurd h List.not_mem_nil
set_option maxRecDepth 100000 in
set_option maxHeartbeats 4000000 in
theorem ct_xm_landWrites (l : Launch) (np nd : Nat) : mx_Ct l vw_T vw_cl (kx np nd) { frames := 1, cells := 0, slots := 0, locals := 23 } y_xm_landWrites b_xm_landWrites 1 none (pre_xm_landWrites np nd) (fn_xm_landWrites np nd) := by
  refine mx_ct_of (tb_xm_landWrites np nd ) (by decide) (ok_xm_landWrites l np nd ) (fun as u h => by obtain ⟨rfl, -⟩ := h; exact Nat.le_of_ble_eq_true rfl) ?_
  intro as u hpre At hc hw
  obtain ⟨rfl, hp⟩ := hpre
  exact hc 200 [] _ _ _ _ (
    And.intro rfl (
    And.intro ⟨rfl, hp.1⟩ (
    And.intro rfl (
    And.intro ⟨rfl, hp.2.1⟩ (
    And.intro (fun h14 => 
     And.intro rfl (
     And.intro ⟨rfl, (hp.2.2.1 h14)⟩ (
     congrArg (fun z : mx_S => ((none, z) : Option mx_V × mx_S)) (show (xq_land (xq_comeNearer u)) = (xm_landWrites u) from ((xm_landWrites_eq u).trans (if_pos h14)).symm)))) (fun h14 => 
     And.intro rfl (
     congrArg (fun z : mx_S => ((none, z) : Option mx_V × mx_S)) (show (mx_sf (xq_comeNearer u) 0 5 5) = (xm_landWrites u) from ((xm_landWrites_eq u).trans (if_neg h14)).symm))))))))
/-! WideMachine.takeBranch()V -/
noncomputable def xm_takeBranch_b (u : mx_S) : mx_S :=
  if (xb_arrived (xb_comeNearer u)) ≤ 1 then
   if (xb_arrived (xb_comeNearer u)) = 1 then
    (mx_sf (xb_takeFirst_s (xb_comeNearer u)) 0 6 (xb_takeFirst (xb_comeNearer u)))
   else
    (xb_comeNearer u)
  else
   (mx_sf (xb_comeNearer u) 0 5 6)
theorem xm_takeBranch_ex : ∃ f : mx_S → (mx_S), f = xm_takeBranch_b := ⟨_, rfl⟩
noncomputable def xm_takeBranch : mx_S → (mx_S) := Classical.choose xm_takeBranch_ex
theorem xm_takeBranch_eq (u : mx_S) : (xm_takeBranch u) = (xm_takeBranch_b u) := by rw [show xm_takeBranch = xm_takeBranch_b from Classical.choose_spec xm_takeBranch_ex]
def q_xm_takeBranch (np nd : Nat) (u : mx_S) : Prop :=
  ((q_xb_comeNearer np nd u)) ∧ (
   ((q_xb_arrived np nd (xb_comeNearer u))) ∧ (
    (((xb_arrived (xb_comeNearer u)) ≤ 1) → 
     ((¬ ((xb_arrived (xb_comeNearer u)) = 1)) → 
      True) ∧ (((xb_arrived (xb_comeNearer u)) = 1) → 
      ((q_xb_takeFirst np nd (xb_comeNearer u))))) ∧ ((¬ ((xb_arrived (xb_comeNearer u)) ≤ 1)) → 
     True)))
def pre_xm_takeBranch (np nd : Nat) : List mx_V → mx_S → Prop := fun as u => as = [.inr (.inr 0)] ∧ q_xm_takeBranch np nd u
noncomputable def fn_xm_takeBranch (np nd : Nat) : mx_F := fun as u => match as with
  | [_] => (none, (xm_takeBranch u))
  | _ => (none, u)
noncomputable def tb_xm_takeBranch (np nd : Nat) : List (Nat × mx_T) := [
  (0, mx_aload_n 0 0),
  (1, mx_getf (kx np nd) 0 4 1),
  (4, mx_invV (kx np nd) 2 0 (pre_xb_comeNearer np nd) (fn_xb_comeNearer np nd) 4),
  (7, mx_aload_n 0 7),
  (8, mx_getf (kx np nd) 0 4 8),
  (11, mx_invV (kx np nd) 2 0 (pre_xb_arrived np nd) (fn_xb_arrived np nd) 11),
  (14, mx_istore_n 1 14),
  (15, mx_iload_n 1 15),
  (16, mx_iconst 1 16),
  (17, mx_icmp_le 29 17),
  (20, mx_aload_n 0 20),
  (21, mx_bipush 6 21),
  (23, mx_putf (kx np nd) 0 5 23),
  (26, mx_goto 45 26),
  (29, mx_iload_n 1 29),
  (30, mx_iconst 1 30),
  (31, mx_icmp_ne 45 31),
  (34, mx_aload_n 0 34),
  (35, mx_aload_n 0 35),
  (36, mx_getf (kx np nd) 0 4 36),
  (39, mx_invV (kx np nd) 2 0 (pre_xb_takeFirst np nd) (fn_xb_takeFirst np nd) 39),
  (42, mx_putf (kx np nd) 0 6 42),
  (45, mx_vret 45)]
set_option maxRecDepth 100000 in
set_option maxHeartbeats 4000000 in
theorem ok_xm_takeBranch (l : Launch) (np nd : Nat) : ∀ q ∈ tb_xm_takeBranch np nd , mx_Ok l ({ frames := 1, cells := 0, slots := 0, locals := 22 } : Room) b_xm_takeBranch 2 "WideMachine" none vw_T vw_cl (kx np nd) q.1 q.2 := by
  refine List.forall_mem_cons.mpr ⟨mx_ok_aload_n (show decode b_xm_takeBranch 0 = .ok (.aload_n 0, 1) by decide +kernel) rfl, ?_⟩
  refine List.forall_mem_cons.mpr ⟨mx_ok_getf fd_xm_33 (show decode b_xm_takeBranch 1 = .ok (.getfield 33, 3) by decide +kernel), ?_⟩
  refine List.forall_mem_cons.mpr ⟨mx_ok_invV vw_G (ct_xb_comeNearer l np nd) ⟨vm_73, vm_74, vm_75, ⟨by decide +kernel, by decide +kernel, by decide +kernel⟩, ⟨by decide, by decide⟩, rfl, rfl⟩ vm_76 vm_77 rfl (show decode b_xm_takeBranch 4 = .ok (.invokevirtual 127, 3) by decide +kernel), ?_⟩
  refine List.forall_mem_cons.mpr ⟨mx_ok_aload_n (show decode b_xm_takeBranch 7 = .ok (.aload_n 0, 1) by decide +kernel) rfl, ?_⟩
  refine List.forall_mem_cons.mpr ⟨mx_ok_getf fd_xm_33 (show decode b_xm_takeBranch 8 = .ok (.getfield 33, 3) by decide +kernel), ?_⟩
  refine List.forall_mem_cons.mpr ⟨mx_ok_invV vw_G (ct_xb_arrived l np nd) ⟨vm_78, vm_79, vm_75, ⟨by decide +kernel, by decide +kernel, by decide +kernel⟩, ⟨by decide, by decide⟩, rfl, rfl⟩ vm_80 vm_81 rfl (show decode b_xm_takeBranch 11 = .ok (.invokevirtual 128, 3) by decide +kernel), ?_⟩
  refine List.forall_mem_cons.mpr ⟨mx_ok_istore_n (show decode b_xm_takeBranch 14 = .ok (.istore_n 1, 1) by decide +kernel) rfl (by decide), ?_⟩
  refine List.forall_mem_cons.mpr ⟨mx_ok_iload_n (show decode b_xm_takeBranch 15 = .ok (.iload_n 1, 1) by decide +kernel) rfl, ?_⟩
  refine List.forall_mem_cons.mpr ⟨mx_ok_iconst (show decode b_xm_takeBranch 16 = .ok (.iconst 1, 1) by decide +kernel) (by decide), ?_⟩
  refine List.forall_mem_cons.mpr ⟨mx_ok_icmp_le (show decode b_xm_takeBranch 17 = .ok (.if_icmp .le 12, 3) by decide +kernel) (by decide), ?_⟩
  refine List.forall_mem_cons.mpr ⟨mx_ok_aload_n (show decode b_xm_takeBranch 20 = .ok (.aload_n 0, 1) by decide +kernel) rfl, ?_⟩
  refine List.forall_mem_cons.mpr ⟨mx_ok_bipush (show decode b_xm_takeBranch 21 = .ok (.bipush 6, 2) by decide +kernel) (by decide), ?_⟩
  refine List.forall_mem_cons.mpr ⟨mx_ok_putf fd_xm_41 fw_0_5 (show decode b_xm_takeBranch 23 = .ok (.putfield 41, 3) by decide +kernel), ?_⟩
  refine List.forall_mem_cons.mpr ⟨mx_ok_goto (show decode b_xm_takeBranch 26 = .ok (.goto 19, 3) by decide +kernel) (by decide), ?_⟩
  refine List.forall_mem_cons.mpr ⟨mx_ok_iload_n (show decode b_xm_takeBranch 29 = .ok (.iload_n 1, 1) by decide +kernel) rfl, ?_⟩
  refine List.forall_mem_cons.mpr ⟨mx_ok_iconst (show decode b_xm_takeBranch 30 = .ok (.iconst 1, 1) by decide +kernel) (by decide), ?_⟩
  refine List.forall_mem_cons.mpr ⟨mx_ok_icmp_ne (show decode b_xm_takeBranch 31 = .ok (.if_icmp .ne 14, 3) by decide +kernel) (by decide), ?_⟩
  refine List.forall_mem_cons.mpr ⟨mx_ok_aload_n (show decode b_xm_takeBranch 34 = .ok (.aload_n 0, 1) by decide +kernel) rfl, ?_⟩
  refine List.forall_mem_cons.mpr ⟨mx_ok_aload_n (show decode b_xm_takeBranch 35 = .ok (.aload_n 0, 1) by decide +kernel) rfl, ?_⟩
  refine List.forall_mem_cons.mpr ⟨mx_ok_getf fd_xm_33 (show decode b_xm_takeBranch 36 = .ok (.getfield 33, 3) by decide +kernel), ?_⟩
  refine List.forall_mem_cons.mpr ⟨mx_ok_invV vw_G (ct_xb_takeFirst l np nd) ⟨vm_82, vm_83, vm_75, ⟨by decide +kernel, by decide +kernel, by decide +kernel⟩, ⟨by decide, by decide⟩, rfl, rfl⟩ vm_84 vm_85 rfl (show decode b_xm_takeBranch 39 = .ok (.invokevirtual 131, 3) by decide +kernel), ?_⟩
  refine List.forall_mem_cons.mpr ⟨mx_ok_putf fd_xm_48 fw_0_6 (show decode b_xm_takeBranch 42 = .ok (.putfield 48, 3) by decide +kernel), ?_⟩
  refine List.forall_mem_cons.mpr ⟨mx_ok_vret (show decode b_xm_takeBranch 45 = .ok (.return_, 1) by decide +kernel) rfl, ?_⟩
  exact fun _ h => absurd h List.not_mem_nil
set_option maxRecDepth 100000 in
set_option maxHeartbeats 4000000 in
theorem ct_xm_takeBranch (l : Launch) (np nd : Nat) : mx_Ct l vw_T vw_cl (kx np nd) { frames := 1, cells := 0, slots := 0, locals := 22 } y_xm_takeBranch b_xm_takeBranch 2 none (pre_xm_takeBranch np nd) (fn_xm_takeBranch np nd) := by
  refine mx_ct_of (tb_xm_takeBranch np nd ) (by decide) (ok_xm_takeBranch l np nd ) (fun as u h => by obtain ⟨rfl, -⟩ := h; exact Nat.le_of_ble_eq_true rfl) ?_
  intro as u hpre At hc hw
  obtain ⟨rfl, hp⟩ := hpre
  exact hc 200 [] _ _ _ _ (
    And.intro rfl (
    And.intro ⟨rfl, hp.1⟩ (
    And.intro rfl (
    And.intro ⟨rfl, hp.2.1⟩ (
    And.intro (fun h17 => 
     And.intro (fun h31 => 
      congrArg (fun z : mx_S => ((none, z) : Option mx_V × mx_S)) (show (xb_comeNearer u) = (xm_takeBranch u) from ((xm_takeBranch_eq u).trans ((if_pos h17).trans (if_neg h31))).symm)) (fun h31 => 
      And.intro rfl (
      And.intro ⟨rfl, ((hp.2.2.1 h17).2 h31)⟩ (
      And.intro rfl (
      congrArg (fun z : mx_S => ((none, z) : Option mx_V × mx_S)) (show (mx_sf (xb_takeFirst_s (xb_comeNearer u)) 0 6 (xb_takeFirst (xb_comeNearer u))) = (xm_takeBranch u) from ((xm_takeBranch_eq u).trans ((if_pos h17).trans (if_pos h31))).symm)))))) (fun h17 => 
     And.intro rfl (
     congrArg (fun z : mx_S => ((none, z) : Option mx_V × mx_S)) (show (mx_sf (xb_comeNearer u) 0 5 6) = (xm_takeBranch u) from ((xm_takeBranch_eq u).trans (if_neg h17)).symm))))))))
/-! WideMachine.takeInterrupt()V -/
noncomputable def xm_takeInterrupt_l20 : Nat → Int32 → mx_S → (mx_S)
  | 0, _, u => u
  | n + 1, v1, u =>
    if 4 ≤ v1 then
     u
    else
     if (xm_isRaised v1 u) = 0 then
      xm_takeInterrupt_l20 n (v1 + 1) u
     else
      (mx_sf (mx_sf (mx_sf (mx_sf u 0 10 ((mx_gf u 0 10) &&& (((1 : Int32) <<< (v1 &&& 31)) ^^^ ((-1) : Int32)))) 0 11 0) 0 9 (mx_gf (mx_sf (mx_sf u 0 10 ((mx_gf u 0 10) &&& (((1 : Int32) <<< (v1 &&& 31)) ^^^ ((-1) : Int32)))) 0 11 0) 0 6)) 0 6 (((8 : Int32) * v1) + (8 : Int32)))
def q_xm_takeInterrupt_l20 (np nd : Nat) : Nat → Int32 → mx_S → Prop
  | 0, _, _ => False
  | n + 1, v1, u =>
    ((4 ≤ v1) → 
     True) ∧ ((¬ (4 ≤ v1)) → 
     (((xm_isRaised v1 u) = 0) → 
      q_xm_takeInterrupt_l20 np nd n (v1 + 1) u) ∧ ((¬ ((xm_isRaised v1 u) = 0)) → 
      True))
noncomputable def xm_takeInterrupt_b (u : mx_S) : mx_S :=
  if (mx_gf u 0 11) = 0 then
   u
  else
   if (mx_gf u 8 2) ≤ 0 then
    xm_takeInterrupt_l20 20 0 u
   else
    u
theorem xm_takeInterrupt_ex : ∃ f : mx_S → (mx_S), f = xm_takeInterrupt_b := ⟨_, rfl⟩
noncomputable def xm_takeInterrupt : mx_S → (mx_S) := Classical.choose xm_takeInterrupt_ex
theorem xm_takeInterrupt_eq (u : mx_S) : (xm_takeInterrupt u) = (xm_takeInterrupt_b u) := by rw [show xm_takeInterrupt = xm_takeInterrupt_b from Classical.choose_spec xm_takeInterrupt_ex]
def q_xm_takeInterrupt (np nd : Nat) (u : mx_S) : Prop :=
  (((mx_gf u 0 11) = 0) → 
   True) ∧ ((¬ ((mx_gf u 0 11) = 0)) → 
   (((mx_gf u 8 2) ≤ 0) → 
    q_xm_takeInterrupt_l20 np nd 20 0 u) ∧ ((¬ ((mx_gf u 8 2) ≤ 0)) → 
    True))
def pre_xm_takeInterrupt (np nd : Nat) : List mx_V → mx_S → Prop := fun as u => as = [.inr (.inr 0)] ∧ q_xm_takeInterrupt np nd u
noncomputable def fn_xm_takeInterrupt (np nd : Nat) : mx_F := fun as u => match as with
  | [_] => (none, (xm_takeInterrupt u))
  | _ => (none, u)
noncomputable def tb_xm_takeInterrupt (np nd : Nat) : List (Nat × mx_T) := [
  (0, mx_aload_n 0 0),
  (1, mx_getf (kx np nd) 0 11 1),
  (4, mx_if_eq 17 4),
  (7, mx_aload_n 0 7),
  (8, mx_getf (kx np nd) 0 4 8),
  (11, mx_getf (kx np nd) 2 2 11),
  (14, mx_if_le 18 14),
  (17, mx_vret 17),
  (18, mx_iconst 0 18),
  (19, mx_istore_n 1 19),
  (20, mx_iload_n 1 20),
  (21, mx_iconst 4 21),
  (22, mx_icmp_ge 78 22),
  (25, mx_aload_n 0 25),
  (26, mx_iload_n 1 26),
  (27, mx_invV (kx np nd) 0 1 (pre_xm_isRaised np nd) (fn_xm_isRaised np nd) 27),
  (30, mx_if_eq 72 30),
  (33, mx_aload_n 0 33),
  (34, mx_dup 34),
  (35, mx_getf (kx np nd) 0 10 35),
  (38, mx_iconst 1 38),
  (39, mx_iload_n 1 39),
  (40, mx_ishl 40),
  (41, mx_iconst (-1) 41),
  (42, mx_ixor 42),
  (43, mx_iand 43),
  (44, mx_putf (kx np nd) 0 10 44),
  (47, mx_aload_n 0 47),
  (48, mx_iconst 0 48),
  (49, mx_putz (kx np nd) 0 11 49),
  (52, mx_aload_n 0 52),
  (53, mx_aload_n 0 53),
  (54, mx_getf (kx np nd) 0 6 54),
  (57, mx_putf (kx np nd) 0 9 57),
  (60, mx_aload_n 0 60),
  (61, mx_bipush 8 61),
  (63, mx_iload_n 1 63),
  (64, mx_imul 64),
  (65, mx_bipush 8 65),
  (67, mx_iadd 67),
  (68, mx_putf (kx np nd) 0 6 68),
  (71, mx_vret 71),
  (72, mx_iinc 1 1 72),
  (75, mx_goto 20 75),
  (78, mx_vret 78)]
set_option maxRecDepth 100000 in
set_option maxHeartbeats 4000000 in
theorem ok_xm_takeInterrupt (l : Launch) (np nd : Nat) : ∀ q ∈ tb_xm_takeInterrupt np nd , mx_Ok l ({ frames := 1, cells := 0, slots := 0, locals := 21 } : Room) b_xm_takeInterrupt 2 "WideMachine" none vw_T vw_cl (kx np nd) q.1 q.2 := by
  refine List.forall_mem_cons.mpr ⟨mx_ok_aload_n (show decode b_xm_takeInterrupt 0 = .ok (.aload_n 0, 1) by decide +kernel) rfl, ?_⟩
  refine List.forall_mem_cons.mpr ⟨mx_ok_getf fd_xm_64 (show decode b_xm_takeInterrupt 1 = .ok (.getfield 64, 3) by decide +kernel), ?_⟩
  refine List.forall_mem_cons.mpr ⟨mx_ok_if_eq (show decode b_xm_takeInterrupt 4 = .ok (.ifCond .eq 13, 3) by decide +kernel) (by decide), ?_⟩
  refine List.forall_mem_cons.mpr ⟨mx_ok_aload_n (show decode b_xm_takeInterrupt 7 = .ok (.aload_n 0, 1) by decide +kernel) rfl, ?_⟩
  refine List.forall_mem_cons.mpr ⟨mx_ok_getf fd_xm_33 (show decode b_xm_takeInterrupt 8 = .ok (.getfield 33, 3) by decide +kernel), ?_⟩
  refine List.forall_mem_cons.mpr ⟨mx_ok_getf fd_xm_57 (show decode b_xm_takeInterrupt 11 = .ok (.getfield 57, 3) by decide +kernel), ?_⟩
  refine List.forall_mem_cons.mpr ⟨mx_ok_if_le (show decode b_xm_takeInterrupt 14 = .ok (.ifCond .le 4, 3) by decide +kernel) (by decide), ?_⟩
  refine List.forall_mem_cons.mpr ⟨mx_ok_vret (show decode b_xm_takeInterrupt 17 = .ok (.return_, 1) by decide +kernel) rfl, ?_⟩
  refine List.forall_mem_cons.mpr ⟨mx_ok_iconst (show decode b_xm_takeInterrupt 18 = .ok (.iconst 0, 1) by decide +kernel) (by decide), ?_⟩
  refine List.forall_mem_cons.mpr ⟨mx_ok_istore_n (show decode b_xm_takeInterrupt 19 = .ok (.istore_n 1, 1) by decide +kernel) rfl (by decide), ?_⟩
  refine List.forall_mem_cons.mpr ⟨mx_ok_iload_n (show decode b_xm_takeInterrupt 20 = .ok (.iload_n 1, 1) by decide +kernel) rfl, ?_⟩
  refine List.forall_mem_cons.mpr ⟨mx_ok_iconst (show decode b_xm_takeInterrupt 21 = .ok (.iconst 4, 1) by decide +kernel) (by decide), ?_⟩
  refine List.forall_mem_cons.mpr ⟨mx_ok_icmp_ge (show decode b_xm_takeInterrupt 22 = .ok (.if_icmp .ge 56, 3) by decide +kernel) (by decide), ?_⟩
  refine List.forall_mem_cons.mpr ⟨mx_ok_aload_n (show decode b_xm_takeInterrupt 25 = .ok (.aload_n 0, 1) by decide +kernel) rfl, ?_⟩
  refine List.forall_mem_cons.mpr ⟨mx_ok_iload_n (show decode b_xm_takeInterrupt 26 = .ok (.iload_n 1, 1) by decide +kernel) rfl, ?_⟩
  refine List.forall_mem_cons.mpr ⟨mx_ok_invV vw_G (ct_xm_isRaised l np nd) ⟨vm_90, vm_91, vm_46, ⟨by decide +kernel, by decide +kernel, by decide +kernel⟩, ⟨by decide, by decide⟩, rfl, rfl⟩ vm_92 vm_93 rfl (show decode b_xm_takeInterrupt 27 = .ok (.invokevirtual 80, 3) by decide +kernel), ?_⟩
  refine List.forall_mem_cons.mpr ⟨mx_ok_if_eq (show decode b_xm_takeInterrupt 30 = .ok (.ifCond .eq 42, 3) by decide +kernel) (by decide), ?_⟩
  refine List.forall_mem_cons.mpr ⟨mx_ok_aload_n (show decode b_xm_takeInterrupt 33 = .ok (.aload_n 0, 1) by decide +kernel) rfl, ?_⟩
  refine List.forall_mem_cons.mpr ⟨mx_ok_dup (show decode b_xm_takeInterrupt 34 = .ok (.dup, 1) by decide +kernel), ?_⟩
  refine List.forall_mem_cons.mpr ⟨mx_ok_getf fd_xm_68 (show decode b_xm_takeInterrupt 35 = .ok (.getfield 68, 3) by decide +kernel), ?_⟩
  refine List.forall_mem_cons.mpr ⟨mx_ok_iconst (show decode b_xm_takeInterrupt 38 = .ok (.iconst 1, 1) by decide +kernel) (by decide), ?_⟩
  refine List.forall_mem_cons.mpr ⟨mx_ok_iload_n (show decode b_xm_takeInterrupt 39 = .ok (.iload_n 1, 1) by decide +kernel) rfl, ?_⟩
  refine List.forall_mem_cons.mpr ⟨mx_ok_ishl (show decode b_xm_takeInterrupt 40 = .ok (.ishl, 1) by decide +kernel), ?_⟩
  refine List.forall_mem_cons.mpr ⟨mx_ok_iconst (show decode b_xm_takeInterrupt 41 = .ok (.iconst (-1), 1) by decide +kernel) (by decide), ?_⟩
  refine List.forall_mem_cons.mpr ⟨mx_ok_ixor (show decode b_xm_takeInterrupt 42 = .ok (.ixor, 1) by decide +kernel), ?_⟩
  refine List.forall_mem_cons.mpr ⟨mx_ok_iand (show decode b_xm_takeInterrupt 43 = .ok (.iand, 1) by decide +kernel), ?_⟩
  refine List.forall_mem_cons.mpr ⟨mx_ok_putf fd_xm_68 fw_0_10 (show decode b_xm_takeInterrupt 44 = .ok (.putfield 68, 3) by decide +kernel), ?_⟩
  refine List.forall_mem_cons.mpr ⟨mx_ok_aload_n (show decode b_xm_takeInterrupt 47 = .ok (.aload_n 0, 1) by decide +kernel) rfl, ?_⟩
  refine List.forall_mem_cons.mpr ⟨mx_ok_iconst (show decode b_xm_takeInterrupt 48 = .ok (.iconst 0, 1) by decide +kernel) (by decide), ?_⟩
  refine List.forall_mem_cons.mpr ⟨mx_ok_putz fd_xm_64 fw_0_11 (show decode b_xm_takeInterrupt 49 = .ok (.putfield 64, 3) by decide +kernel), ?_⟩
  refine List.forall_mem_cons.mpr ⟨mx_ok_aload_n (show decode b_xm_takeInterrupt 52 = .ok (.aload_n 0, 1) by decide +kernel) rfl, ?_⟩
  refine List.forall_mem_cons.mpr ⟨mx_ok_aload_n (show decode b_xm_takeInterrupt 53 = .ok (.aload_n 0, 1) by decide +kernel) rfl, ?_⟩
  refine List.forall_mem_cons.mpr ⟨mx_ok_getf fd_xm_48 (show decode b_xm_takeInterrupt 54 = .ok (.getfield 48, 3) by decide +kernel), ?_⟩
  refine List.forall_mem_cons.mpr ⟨mx_ok_putf fd_xm_61 fw_0_9 (show decode b_xm_takeInterrupt 57 = .ok (.putfield 61, 3) by decide +kernel), ?_⟩
  refine List.forall_mem_cons.mpr ⟨mx_ok_aload_n (show decode b_xm_takeInterrupt 60 = .ok (.aload_n 0, 1) by decide +kernel) rfl, ?_⟩
  refine List.forall_mem_cons.mpr ⟨mx_ok_bipush (show decode b_xm_takeInterrupt 61 = .ok (.bipush 8, 2) by decide +kernel) (by decide), ?_⟩
  refine List.forall_mem_cons.mpr ⟨mx_ok_iload_n (show decode b_xm_takeInterrupt 63 = .ok (.iload_n 1, 1) by decide +kernel) rfl, ?_⟩
  refine List.forall_mem_cons.mpr ⟨mx_ok_imul (show decode b_xm_takeInterrupt 64 = .ok (.imul, 1) by decide +kernel), ?_⟩
  refine List.forall_mem_cons.mpr ⟨mx_ok_bipush (show decode b_xm_takeInterrupt 65 = .ok (.bipush 8, 2) by decide +kernel) (by decide), ?_⟩
  refine List.forall_mem_cons.mpr ⟨mx_ok_iadd (show decode b_xm_takeInterrupt 67 = .ok (.iadd, 1) by decide +kernel), ?_⟩
  refine List.forall_mem_cons.mpr ⟨mx_ok_putf fd_xm_48 fw_0_6 (show decode b_xm_takeInterrupt 68 = .ok (.putfield 48, 3) by decide +kernel), ?_⟩
  refine List.forall_mem_cons.mpr ⟨mx_ok_vret (show decode b_xm_takeInterrupt 71 = .ok (.return_, 1) by decide +kernel) rfl, ?_⟩
  refine List.forall_mem_cons.mpr ⟨mx_ok_iinc (show decode b_xm_takeInterrupt 72 = .ok (.iinc 1 1, 3) by decide +kernel) (by decide) (by decide), ?_⟩
  refine List.forall_mem_cons.mpr ⟨mx_ok_goto (show decode b_xm_takeInterrupt 75 = .ok (.goto (-55), 3) by decide +kernel) (by decide), ?_⟩
  refine List.forall_mem_cons.mpr ⟨mx_ok_vret (show decode b_xm_takeInterrupt 78 = .ok (.return_, 1) by decide +kernel) rfl, ?_⟩
  exact fun _ h => absurd h List.not_mem_nil
set_option maxRecDepth 100000 in
set_option maxHeartbeats 4000000 in
theorem ct_xm_takeInterrupt (l : Launch) (np nd : Nat) : mx_Ct l vw_T vw_cl (kx np nd) { frames := 1, cells := 0, slots := 0, locals := 21 } y_xm_takeInterrupt b_xm_takeInterrupt 2 none (pre_xm_takeInterrupt np nd) (fn_xm_takeInterrupt np nd) := by
  refine mx_ct_of (tb_xm_takeInterrupt np nd ) (by decide) (ok_xm_takeInterrupt l np nd ) (fun as u h => by obtain ⟨rfl, -⟩ := h; exact Nat.le_of_ble_eq_true rfl) ?_
  intro as u hpre At hc hw
  obtain ⟨rfl, hp⟩ := hpre
  obtain ⟨RES, hRES⟩ : ∃ z, z = (xm_takeInterrupt u) := ⟨_, rfl⟩
  have hfn : fn_xm_takeInterrupt np nd [.inr (.inr 0)] u = (none, RES) := by rw [hRES]; rfl
  rw [hfn] at hc
  have lp20 : ∀ (n20 : Nat) (v1 : Int32) (u : mx_S), q_xm_takeInterrupt_l20 np nd n20 v1 u → xm_takeInterrupt_l20 n20 v1 u = RES → At 20 [(1, .inl v1), (0, .inr (.inr 0))] [] u := by
    intro n20
    induction n20 with
    | zero =>
      intro v1 u hi he
      exact hi.elim
    | succ n20 ih20 =>
      intro v1 u hi20 he20
      exact hc 200 [20] _ _ _ _ (
        And.intro (fun h22 => 
         congrArg (fun z : mx_S => ((none, z) : Option mx_V × mx_S)) (show u = RES from (if_pos h22).symm.trans he20)) (fun h22 => 
         And.intro rfl (
         And.intro ⟨_, rfl, trivial⟩ (
         And.intro (fun h30 => 
          hw [0, 1] 20 _ [] _ (ih20 (v1 + 1) u ((hi20.2 h22).1 h30) (((if_neg h22).trans (if_pos h30)).symm.trans he20))) (fun h30 => 
          And.intro rfl (
          And.intro rfl (
          And.intro (Or.inl rfl) (
          And.intro rfl (
          And.intro rfl (
          congrArg (fun z : mx_S => ((none, z) : Option mx_V × mx_S)) (show (mx_sf (mx_sf (mx_sf (mx_sf u 0 10 ((mx_gf u 0 10) &&& (((1 : Int32) <<< (v1 &&& 31)) ^^^ ((-1) : Int32)))) 0 11 0) 0 9 (mx_gf (mx_sf (mx_sf u 0 10 ((mx_gf u 0 10) &&& (((1 : Int32) <<< (v1 &&& 31)) ^^^ ((-1) : Int32)))) 0 11 0) 0 6)) 0 6 (((8 : Int32) * v1) + (8 : Int32))) = RES from ((if_neg h22).trans (if_neg h30)).symm.trans he20)))))))))))
  exact hc 200 [20] _ _ _ _ (
    And.intro (fun h4 => 
     congrArg (fun z : mx_S => ((none, z) : Option mx_V × mx_S)) (show u = RES from ((xm_takeInterrupt_eq u).trans (if_pos h4)).symm.trans hRES.symm)) (fun h4 => 
     And.intro (fun h14 => 
      hw [0, 1] 20 _ [] _ (lp20 20 0 u ((hp.2 h4).1 h14) (((xm_takeInterrupt_eq u).trans ((if_neg h4).trans (if_pos h14))).symm.trans hRES.symm))) (fun h14 => 
      congrArg (fun z : mx_S => ((none, z) : Option mx_V × mx_S)) (show u = RES from ((xm_takeInterrupt_eq u).trans ((if_neg h4).trans (if_neg h14))).symm.trans hRES.symm))))
/-! WideMachine.goesBeyondData(I)Z -/
noncomputable def xm_goesBeyondData_l5 (np nd : Nat) (a1 : Int32) (u : mx_S) : Nat → Int32 → (Int32)
  | 0, _ => 0
  | n + 1, v2 =>
    if a1 ≤ v2 then
     0
    else
     if (xw_code (mx_ga u 1 (v2).toNatClampNeg) ) = 50 then
      if (xm_isConditionTrue (mx_ga u 1 (v2).toNatClampNeg) u) = 0 then
       xm_goesBeyondData_l5 np nd a1 u n (v2 + 1)
      else
       if (xm_isInData np nd (xm_dataAddress (mx_ga u 1 (v2).toNatClampNeg) u) ) = 0 then
        1
       else
        xm_goesBeyondData_l5 np nd a1 u n (v2 + 1)
     else
      if (xw_code (mx_ga u 1 (v2).toNatClampNeg) ) = 51 then
       if (xm_isConditionTrue (mx_ga u 1 (v2).toNatClampNeg) u) = 0 then
        xm_goesBeyondData_l5 np nd a1 u n (v2 + 1)
       else
        if (xm_isInData np nd (xm_dataAddress (mx_ga u 1 (v2).toNatClampNeg) u) ) = 0 then
         1
        else
         xm_goesBeyondData_l5 np nd a1 u n (v2 + 1)
      else
       xm_goesBeyondData_l5 np nd a1 u n (v2 + 1)
def q_xm_goesBeyondData_l5 (np nd : Nat) (a1 : Int32) (u : mx_S) : Nat → Int32 → Prop
  | 0, _ => False
  | n + 1, v2 =>
    ((a1 ≤ v2) → 
     True) ∧ ((¬ (a1 ≤ v2)) → 
     (vp_in v2 np) ∧ (
      (((xw_code (mx_ga u 1 (v2).toNatClampNeg) ) = 50) → 
       ((q_xm_isConditionTrue np nd (mx_ga u 1 (v2).toNatClampNeg) u)) ∧ (
        (((xm_isConditionTrue (mx_ga u 1 (v2).toNatClampNeg) u) = 0) → 
         q_xm_goesBeyondData_l5 np nd a1 u n (v2 + 1)) ∧ ((¬ ((xm_isConditionTrue (mx_ga u 1 (v2).toNatClampNeg) u) = 0)) → 
         ((¬ ((xm_isInData np nd (xm_dataAddress (mx_ga u 1 (v2).toNatClampNeg) u) ) = 0)) → 
          q_xm_goesBeyondData_l5 np nd a1 u n (v2 + 1)) ∧ (((xm_isInData np nd (xm_dataAddress (mx_ga u 1 (v2).toNatClampNeg) u) ) = 0) → 
          True)))) ∧ ((¬ ((xw_code (mx_ga u 1 (v2).toNatClampNeg) ) = 50)) → 
       ((¬ ((xw_code (mx_ga u 1 (v2).toNatClampNeg) ) = 51)) → 
        q_xm_goesBeyondData_l5 np nd a1 u n (v2 + 1)) ∧ (((xw_code (mx_ga u 1 (v2).toNatClampNeg) ) = 51) → 
        ((q_xm_isConditionTrue np nd (mx_ga u 1 (v2).toNatClampNeg) u)) ∧ (
         (((xm_isConditionTrue (mx_ga u 1 (v2).toNatClampNeg) u) = 0) → 
          q_xm_goesBeyondData_l5 np nd a1 u n (v2 + 1)) ∧ ((¬ ((xm_isConditionTrue (mx_ga u 1 (v2).toNatClampNeg) u) = 0)) → 
          ((¬ ((xm_isInData np nd (xm_dataAddress (mx_ga u 1 (v2).toNatClampNeg) u) ) = 0)) → 
           q_xm_goesBeyondData_l5 np nd a1 u n (v2 + 1)) ∧ (((xm_isInData np nd (xm_dataAddress (mx_ga u 1 (v2).toNatClampNeg) u) ) = 0) → 
           True)))))))
noncomputable def xm_goesBeyondData_b (np nd : Nat) (a1 : Int32) (u : mx_S) : Int32 :=
  xm_goesBeyondData_l5 np nd a1 u 20 (mx_gf u 0 6)
theorem xm_goesBeyondData_ex : ∃ f : Nat → Nat → Int32 → mx_S → (Int32), f = xm_goesBeyondData_b := ⟨_, rfl⟩
noncomputable def xm_goesBeyondData : Nat → Nat → Int32 → mx_S → (Int32) := Classical.choose xm_goesBeyondData_ex
theorem xm_goesBeyondData_eq (np nd : Nat) (a1 : Int32) (u : mx_S) : (xm_goesBeyondData np nd a1 u) = (xm_goesBeyondData_b np nd a1 u) := by rw [show xm_goesBeyondData = xm_goesBeyondData_b from Classical.choose_spec xm_goesBeyondData_ex]
def q_xm_goesBeyondData (np nd : Nat) (a1 : Int32) (u : mx_S) : Prop :=
  q_xm_goesBeyondData_l5 np nd a1 u 20 (mx_gf u 0 6)
def pre_xm_goesBeyondData (np nd : Nat) : List mx_V → mx_S → Prop := fun as u => ∃ (a1 : Int32), as = [.inr (.inr 0), .inl a1] ∧ q_xm_goesBeyondData np nd a1 u
noncomputable def fn_xm_goesBeyondData (np nd : Nat) : mx_F := fun as u => match as with
  | [_, .inl a1] => mx_rI u (xm_goesBeyondData np nd a1 u)
  | _ => (none, u)
noncomputable def tb_xm_goesBeyondData (np nd : Nat) : List (Nat × mx_T) := [
  (0, mx_aload_n 0 0),
  (1, mx_getf (kx np nd) 0 6 1),
  (4, mx_istore_n 2 4),
  (5, mx_iload_n 2 5),
  (6, mx_iload_n 1 6),
  (7, mx_icmp_ge 77 7),
  (10, mx_aload_n 0 10),
  (11, mx_getf (kx np nd) 0 0 11),
  (14, mx_iload_n 2 14),
  (15, mx_iald (kx np nd) 15),
  (16, mx_istore_n 3 16),
  (17, mx_iload_n 3 17),
  (18, mx_invS 1 (pre_xw_code np nd) (fn_xw_code np nd) 18),
  (21, mx_istore 4 21),
  (23, mx_iload 4 23),
  (25, mx_bipush 50 25),
  (27, mx_icmp_eq 37 27),
  (30, mx_iload 4 30),
  (32, mx_bipush 51 32),
  (34, mx_icmp_ne 41 34),
  (37, mx_iconst 1 37),
  (38, mx_goto 42 38),
  (41, mx_iconst 0 41),
  (42, mx_istore 5 42),
  (44, mx_iload 5 44),
  (46, mx_if_eq 71 46),
  (49, mx_aload_n 0 49),
  (50, mx_iload_n 3 50),
  (51, mx_invV (kx np nd) 0 1 (pre_xm_isConditionTrue np nd) (fn_xm_isConditionTrue np nd) 51),
  (54, mx_if_eq 71 54),
  (57, mx_aload_n 0 57),
  (58, mx_aload_n 0 58),
  (59, mx_iload_n 3 59),
  (60, mx_invV (kx np nd) 0 1 (pre_xm_dataAddress np nd) (fn_xm_dataAddress np nd) 60),
  (63, mx_invV (kx np nd) 0 1 (pre_xm_isInData np nd) (fn_xm_isInData np nd) 63),
  (66, mx_if_ne 71 66),
  (69, mx_iconst 1 69),
  (70, mx_zret 70),
  (71, mx_iinc 2 1 71),
  (74, mx_goto 5 74),
  (77, mx_iconst 0 77),
  (78, mx_zret 78)]
set_option maxRecDepth 100000 in
set_option maxHeartbeats 4000000 in
theorem ok_xm_goesBeyondData (l : Launch) (np nd : Nat) : ∀ q ∈ tb_xm_goesBeyondData np nd , mx_Ok l ({ frames := 3, cells := 0, slots := 0, locals := 62 } : Room) b_xm_goesBeyondData 6 "WideMachine" (some .boolean) vw_T vw_cl (kx np nd) q.1 q.2 := by
  refine List.forall_mem_cons.mpr ⟨mx_ok_aload_n (show decode b_xm_goesBeyondData 0 = .ok (.aload_n 0, 1) by decide +kernel) rfl, ?_⟩
  refine List.forall_mem_cons.mpr ⟨mx_ok_getf fd_xm_48 (show decode b_xm_goesBeyondData 1 = .ok (.getfield 48, 3) by decide +kernel), ?_⟩
  refine List.forall_mem_cons.mpr ⟨mx_ok_istore_n (show decode b_xm_goesBeyondData 4 = .ok (.istore_n 2, 1) by decide +kernel) rfl (by decide), ?_⟩
  refine List.forall_mem_cons.mpr ⟨mx_ok_iload_n (show decode b_xm_goesBeyondData 5 = .ok (.iload_n 2, 1) by decide +kernel) rfl, ?_⟩
  refine List.forall_mem_cons.mpr ⟨mx_ok_iload_n (show decode b_xm_goesBeyondData 6 = .ok (.iload_n 1, 1) by decide +kernel) rfl, ?_⟩
  refine List.forall_mem_cons.mpr ⟨mx_ok_icmp_ge (show decode b_xm_goesBeyondData 7 = .ok (.if_icmp .ge 70, 3) by decide +kernel) (by decide), ?_⟩
  refine List.forall_mem_cons.mpr ⟨mx_ok_aload_n (show decode b_xm_goesBeyondData 10 = .ok (.aload_n 0, 1) by decide +kernel) rfl, ?_⟩
  refine List.forall_mem_cons.mpr ⟨mx_ok_getf fd_xm_13 (show decode b_xm_goesBeyondData 11 = .ok (.getfield 13, 3) by decide +kernel), ?_⟩
  refine List.forall_mem_cons.mpr ⟨mx_ok_iload_n (show decode b_xm_goesBeyondData 14 = .ok (.iload_n 2, 1) by decide +kernel) rfl, ?_⟩
  refine List.forall_mem_cons.mpr ⟨mx_ok_iald (show decode b_xm_goesBeyondData 15 = .ok (.iaload, 1) by decide +kernel), ?_⟩
  refine List.forall_mem_cons.mpr ⟨mx_ok_istore_n (show decode b_xm_goesBeyondData 16 = .ok (.istore_n 3, 1) by decide +kernel) rfl (by decide), ?_⟩
  refine List.forall_mem_cons.mpr ⟨mx_ok_iload_n (show decode b_xm_goesBeyondData 17 = .ok (.iload_n 3, 1) by decide +kernel) rfl, ?_⟩
  refine List.forall_mem_cons.mpr ⟨mx_ok_invS vw_G (ct_xw_code l np nd) ⟨vm_159, vm_100, vm_97, ⟨by decide +kernel, by decide +kernel, by decide +kernel⟩, ⟨by decide, by decide⟩, rfl, rfl⟩ vm_101 (show decode b_xm_goesBeyondData 18 = .ok (.invokestatic 163, 3) by decide +kernel), ?_⟩
  refine List.forall_mem_cons.mpr ⟨mx_ok_istore (show decode b_xm_goesBeyondData 21 = .ok (.istore 4, 2) by decide +kernel) (by decide), ?_⟩
  refine List.forall_mem_cons.mpr ⟨mx_ok_iload (show decode b_xm_goesBeyondData 23 = .ok (.iload 4, 2) by decide +kernel), ?_⟩
  refine List.forall_mem_cons.mpr ⟨mx_ok_bipush (show decode b_xm_goesBeyondData 25 = .ok (.bipush 50, 2) by decide +kernel) (by decide), ?_⟩
  refine List.forall_mem_cons.mpr ⟨mx_ok_icmp_eq (show decode b_xm_goesBeyondData 27 = .ok (.if_icmp .eq 10, 3) by decide +kernel) (by decide), ?_⟩
  refine List.forall_mem_cons.mpr ⟨mx_ok_iload (show decode b_xm_goesBeyondData 30 = .ok (.iload 4, 2) by decide +kernel), ?_⟩
  refine List.forall_mem_cons.mpr ⟨mx_ok_bipush (show decode b_xm_goesBeyondData 32 = .ok (.bipush 51, 2) by decide +kernel) (by decide), ?_⟩
  refine List.forall_mem_cons.mpr ⟨mx_ok_icmp_ne (show decode b_xm_goesBeyondData 34 = .ok (.if_icmp .ne 7, 3) by decide +kernel) (by decide), ?_⟩
  refine List.forall_mem_cons.mpr ⟨mx_ok_iconst (show decode b_xm_goesBeyondData 37 = .ok (.iconst 1, 1) by decide +kernel) (by decide), ?_⟩
  refine List.forall_mem_cons.mpr ⟨mx_ok_goto (show decode b_xm_goesBeyondData 38 = .ok (.goto 4, 3) by decide +kernel) (by decide), ?_⟩
  refine List.forall_mem_cons.mpr ⟨mx_ok_iconst (show decode b_xm_goesBeyondData 41 = .ok (.iconst 0, 1) by decide +kernel) (by decide), ?_⟩
  refine List.forall_mem_cons.mpr ⟨mx_ok_istore (show decode b_xm_goesBeyondData 42 = .ok (.istore 5, 2) by decide +kernel) (by decide), ?_⟩
  refine List.forall_mem_cons.mpr ⟨mx_ok_iload (show decode b_xm_goesBeyondData 44 = .ok (.iload 5, 2) by decide +kernel), ?_⟩
  refine List.forall_mem_cons.mpr ⟨mx_ok_if_eq (show decode b_xm_goesBeyondData 46 = .ok (.ifCond .eq 25, 3) by decide +kernel) (by decide), ?_⟩
  refine List.forall_mem_cons.mpr ⟨mx_ok_aload_n (show decode b_xm_goesBeyondData 49 = .ok (.aload_n 0, 1) by decide +kernel) rfl, ?_⟩
  refine List.forall_mem_cons.mpr ⟨mx_ok_iload_n (show decode b_xm_goesBeyondData 50 = .ok (.iload_n 3, 1) by decide +kernel) rfl, ?_⟩
  refine List.forall_mem_cons.mpr ⟨mx_ok_invV vw_G (ct_xm_isConditionTrue l np nd) ⟨vm_160, vm_161, vm_46, ⟨by decide +kernel, by decide +kernel, by decide +kernel⟩, ⟨by decide, by decide⟩, rfl, rfl⟩ vm_162 vm_163 rfl (show decode b_xm_goesBeyondData 51 = .ok (.invokevirtual 166, 3) by decide +kernel), ?_⟩
  refine List.forall_mem_cons.mpr ⟨mx_ok_if_eq (show decode b_xm_goesBeyondData 54 = .ok (.ifCond .eq 17, 3) by decide +kernel) (by decide), ?_⟩
  refine List.forall_mem_cons.mpr ⟨mx_ok_aload_n (show decode b_xm_goesBeyondData 57 = .ok (.aload_n 0, 1) by decide +kernel) rfl, ?_⟩
  refine List.forall_mem_cons.mpr ⟨mx_ok_aload_n (show decode b_xm_goesBeyondData 58 = .ok (.aload_n 0, 1) by decide +kernel) rfl, ?_⟩
  refine List.forall_mem_cons.mpr ⟨mx_ok_iload_n (show decode b_xm_goesBeyondData 59 = .ok (.iload_n 3, 1) by decide +kernel) rfl, ?_⟩
  refine List.forall_mem_cons.mpr ⟨mx_ok_invV vw_G (ct_xm_dataAddress l np nd) ⟨vm_164, vm_165, vm_46, ⟨by decide +kernel, by decide +kernel, by decide +kernel⟩, ⟨by decide, by decide⟩, rfl, rfl⟩ vm_166 vm_167 rfl (show decode b_xm_goesBeyondData 60 = .ok (.invokevirtual 169, 3) by decide +kernel), ?_⟩
  refine List.forall_mem_cons.mpr ⟨mx_ok_invV vw_G (ct_xm_isInData l np nd) ⟨vm_44, vm_45, vm_46, ⟨by decide +kernel, by decide +kernel, by decide +kernel⟩, ⟨by decide, by decide⟩, rfl, rfl⟩ vm_47 vm_48 rfl (show decode b_xm_goesBeyondData 63 = .ok (.invokevirtual 37, 3) by decide +kernel), ?_⟩
  refine List.forall_mem_cons.mpr ⟨mx_ok_if_ne (show decode b_xm_goesBeyondData 66 = .ok (.ifCond .ne 5, 3) by decide +kernel) (by decide), ?_⟩
  refine List.forall_mem_cons.mpr ⟨mx_ok_iconst (show decode b_xm_goesBeyondData 69 = .ok (.iconst 1, 1) by decide +kernel) (by decide), ?_⟩
  refine List.forall_mem_cons.mpr ⟨mx_ok_zret (show decode b_xm_goesBeyondData 70 = .ok (.ireturn, 1) by decide +kernel) rfl, ?_⟩
  refine List.forall_mem_cons.mpr ⟨mx_ok_iinc (show decode b_xm_goesBeyondData 71 = .ok (.iinc 2 1, 3) by decide +kernel) (by decide) (by decide), ?_⟩
  refine List.forall_mem_cons.mpr ⟨mx_ok_goto (show decode b_xm_goesBeyondData 74 = .ok (.goto (-69), 3) by decide +kernel) (by decide), ?_⟩
  refine List.forall_mem_cons.mpr ⟨mx_ok_iconst (show decode b_xm_goesBeyondData 77 = .ok (.iconst 0, 1) by decide +kernel) (by decide), ?_⟩
  refine List.forall_mem_cons.mpr ⟨mx_ok_zret (show decode b_xm_goesBeyondData 78 = .ok (.ireturn, 1) by decide +kernel) rfl, ?_⟩
  exact fun _ h => absurd h List.not_mem_nil
set_option maxRecDepth 100000 in
set_option maxHeartbeats 4000000 in
theorem ct_xm_goesBeyondData (l : Launch) (np nd : Nat) : mx_Ct l vw_T vw_cl (kx np nd) { frames := 3, cells := 0, slots := 0, locals := 62 } y_xm_goesBeyondData b_xm_goesBeyondData 6 (some .boolean) (pre_xm_goesBeyondData np nd) (fn_xm_goesBeyondData np nd) := by
  refine mx_ct_of (tb_xm_goesBeyondData np nd ) (by decide) (ok_xm_goesBeyondData l np nd ) (fun as u h => by obtain ⟨_, rfl, -⟩ := h; exact Nat.le_of_ble_eq_true rfl) ?_
  intro as u hpre At hc hw
  obtain ⟨a1, rfl, hp⟩ := hpre
  obtain ⟨RES, hRES⟩ : ∃ z, z = (xm_goesBeyondData np nd a1 u) := ⟨_, rfl⟩
  have hfn : fn_xm_goesBeyondData np nd [.inr (.inr 0), .inl a1] u = mx_rI u RES := by rw [hRES]; rfl
  rw [hfn] at hc
  have lp5 : ∀ (n5 : Nat) (v2 : Int32), q_xm_goesBeyondData_l5 np nd a1 u n5 v2 → xm_goesBeyondData_l5 np nd a1 u n5 v2 = RES → At 5 [(2, .inl v2), (0, .inr (.inr 0)), (1, .inl a1)] [] u := by
    intro n5
    induction n5 with
    | zero =>
      intro v2 hi he
      exact hi.elim
    | succ n5 ih5 =>
      intro v2 hi5 he5
      exact hc 200 [5] _ _ _ _ (
        And.intro (fun h7 => 
         And.intro (Or.inl rfl) (
         congrArg (mx_rI u) (show 0 = RES from (if_pos h7).symm.trans he5))) (fun h7 => 
         And.intro ((hi5.2 h7).1) (
         And.intro rfl (
         And.intro ⟨_, rfl, trivial⟩ (
         And.intro (fun h27 => 
          And.intro (fun h46 => absurd h46 (by decide)) (fun h46 => 
           And.intro rfl (
           And.intro ⟨_, rfl, ((hi5.2 h7).2.1 h27).1⟩ (
           And.intro (fun h54 => 
            hw [0, 4, 5] 5 _ [] _ (ih5 (v2 + 1) (((hi5.2 h7).2.1 h27).2.1 h54) (((if_neg h7).trans ((if_pos h27).trans (if_pos h54))).symm.trans he5))) (fun h54 => 
            And.intro rfl (
            And.intro ⟨_, rfl, trivial⟩ (
            And.intro rfl (
            And.intro ⟨_, rfl, trivial⟩ (
            And.intro (fun h66 => 
             hw [0, 4, 5] 5 _ [] _ (ih5 (v2 + 1) ((((hi5.2 h7).2.1 h27).2.2 h54).1 h66) (((if_neg h7).trans ((if_pos h27).trans ((if_neg h54).trans (if_neg h66)))).symm.trans he5))) (fun h66 => 
             And.intro (Or.inr rfl) (
             congrArg (mx_rI u) (show 1 = RES from ((if_neg h7).trans ((if_pos h27).trans ((if_neg h54).trans (if_pos h66)))).symm.trans he5)))))))))))) (fun h27 => 
          And.intro (fun h34 => 
           And.intro (fun h46 => 
            hw [0, 4, 5] 5 _ [] _ (ih5 (v2 + 1) (((hi5.2 h7).2.2 h27).1 h34) (((if_neg h7).trans ((if_neg h27).trans (if_neg h34))).symm.trans he5))) (fun h46 => absurd h46 (by decide))) (fun h34 => 
           And.intro (fun h46 => absurd h46 (by decide)) (fun h46 => 
            And.intro rfl (
            And.intro ⟨_, rfl, (((hi5.2 h7).2.2 h27).2 h34).1⟩ (
            And.intro (fun h54 => 
             hw [0, 4, 5] 5 _ [] _ (ih5 (v2 + 1) ((((hi5.2 h7).2.2 h27).2 h34).2.1 h54) (((if_neg h7).trans ((if_neg h27).trans ((if_pos h34).trans (if_pos h54)))).symm.trans he5))) (fun h54 => 
             And.intro rfl (
             And.intro ⟨_, rfl, trivial⟩ (
             And.intro rfl (
             And.intro ⟨_, rfl, trivial⟩ (
             And.intro (fun h66 => 
              hw [0, 4, 5] 5 _ [] _ (ih5 (v2 + 1) (((((hi5.2 h7).2.2 h27).2 h34).2.2 h54).1 h66) (((if_neg h7).trans ((if_neg h27).trans ((if_pos h34).trans ((if_neg h54).trans (if_neg h66))))).symm.trans he5))) (fun h66 => 
              And.intro (Or.inr rfl) (
              congrArg (mx_rI u) (show 1 = RES from ((if_neg h7).trans ((if_neg h27).trans ((if_pos h34).trans ((if_neg h54).trans (if_pos h66))))).symm.trans he5))))))))))))))))))
  exact hc 200 [5] _ _ _ _ (
    hw [0, 1, 2] 5 _ [] _ (lp5 20 (mx_gf u 0 6) hp ((xm_goesBeyondData_eq np nd a1 u).symm.trans hRES.symm)))
/-! WideMachine.faultOfPacket(I)I -/
noncomputable def xm_faultOfPacket_b (np nd : Nat) (a1 : Int32) (u : mx_S) : Int32 :=
  if a1 = (-1) then
   if (mx_gf u 0 6) < 0 then
    8
   else
    if (nI np) ≤ ((mx_gf u 0 6) ||| (7 : Int32)) then
     8
    else
     1
  else
   if (xm_hasIllFormed a1 u) = 0 then
    if (xm_hasUnitTwice a1 u) = 0 then
     if (xm_hasCrossedTwice a1 u) = 0 then
      if (xm_goesBeyondData np nd a1 u) = 0 then
       0
      else
       7
     else
      4
    else
     3
   else
    2
theorem xm_faultOfPacket_ex : ∃ f : Nat → Nat → Int32 → mx_S → (Int32), f = xm_faultOfPacket_b := ⟨_, rfl⟩
noncomputable def xm_faultOfPacket : Nat → Nat → Int32 → mx_S → (Int32) := Classical.choose xm_faultOfPacket_ex
theorem xm_faultOfPacket_eq (np nd : Nat) (a1 : Int32) (u : mx_S) : (xm_faultOfPacket np nd a1 u) = (xm_faultOfPacket_b np nd a1 u) := by rw [show xm_faultOfPacket = xm_faultOfPacket_b from Classical.choose_spec xm_faultOfPacket_ex]
def q_xm_faultOfPacket (np nd : Nat) (a1 : Int32) (u : mx_S) : Prop :=
  ((¬ (a1 = (-1))) → 
   ((q_xm_hasIllFormed np nd a1 u)) ∧ (
    (((xm_hasIllFormed a1 u) = 0) → 
     ((q_xm_hasUnitTwice np nd a1 u)) ∧ (
      (((xm_hasUnitTwice a1 u) = 0) → 
       ((q_xm_hasCrossedTwice np nd a1 u)) ∧ (
        (((xm_hasCrossedTwice a1 u) = 0) → 
         ((q_xm_goesBeyondData np nd a1 u))) ∧ ((¬ ((xm_hasCrossedTwice a1 u) = 0)) → 
         True))) ∧ ((¬ ((xm_hasUnitTwice a1 u) = 0)) → 
       True))) ∧ ((¬ ((xm_hasIllFormed a1 u) = 0)) → 
     True))) ∧ ((a1 = (-1)) → 
   True)
def pre_xm_faultOfPacket (np nd : Nat) : List mx_V → mx_S → Prop := fun as u => ∃ (a1 : Int32), as = [.inr (.inr 0), .inl a1] ∧ q_xm_faultOfPacket np nd a1 u
noncomputable def fn_xm_faultOfPacket (np nd : Nat) : mx_F := fun as u => match as with
  | [_, .inl a1] => mx_rI u (xm_faultOfPacket np nd a1 u)
  | _ => (none, u)
noncomputable def tb_xm_faultOfPacket (np nd : Nat) : List (Nat × mx_T) := [
  (0, mx_iload_n 1 0),
  (1, mx_iconst (-1) 1),
  (2, mx_icmp_ne 44 2),
  (5, mx_aload_n 0 5),
  (6, mx_getf (kx np nd) 0 6 6),
  (9, mx_if_lt 31 9),
  (12, mx_aload_n 0 12),
  (13, mx_getf (kx np nd) 0 6 13),
  (16, mx_bipush 7 16),
  (18, mx_ior 18),
  (19, mx_aload_n 0 19),
  (20, mx_getf (kx np nd) 0 0 20),
  (23, mx_alen (kx np nd) 23),
  (24, mx_icmp_ge 31 24),
  (27, mx_iconst 1 27),
  (28, mx_goto 32 28),
  (31, mx_iconst 0 31),
  (32, mx_istore_n 2 32),
  (33, mx_iload_n 2 33),
  (34, mx_if_eq 41 34),
  (37, mx_iconst 1 37),
  (38, mx_goto 43 38),
  (41, mx_bipush 8 41),
  (43, mx_iret 43),
  (44, mx_aload_n 0 44),
  (45, mx_iload_n 1 45),
  (46, mx_invV (kx np nd) 0 1 (pre_xm_hasIllFormed np nd) (fn_xm_hasIllFormed np nd) 46),
  (49, mx_if_eq 54 49),
  (52, mx_iconst 2 52),
  (53, mx_iret 53),
  (54, mx_aload_n 0 54),
  (55, mx_iload_n 1 55),
  (56, mx_invV (kx np nd) 0 1 (pre_xm_hasUnitTwice np nd) (fn_xm_hasUnitTwice np nd) 56),
  (59, mx_if_eq 64 59),
  (62, mx_iconst 3 62),
  (63, mx_iret 63),
  (64, mx_aload_n 0 64),
  (65, mx_iload_n 1 65),
  (66, mx_invV (kx np nd) 0 1 (pre_xm_hasCrossedTwice np nd) (fn_xm_hasCrossedTwice np nd) 66),
  (69, mx_if_eq 74 69),
  (72, mx_iconst 4 72),
  (73, mx_iret 73),
  (74, mx_aload_n 0 74),
  (75, mx_iload_n 1 75),
  (76, mx_invV (kx np nd) 0 1 (pre_xm_goesBeyondData np nd) (fn_xm_goesBeyondData np nd) 76),
  (79, mx_if_eq 87 79),
  (82, mx_bipush 7 82),
  (84, mx_goto 88 84),
  (87, mx_iconst 0 87),
  (88, mx_iret 88)]
set_option maxRecDepth 100000 in
set_option maxHeartbeats 4000000 in
theorem ok_xm_faultOfPacket (l : Launch) (np nd : Nat) : ∀ q ∈ tb_xm_faultOfPacket np nd , mx_Ok l ({ frames := 4, cells := 0, slots := 0, locals := 87 } : Room) b_xm_faultOfPacket 3 "WideMachine" (some .int) vw_T vw_cl (kx np nd) q.1 q.2 := by
  refine List.forall_mem_cons.mpr ⟨mx_ok_iload_n (show decode b_xm_faultOfPacket 0 = .ok (.iload_n 1, 1) by decide +kernel) rfl, ?_⟩
  refine List.forall_mem_cons.mpr ⟨mx_ok_iconst (show decode b_xm_faultOfPacket 1 = .ok (.iconst (-1), 1) by decide +kernel) (by decide), ?_⟩
  refine List.forall_mem_cons.mpr ⟨mx_ok_icmp_ne (show decode b_xm_faultOfPacket 2 = .ok (.if_icmp .ne 42, 3) by decide +kernel) (by decide), ?_⟩
  refine List.forall_mem_cons.mpr ⟨mx_ok_aload_n (show decode b_xm_faultOfPacket 5 = .ok (.aload_n 0, 1) by decide +kernel) rfl, ?_⟩
  refine List.forall_mem_cons.mpr ⟨mx_ok_getf fd_xm_48 (show decode b_xm_faultOfPacket 6 = .ok (.getfield 48, 3) by decide +kernel), ?_⟩
  refine List.forall_mem_cons.mpr ⟨mx_ok_if_lt (show decode b_xm_faultOfPacket 9 = .ok (.ifCond .lt 22, 3) by decide +kernel) (by decide), ?_⟩
  refine List.forall_mem_cons.mpr ⟨mx_ok_aload_n (show decode b_xm_faultOfPacket 12 = .ok (.aload_n 0, 1) by decide +kernel) rfl, ?_⟩
  refine List.forall_mem_cons.mpr ⟨mx_ok_getf fd_xm_48 (show decode b_xm_faultOfPacket 13 = .ok (.getfield 48, 3) by decide +kernel), ?_⟩
  refine List.forall_mem_cons.mpr ⟨mx_ok_bipush (show decode b_xm_faultOfPacket 16 = .ok (.bipush 7, 2) by decide +kernel) (by decide), ?_⟩
  refine List.forall_mem_cons.mpr ⟨mx_ok_ior (show decode b_xm_faultOfPacket 18 = .ok (.ior, 1) by decide +kernel), ?_⟩
  refine List.forall_mem_cons.mpr ⟨mx_ok_aload_n (show decode b_xm_faultOfPacket 19 = .ok (.aload_n 0, 1) by decide +kernel) rfl, ?_⟩
  refine List.forall_mem_cons.mpr ⟨mx_ok_getf fd_xm_13 (show decode b_xm_faultOfPacket 20 = .ok (.getfield 13, 3) by decide +kernel), ?_⟩
  refine List.forall_mem_cons.mpr ⟨mx_ok_alen (show decode b_xm_faultOfPacket 23 = .ok (.arraylength, 1) by decide +kernel), ?_⟩
  refine List.forall_mem_cons.mpr ⟨mx_ok_icmp_ge (show decode b_xm_faultOfPacket 24 = .ok (.if_icmp .ge 7, 3) by decide +kernel) (by decide), ?_⟩
  refine List.forall_mem_cons.mpr ⟨mx_ok_iconst (show decode b_xm_faultOfPacket 27 = .ok (.iconst 1, 1) by decide +kernel) (by decide), ?_⟩
  refine List.forall_mem_cons.mpr ⟨mx_ok_goto (show decode b_xm_faultOfPacket 28 = .ok (.goto 4, 3) by decide +kernel) (by decide), ?_⟩
  refine List.forall_mem_cons.mpr ⟨mx_ok_iconst (show decode b_xm_faultOfPacket 31 = .ok (.iconst 0, 1) by decide +kernel) (by decide), ?_⟩
  refine List.forall_mem_cons.mpr ⟨mx_ok_istore_n (show decode b_xm_faultOfPacket 32 = .ok (.istore_n 2, 1) by decide +kernel) rfl (by decide), ?_⟩
  refine List.forall_mem_cons.mpr ⟨mx_ok_iload_n (show decode b_xm_faultOfPacket 33 = .ok (.iload_n 2, 1) by decide +kernel) rfl, ?_⟩
  refine List.forall_mem_cons.mpr ⟨mx_ok_if_eq (show decode b_xm_faultOfPacket 34 = .ok (.ifCond .eq 7, 3) by decide +kernel) (by decide), ?_⟩
  refine List.forall_mem_cons.mpr ⟨mx_ok_iconst (show decode b_xm_faultOfPacket 37 = .ok (.iconst 1, 1) by decide +kernel) (by decide), ?_⟩
  refine List.forall_mem_cons.mpr ⟨mx_ok_goto (show decode b_xm_faultOfPacket 38 = .ok (.goto 5, 3) by decide +kernel) (by decide), ?_⟩
  refine List.forall_mem_cons.mpr ⟨mx_ok_bipush (show decode b_xm_faultOfPacket 41 = .ok (.bipush 8, 2) by decide +kernel) (by decide), ?_⟩
  refine List.forall_mem_cons.mpr ⟨mx_ok_iret (show decode b_xm_faultOfPacket 43 = .ok (.ireturn, 1) by decide +kernel) rfl, ?_⟩
  refine List.forall_mem_cons.mpr ⟨mx_ok_aload_n (show decode b_xm_faultOfPacket 44 = .ok (.aload_n 0, 1) by decide +kernel) rfl, ?_⟩
  refine List.forall_mem_cons.mpr ⟨mx_ok_iload_n (show decode b_xm_faultOfPacket 45 = .ok (.iload_n 1, 1) by decide +kernel) rfl, ?_⟩
  refine List.forall_mem_cons.mpr ⟨mx_ok_invV vw_G (ct_xm_hasIllFormed l np nd) ⟨vm_168, vm_169, vm_46, ⟨by decide +kernel, by decide +kernel, by decide +kernel⟩, ⟨by decide, by decide⟩, rfl, rfl⟩ vm_170 vm_171 rfl (show decode b_xm_faultOfPacket 46 = .ok (.invokevirtual 139, 3) by decide +kernel), ?_⟩
  refine List.forall_mem_cons.mpr ⟨mx_ok_if_eq (show decode b_xm_faultOfPacket 49 = .ok (.ifCond .eq 5, 3) by decide +kernel) (by decide), ?_⟩
  refine List.forall_mem_cons.mpr ⟨mx_ok_iconst (show decode b_xm_faultOfPacket 52 = .ok (.iconst 2, 1) by decide +kernel) (by decide), ?_⟩
  refine List.forall_mem_cons.mpr ⟨mx_ok_iret (show decode b_xm_faultOfPacket 53 = .ok (.ireturn, 1) by decide +kernel) rfl, ?_⟩
  refine List.forall_mem_cons.mpr ⟨mx_ok_aload_n (show decode b_xm_faultOfPacket 54 = .ok (.aload_n 0, 1) by decide +kernel) rfl, ?_⟩
  refine List.forall_mem_cons.mpr ⟨mx_ok_iload_n (show decode b_xm_faultOfPacket 55 = .ok (.iload_n 1, 1) by decide +kernel) rfl, ?_⟩
  refine List.forall_mem_cons.mpr ⟨mx_ok_invV vw_G (ct_xm_hasUnitTwice l np nd) ⟨vm_172, vm_173, vm_46, ⟨by decide +kernel, by decide +kernel, by decide +kernel⟩, ⟨by decide, by decide⟩, rfl, rfl⟩ vm_174 vm_175 rfl (show decode b_xm_faultOfPacket 56 = .ok (.invokevirtual 142, 3) by decide +kernel), ?_⟩
  refine List.forall_mem_cons.mpr ⟨mx_ok_if_eq (show decode b_xm_faultOfPacket 59 = .ok (.ifCond .eq 5, 3) by decide +kernel) (by decide), ?_⟩
  refine List.forall_mem_cons.mpr ⟨mx_ok_iconst (show decode b_xm_faultOfPacket 62 = .ok (.iconst 3, 1) by decide +kernel) (by decide), ?_⟩
  refine List.forall_mem_cons.mpr ⟨mx_ok_iret (show decode b_xm_faultOfPacket 63 = .ok (.ireturn, 1) by decide +kernel) rfl, ?_⟩
  refine List.forall_mem_cons.mpr ⟨mx_ok_aload_n (show decode b_xm_faultOfPacket 64 = .ok (.aload_n 0, 1) by decide +kernel) rfl, ?_⟩
  refine List.forall_mem_cons.mpr ⟨mx_ok_iload_n (show decode b_xm_faultOfPacket 65 = .ok (.iload_n 1, 1) by decide +kernel) rfl, ?_⟩
  refine List.forall_mem_cons.mpr ⟨mx_ok_invV vw_G (ct_xm_hasCrossedTwice l np nd) ⟨vm_176, vm_177, vm_46, ⟨by decide +kernel, by decide +kernel, by decide +kernel⟩, ⟨by decide, by decide⟩, rfl, rfl⟩ vm_178 vm_179 rfl (show decode b_xm_faultOfPacket 66 = .ok (.invokevirtual 145, 3) by decide +kernel), ?_⟩
  refine List.forall_mem_cons.mpr ⟨mx_ok_if_eq (show decode b_xm_faultOfPacket 69 = .ok (.ifCond .eq 5, 3) by decide +kernel) (by decide), ?_⟩
  refine List.forall_mem_cons.mpr ⟨mx_ok_iconst (show decode b_xm_faultOfPacket 72 = .ok (.iconst 4, 1) by decide +kernel) (by decide), ?_⟩
  refine List.forall_mem_cons.mpr ⟨mx_ok_iret (show decode b_xm_faultOfPacket 73 = .ok (.ireturn, 1) by decide +kernel) rfl, ?_⟩
  refine List.forall_mem_cons.mpr ⟨mx_ok_aload_n (show decode b_xm_faultOfPacket 74 = .ok (.aload_n 0, 1) by decide +kernel) rfl, ?_⟩
  refine List.forall_mem_cons.mpr ⟨mx_ok_iload_n (show decode b_xm_faultOfPacket 75 = .ok (.iload_n 1, 1) by decide +kernel) rfl, ?_⟩
  refine List.forall_mem_cons.mpr ⟨mx_ok_invV vw_G (ct_xm_goesBeyondData l np nd) ⟨vm_180, vm_181, vm_46, ⟨by decide +kernel, by decide +kernel, by decide +kernel⟩, ⟨by decide, by decide⟩, rfl, rfl⟩ vm_182 vm_183 rfl (show decode b_xm_faultOfPacket 76 = .ok (.invokevirtual 148, 3) by decide +kernel), ?_⟩
  refine List.forall_mem_cons.mpr ⟨mx_ok_if_eq (show decode b_xm_faultOfPacket 79 = .ok (.ifCond .eq 8, 3) by decide +kernel) (by decide), ?_⟩
  refine List.forall_mem_cons.mpr ⟨mx_ok_bipush (show decode b_xm_faultOfPacket 82 = .ok (.bipush 7, 2) by decide +kernel) (by decide), ?_⟩
  refine List.forall_mem_cons.mpr ⟨mx_ok_goto (show decode b_xm_faultOfPacket 84 = .ok (.goto 4, 3) by decide +kernel) (by decide), ?_⟩
  refine List.forall_mem_cons.mpr ⟨mx_ok_iconst (show decode b_xm_faultOfPacket 87 = .ok (.iconst 0, 1) by decide +kernel) (by decide), ?_⟩
  refine List.forall_mem_cons.mpr ⟨mx_ok_iret (show decode b_xm_faultOfPacket 88 = .ok (.ireturn, 1) by decide +kernel) rfl, ?_⟩
  exact fun _ h => absurd h List.not_mem_nil
set_option maxRecDepth 100000 in
set_option maxHeartbeats 4000000 in
theorem ct_xm_faultOfPacket (l : Launch) (np nd : Nat) : mx_Ct l vw_T vw_cl (kx np nd) { frames := 4, cells := 0, slots := 0, locals := 87 } y_xm_faultOfPacket b_xm_faultOfPacket 3 (some .int) (pre_xm_faultOfPacket np nd) (fn_xm_faultOfPacket np nd) := by
  refine mx_ct_of (tb_xm_faultOfPacket np nd ) (by decide) (ok_xm_faultOfPacket l np nd ) (fun as u h => by obtain ⟨_, rfl, -⟩ := h; exact Nat.le_of_ble_eq_true rfl) ?_
  intro as u hpre At hc hw
  obtain ⟨a1, rfl, hp⟩ := hpre
  exact hc 200 [] _ _ _ _ (
    And.intro (fun h2 => 
     And.intro rfl (
     And.intro ⟨_, rfl, (hp.1 h2).1⟩ (
     And.intro (fun h49 => 
      And.intro rfl (
      And.intro ⟨_, rfl, ((hp.1 h2).2.1 h49).1⟩ (
      And.intro (fun h59 => 
       And.intro rfl (
       And.intro ⟨_, rfl, (((hp.1 h2).2.1 h49).2.1 h59).1⟩ (
       And.intro (fun h69 => 
        And.intro rfl (
        And.intro ⟨_, rfl, ((((hp.1 h2).2.1 h49).2.1 h59).2.1 h69)⟩ (
        And.intro (fun h79 => 
         congrArg (mx_rI u) (show 0 = (xm_faultOfPacket np nd a1 u) from ((xm_faultOfPacket_eq np nd a1 u).trans ((if_neg h2).trans ((if_pos h49).trans ((if_pos h59).trans ((if_pos h69).trans (if_pos h79)))))).symm)) (fun h79 => 
         congrArg (mx_rI u) (show 7 = (xm_faultOfPacket np nd a1 u) from ((xm_faultOfPacket_eq np nd a1 u).trans ((if_neg h2).trans ((if_pos h49).trans ((if_pos h59).trans ((if_pos h69).trans (if_neg h79)))))).symm))))) (fun h69 => 
        congrArg (mx_rI u) (show 4 = (xm_faultOfPacket np nd a1 u) from ((xm_faultOfPacket_eq np nd a1 u).trans ((if_neg h2).trans ((if_pos h49).trans ((if_pos h59).trans (if_neg h69))))).symm))))) (fun h59 => 
       congrArg (mx_rI u) (show 3 = (xm_faultOfPacket np nd a1 u) from ((xm_faultOfPacket_eq np nd a1 u).trans ((if_neg h2).trans ((if_pos h49).trans (if_neg h59)))).symm))))) (fun h49 => 
      congrArg (mx_rI u) (show 2 = (xm_faultOfPacket np nd a1 u) from ((xm_faultOfPacket_eq np nd a1 u).trans ((if_neg h2).trans (if_neg h49))).symm))))) (fun h2 => 
     And.intro (fun h9 => 
      And.intro (fun h34 => 
       congrArg (mx_rI u) (show 8 = (xm_faultOfPacket np nd a1 u) from ((xm_faultOfPacket_eq np nd a1 u).trans ((if_pos h2).trans (if_pos h9))).symm)) (fun h34 => absurd h34 (by decide))) (fun h9 => 
      And.intro (fun h24 => 
       And.intro (fun h34 => 
        congrArg (mx_rI u) (show 8 = (xm_faultOfPacket np nd a1 u) from ((xm_faultOfPacket_eq np nd a1 u).trans ((if_pos h2).trans ((if_neg h9).trans (if_pos h24)))).symm)) (fun h34 => absurd h34 (by decide))) (fun h24 => 
       And.intro (fun h34 => absurd h34 (by decide)) (fun h34 => 
        congrArg (mx_rI u) (show 1 = (xm_faultOfPacket np nd a1 u) from ((xm_faultOfPacket_eq np nd a1 u).trans ((if_pos h2).trans ((if_neg h9).trans (if_neg h24)))).symm))))))
/-! WideMachine.valueOf(I)I -/
noncomputable def xm_valueOf_b (np nd : Nat) (a1 : Int32) (u : mx_S) : Int32 :=
  if (xw_code a1 ) = 21 then
   (xw_number a1 )
  else
  if (xw_code a1 ) = 22 then
   (((xw_number a1 ) * (65536 : Int32)) ||| ((mx_ga u 3 ((xw_d a1 )).toNatClampNeg) &&& (65535 : Int32)))
  else
  if (xw_code a1 ) = 50 then
   (xm_peek np nd ((mx_ga u 3 ((xw_a a1 )).toNatClampNeg) + (xm_operandB a1 u)) u)
  else
  if (xw_kind a1 ) = 0 then
   (xv_ofL (xw_code a1 ) (mx_ga u 3 ((xw_a a1 )).toNatClampNeg) (xm_operandB a1 u) )
  else
  if (xw_kind a1 ) = 1 then
   (xv_ofS (xw_code a1 ) (mx_ga u 3 ((xw_a a1 )).toNatClampNeg) (xm_operandB a1 u) )
  else
  if (xw_kind a1 ) = 2 then
   (xv_ofM (xw_code a1 ) (mx_ga u 3 ((xw_a a1 )).toNatClampNeg) (xm_operandB a1 u) )
  else
  (xv_ofD (xw_code a1 ) (mx_ga u 3 ((xw_a a1 )).toNatClampNeg) (xm_operandB a1 u) )
theorem xm_valueOf_ex : ∃ f : Nat → Nat → Int32 → mx_S → (Int32), f = xm_valueOf_b := ⟨_, rfl⟩
noncomputable def xm_valueOf : Nat → Nat → Int32 → mx_S → (Int32) := Classical.choose xm_valueOf_ex
theorem xm_valueOf_eq (np nd : Nat) (a1 : Int32) (u : mx_S) : (xm_valueOf np nd a1 u) = (xm_valueOf_b np nd a1 u) := by rw [show xm_valueOf = xm_valueOf_b from Classical.choose_spec xm_valueOf_ex]
def q_xm_valueOf (np nd : Nat) (a1 : Int32) (u : mx_S) : Prop :=
  (((xw_code a1 ) = 21) → 
   True) ∧ (¬ ((xw_code a1 ) = 21) → 
  (((xw_code a1 ) = 22) → 
   True) ∧ (¬ ((xw_code a1 ) = 22) → 
  (((xw_code a1 ) = 50) → 
   ((q_xm_peek np nd ((mx_ga u 3 ((xw_a a1 )).toNatClampNeg) + (xm_operandB a1 u)) u))) ∧ (¬ ((xw_code a1 ) = 50) → 
   (((xw_kind a1 ) = 0) → 
    ((q_xv_ofL np nd (xw_code a1 ) (mx_ga u 3 ((xw_a a1 )).toNatClampNeg) (xm_operandB a1 u) u))) ∧ (¬ ((xw_kind a1 ) = 0) → 
   (((xw_kind a1 ) = 1) → 
    True) ∧ (¬ ((xw_kind a1 ) = 1) → 
   (((xw_kind a1 ) = 2) → 
    True) ∧ (¬ ((xw_kind a1 ) = 2) → 
    True))))))
def pre_xm_valueOf (np nd : Nat) : List mx_V → mx_S → Prop := fun as u => ∃ (a1 : Int32), as = [.inr (.inr 0), .inl a1] ∧ q_xm_valueOf np nd a1 u
noncomputable def fn_xm_valueOf (np nd : Nat) : mx_F := fun as u => match as with
  | [_, .inl a1] => mx_rI u (xm_valueOf np nd a1 u)
  | _ => (none, u)
noncomputable def tb_xm_valueOf (np nd : Nat) : List (Nat × mx_T) := [
  (0, mx_iload_n 1 0),
  (1, mx_invS 1 (pre_xw_code np nd) (fn_xw_code np nd) 1),
  (4, mx_istore_n 2 4),
  (5, mx_aload_n 0 5),
  (6, mx_getf (kx np nd) 0 2 6),
  (9, mx_iload_n 1 9),
  (10, mx_invS 1 (pre_xw_a np nd) (fn_xw_a np nd) 10),
  (13, mx_iald (kx np nd) 13),
  (14, mx_istore_n 3 14),
  (15, mx_aload_n 0 15),
  (16, mx_iload_n 1 16),
  (17, mx_invV (kx np nd) 0 1 (pre_xm_operandB np nd) (fn_xm_operandB np nd) 17),
  (20, mx_istore 4 20),
  (22, mx_iload_n 2 22),
  (23, mx_lsw0 91 [(21, 56), (22, 61), (50, 82)] 23),
  (56, mx_iload_n 1 56),
  (57, mx_invS 1 (pre_xw_number np nd) (fn_xw_number np nd) 57),
  (60, mx_iret 60),
  (61, mx_iload_n 1 61),
  (62, mx_invS 1 (pre_xw_number np nd) (fn_xw_number np nd) 62),
  (65, mx_ldc 65536 65),
  (67, mx_imul 67),
  (68, mx_aload_n 0 68),
  (69, mx_getf (kx np nd) 0 2 69),
  (72, mx_iload_n 1 72),
  (73, mx_invS 1 (pre_xw_d np nd) (fn_xw_d np nd) 73),
  (76, mx_iald (kx np nd) 76),
  (77, mx_ldc 65535 77),
  (79, mx_iand 79),
  (80, mx_ior 80),
  (81, mx_iret 81),
  (82, mx_aload_n 0 82),
  (83, mx_iload_n 3 83),
  (84, mx_iload 4 84),
  (86, mx_iadd 86),
  (87, mx_invV (kx np nd) 0 1 (pre_xm_peek np nd) (fn_xm_peek np nd) 87),
  (90, mx_iret 90),
  (91, mx_iload_n 1 91),
  (92, mx_invS 1 (pre_xw_kind np nd) (fn_xw_kind np nd) 92),
  (95, mx_tsw 144 [(0, 120), (1, 128), (2, 136)] 95),
  (120, mx_iload_n 2 120),
  (121, mx_iload_n 3 121),
  (122, mx_iload 4 122),
  (124, mx_invS 3 (pre_xv_ofL np nd) (fn_xv_ofL np nd) 124),
  (127, mx_iret 127),
  (128, mx_iload_n 2 128),
  (129, mx_iload_n 3 129),
  (130, mx_iload 4 130),
  (132, mx_invS 3 (pre_xv_ofS np nd) (fn_xv_ofS np nd) 132),
  (135, mx_iret 135),
  (136, mx_iload_n 2 136),
  (137, mx_iload_n 3 137),
  (138, mx_iload 4 138),
  (140, mx_invS 3 (pre_xv_ofM np nd) (fn_xv_ofM np nd) 140),
  (143, mx_iret 143),
  (144, mx_iload_n 2 144),
  (145, mx_iload_n 3 145),
  (146, mx_iload 4 146),
  (148, mx_invS 3 (pre_xv_ofD np nd) (fn_xv_ofD np nd) 148),
  (151, mx_iret 151)]
set_option maxRecDepth 100000 in
set_option maxHeartbeats 4000000 in
theorem ok_xm_valueOf (l : Launch) (np nd : Nat) : ∀ q ∈ tb_xm_valueOf np nd , mx_Ok l ({ frames := 2, cells := 0, slots := 0, locals := 45 } : Room) b_xm_valueOf 5 "WideMachine" (some .int) vw_T vw_cl (kx np nd) q.1 q.2 := by
  refine List.forall_mem_cons.mpr ⟨mx_ok_iload_n (show decode b_xm_valueOf 0 = .ok (.iload_n 1, 1) by decide +kernel) rfl, ?_⟩
  refine List.forall_mem_cons.mpr ⟨mx_ok_invS vw_G (ct_xw_code l np nd) ⟨vm_159, vm_100, vm_97, ⟨by decide +kernel, by decide +kernel, by decide +kernel⟩, ⟨by decide, by decide⟩, rfl, rfl⟩ vm_101 (show decode b_xm_valueOf 1 = .ok (.invokestatic 163, 3) by decide +kernel), ?_⟩
  refine List.forall_mem_cons.mpr ⟨mx_ok_istore_n (show decode b_xm_valueOf 4 = .ok (.istore_n 2, 1) by decide +kernel) rfl (by decide), ?_⟩
  refine List.forall_mem_cons.mpr ⟨mx_ok_aload_n (show decode b_xm_valueOf 5 = .ok (.aload_n 0, 1) by decide +kernel) rfl, ?_⟩
  refine List.forall_mem_cons.mpr ⟨mx_ok_getf fd_xm_20 (show decode b_xm_valueOf 6 = .ok (.getfield 20, 3) by decide +kernel), ?_⟩
  refine List.forall_mem_cons.mpr ⟨mx_ok_iload_n (show decode b_xm_valueOf 9 = .ok (.iload_n 1, 1) by decide +kernel) rfl, ?_⟩
  refine List.forall_mem_cons.mpr ⟨mx_ok_invS vw_G (ct_xw_a l np nd) ⟨vm_154, vm_124, vm_97, ⟨by decide +kernel, by decide +kernel, by decide +kernel⟩, ⟨by decide, by decide⟩, rfl, rfl⟩ vm_125 (show decode b_xm_valueOf 10 = .ok (.invokestatic 178, 3) by decide +kernel), ?_⟩
  refine List.forall_mem_cons.mpr ⟨mx_ok_iald (show decode b_xm_valueOf 13 = .ok (.iaload, 1) by decide +kernel), ?_⟩
  refine List.forall_mem_cons.mpr ⟨mx_ok_istore_n (show decode b_xm_valueOf 14 = .ok (.istore_n 3, 1) by decide +kernel) rfl (by decide), ?_⟩
  refine List.forall_mem_cons.mpr ⟨mx_ok_aload_n (show decode b_xm_valueOf 15 = .ok (.aload_n 0, 1) by decide +kernel) rfl, ?_⟩
  refine List.forall_mem_cons.mpr ⟨mx_ok_iload_n (show decode b_xm_valueOf 16 = .ok (.iload_n 1, 1) by decide +kernel) rfl, ?_⟩
  refine List.forall_mem_cons.mpr ⟨mx_ok_invV vw_G (ct_xm_operandB l np nd) ⟨vm_155, vm_156, vm_46, ⟨by decide +kernel, by decide +kernel, by decide +kernel⟩, ⟨by decide, by decide⟩, rfl, rfl⟩ vm_157 vm_158 rfl (show decode b_xm_valueOf 17 = .ok (.invokevirtual 181, 3) by decide +kernel), ?_⟩
  refine List.forall_mem_cons.mpr ⟨mx_ok_istore (show decode b_xm_valueOf 20 = .ok (.istore 4, 2) by decide +kernel) (by decide), ?_⟩
  refine List.forall_mem_cons.mpr ⟨mx_ok_iload_n (show decode b_xm_valueOf 22 = .ok (.iload_n 2, 1) by decide +kernel) rfl, ?_⟩
  refine List.forall_mem_cons.mpr ⟨mx_ok_lsw0 (show decode b_xm_valueOf 23 = .ok (.lookupswitch 68 #[(21, 33), (22, 38), (50, 59)], 33) by decide +kernel) (by decide) (by decide) (by decide), ?_⟩
  refine List.forall_mem_cons.mpr ⟨mx_ok_iload_n (show decode b_xm_valueOf 56 = .ok (.iload_n 1, 1) by decide +kernel) rfl, ?_⟩
  refine List.forall_mem_cons.mpr ⟨mx_ok_invS vw_G (ct_xw_number l np nd) ⟨vm_197, vm_198, vm_97, ⟨by decide +kernel, by decide +kernel, by decide +kernel⟩, ⟨by decide, by decide⟩, rfl, rfl⟩ vm_199 (show decode b_xm_valueOf 57 = .ok (.invokestatic 217, 3) by decide +kernel), ?_⟩
  refine List.forall_mem_cons.mpr ⟨mx_ok_iret (show decode b_xm_valueOf 60 = .ok (.ireturn, 1) by decide +kernel) rfl, ?_⟩
  refine List.forall_mem_cons.mpr ⟨mx_ok_iload_n (show decode b_xm_valueOf 61 = .ok (.iload_n 1, 1) by decide +kernel) rfl, ?_⟩
  refine List.forall_mem_cons.mpr ⟨mx_ok_invS vw_G (ct_xw_number l np nd) ⟨vm_197, vm_198, vm_97, ⟨by decide +kernel, by decide +kernel, by decide +kernel⟩, ⟨by decide, by decide⟩, rfl, rfl⟩ vm_199 (show decode b_xm_valueOf 62 = .ok (.invokestatic 217, 3) by decide +kernel), ?_⟩
  refine List.forall_mem_cons.mpr ⟨mx_ok_ldc (show decode b_xm_valueOf 65 = .ok (.ldc 220, 2) by decide +kernel) vm_200, ?_⟩
  refine List.forall_mem_cons.mpr ⟨mx_ok_imul (show decode b_xm_valueOf 67 = .ok (.imul, 1) by decide +kernel), ?_⟩
  refine List.forall_mem_cons.mpr ⟨mx_ok_aload_n (show decode b_xm_valueOf 68 = .ok (.aload_n 0, 1) by decide +kernel) rfl, ?_⟩
  refine List.forall_mem_cons.mpr ⟨mx_ok_getf fd_xm_20 (show decode b_xm_valueOf 69 = .ok (.getfield 20, 3) by decide +kernel), ?_⟩
  refine List.forall_mem_cons.mpr ⟨mx_ok_iload_n (show decode b_xm_valueOf 72 = .ok (.iload_n 1, 1) by decide +kernel) rfl, ?_⟩
  refine List.forall_mem_cons.mpr ⟨mx_ok_invS vw_G (ct_xw_d l np nd) ⟨vm_201, vm_115, vm_97, ⟨by decide +kernel, by decide +kernel, by decide +kernel⟩, ⟨by decide, by decide⟩, rfl, rfl⟩ vm_116 (show decode b_xm_valueOf 73 = .ok (.invokestatic 205, 3) by decide +kernel), ?_⟩
  refine List.forall_mem_cons.mpr ⟨mx_ok_iald (show decode b_xm_valueOf 76 = .ok (.iaload, 1) by decide +kernel), ?_⟩
  refine List.forall_mem_cons.mpr ⟨mx_ok_ldc (show decode b_xm_valueOf 77 = .ok (.ldc 221, 2) by decide +kernel) vm_202, ?_⟩
  refine List.forall_mem_cons.mpr ⟨mx_ok_iand (show decode b_xm_valueOf 79 = .ok (.iand, 1) by decide +kernel), ?_⟩
  refine List.forall_mem_cons.mpr ⟨mx_ok_ior (show decode b_xm_valueOf 80 = .ok (.ior, 1) by decide +kernel), ?_⟩
  refine List.forall_mem_cons.mpr ⟨mx_ok_iret (show decode b_xm_valueOf 81 = .ok (.ireturn, 1) by decide +kernel) rfl, ?_⟩
  refine List.forall_mem_cons.mpr ⟨mx_ok_aload_n (show decode b_xm_valueOf 82 = .ok (.aload_n 0, 1) by decide +kernel) rfl, ?_⟩
  refine List.forall_mem_cons.mpr ⟨mx_ok_iload_n (show decode b_xm_valueOf 83 = .ok (.iload_n 3, 1) by decide +kernel) rfl, ?_⟩
  refine List.forall_mem_cons.mpr ⟨mx_ok_iload (show decode b_xm_valueOf 84 = .ok (.iload 4, 2) by decide +kernel), ?_⟩
  refine List.forall_mem_cons.mpr ⟨mx_ok_iadd (show decode b_xm_valueOf 86 = .ok (.iadd, 1) by decide +kernel), ?_⟩
  refine List.forall_mem_cons.mpr ⟨mx_ok_invV vw_G (ct_xm_peek l np nd) ⟨vm_203, vm_204, vm_46, ⟨by decide +kernel, by decide +kernel, by decide +kernel⟩, ⟨by decide, by decide⟩, rfl, rfl⟩ vm_205 vm_206 rfl (show decode b_xm_valueOf 87 = .ok (.invokevirtual 222, 3) by decide +kernel), ?_⟩
  refine List.forall_mem_cons.mpr ⟨mx_ok_iret (show decode b_xm_valueOf 90 = .ok (.ireturn, 1) by decide +kernel) rfl, ?_⟩
  refine List.forall_mem_cons.mpr ⟨mx_ok_iload_n (show decode b_xm_valueOf 91 = .ok (.iload_n 1, 1) by decide +kernel) rfl, ?_⟩
  refine List.forall_mem_cons.mpr ⟨mx_ok_invS vw_G (ct_xw_kind l np nd) ⟨vm_207, vm_208, vm_97, ⟨by decide +kernel, by decide +kernel, by decide +kernel⟩, ⟨by decide, by decide⟩, rfl, rfl⟩ vm_209 (show decode b_xm_valueOf 92 = .ok (.invokestatic 225, 3) by decide +kernel), ?_⟩
  refine List.forall_mem_cons.mpr ⟨mx_ok_tsw (show decode b_xm_valueOf 95 = .ok (.tableswitch 49 0 2 #[25, 33, 41], 25) by decide +kernel) (by decide) (by decide), ?_⟩
  refine List.forall_mem_cons.mpr ⟨mx_ok_iload_n (show decode b_xm_valueOf 120 = .ok (.iload_n 2, 1) by decide +kernel) rfl, ?_⟩
  refine List.forall_mem_cons.mpr ⟨mx_ok_iload_n (show decode b_xm_valueOf 121 = .ok (.iload_n 3, 1) by decide +kernel) rfl, ?_⟩
  refine List.forall_mem_cons.mpr ⟨mx_ok_iload (show decode b_xm_valueOf 122 = .ok (.iload 4, 2) by decide +kernel), ?_⟩
  refine List.forall_mem_cons.mpr ⟨mx_ok_invS vw_G (ct_xv_ofL l np nd) ⟨vm_210, vm_211, vm_190, ⟨by decide +kernel, by decide +kernel, by decide +kernel⟩, ⟨by decide, by decide⟩, rfl, rfl⟩ vm_212 (show decode b_xm_valueOf 124 = .ok (.invokestatic 228, 3) by decide +kernel), ?_⟩
  refine List.forall_mem_cons.mpr ⟨mx_ok_iret (show decode b_xm_valueOf 127 = .ok (.ireturn, 1) by decide +kernel) rfl, ?_⟩
  refine List.forall_mem_cons.mpr ⟨mx_ok_iload_n (show decode b_xm_valueOf 128 = .ok (.iload_n 2, 1) by decide +kernel) rfl, ?_⟩
  refine List.forall_mem_cons.mpr ⟨mx_ok_iload_n (show decode b_xm_valueOf 129 = .ok (.iload_n 3, 1) by decide +kernel) rfl, ?_⟩
  refine List.forall_mem_cons.mpr ⟨mx_ok_iload (show decode b_xm_valueOf 130 = .ok (.iload 4, 2) by decide +kernel), ?_⟩
  refine List.forall_mem_cons.mpr ⟨mx_ok_invS vw_G (ct_xv_ofS l np nd) ⟨vm_213, vm_214, vm_190, ⟨by decide +kernel, by decide +kernel, by decide +kernel⟩, ⟨by decide, by decide⟩, rfl, rfl⟩ vm_215 (show decode b_xm_valueOf 132 = .ok (.invokestatic 234, 3) by decide +kernel), ?_⟩
  refine List.forall_mem_cons.mpr ⟨mx_ok_iret (show decode b_xm_valueOf 135 = .ok (.ireturn, 1) by decide +kernel) rfl, ?_⟩
  refine List.forall_mem_cons.mpr ⟨mx_ok_iload_n (show decode b_xm_valueOf 136 = .ok (.iload_n 2, 1) by decide +kernel) rfl, ?_⟩
  refine List.forall_mem_cons.mpr ⟨mx_ok_iload_n (show decode b_xm_valueOf 137 = .ok (.iload_n 3, 1) by decide +kernel) rfl, ?_⟩
  refine List.forall_mem_cons.mpr ⟨mx_ok_iload (show decode b_xm_valueOf 138 = .ok (.iload 4, 2) by decide +kernel), ?_⟩
  refine List.forall_mem_cons.mpr ⟨mx_ok_invS vw_G (ct_xv_ofM l np nd) ⟨vm_216, vm_217, vm_190, ⟨by decide +kernel, by decide +kernel, by decide +kernel⟩, ⟨by decide, by decide⟩, rfl, rfl⟩ vm_218 (show decode b_xm_valueOf 140 = .ok (.invokestatic 237, 3) by decide +kernel), ?_⟩
  refine List.forall_mem_cons.mpr ⟨mx_ok_iret (show decode b_xm_valueOf 143 = .ok (.ireturn, 1) by decide +kernel) rfl, ?_⟩
  refine List.forall_mem_cons.mpr ⟨mx_ok_iload_n (show decode b_xm_valueOf 144 = .ok (.iload_n 2, 1) by decide +kernel) rfl, ?_⟩
  refine List.forall_mem_cons.mpr ⟨mx_ok_iload_n (show decode b_xm_valueOf 145 = .ok (.iload_n 3, 1) by decide +kernel) rfl, ?_⟩
  refine List.forall_mem_cons.mpr ⟨mx_ok_iload (show decode b_xm_valueOf 146 = .ok (.iload 4, 2) by decide +kernel), ?_⟩
  refine List.forall_mem_cons.mpr ⟨mx_ok_invS vw_G (ct_xv_ofD l np nd) ⟨vm_219, vm_220, vm_190, ⟨by decide +kernel, by decide +kernel, by decide +kernel⟩, ⟨by decide, by decide⟩, rfl, rfl⟩ vm_221 (show decode b_xm_valueOf 148 = .ok (.invokestatic 240, 3) by decide +kernel), ?_⟩
  refine List.forall_mem_cons.mpr ⟨mx_ok_iret (show decode b_xm_valueOf 151 = .ok (.ireturn, 1) by decide +kernel) rfl, ?_⟩
  exact fun _ h => absurd h List.not_mem_nil
set_option maxRecDepth 100000 in
set_option maxHeartbeats 4000000 in
theorem ct_xm_valueOf (l : Launch) (np nd : Nat) : mx_Ct l vw_T vw_cl (kx np nd) { frames := 2, cells := 0, slots := 0, locals := 45 } y_xm_valueOf b_xm_valueOf 5 (some .int) (pre_xm_valueOf np nd) (fn_xm_valueOf np nd) := by
  refine mx_ct_of (tb_xm_valueOf np nd ) (by decide) (ok_xm_valueOf l np nd ) (fun as u h => by obtain ⟨_, rfl, -⟩ := h; exact Nat.le_of_ble_eq_true rfl) ?_
  intro as u hpre At hc hw
  obtain ⟨a1, rfl, hp⟩ := hpre
  exact hc 200 [] _ _ _ _ (
    And.intro rfl (
    And.intro ⟨_, rfl, trivial⟩ (
    And.intro rfl (
    And.intro ⟨_, rfl, trivial⟩ (
    And.intro (xw_a_in _) (
    And.intro rfl (
    And.intro ⟨_, rfl, trivial⟩ (
    And.intro (fun h23_0 => 
     And.intro rfl (
     And.intro ⟨_, rfl, trivial⟩ (
     congrArg (mx_rI u) (show (xw_number a1 ) = (xm_valueOf np nd a1 u) from ((xm_valueOf_eq np nd a1 u).trans (if_pos h23_0)).symm)))) (fun h23_0 => 
    And.intro (fun h23_1 => 
     And.intro rfl (
     And.intro ⟨_, rfl, trivial⟩ (
     And.intro rfl (
     And.intro ⟨_, rfl, trivial⟩ (
     And.intro (xw_d_in _) (
     congrArg (mx_rI u) (show (((xw_number a1 ) * (65536 : Int32)) ||| ((mx_ga u 3 ((xw_d a1 )).toNatClampNeg) &&& (65535 : Int32))) = (xm_valueOf np nd a1 u) from ((xm_valueOf_eq np nd a1 u).trans ((if_neg h23_0).trans (if_pos h23_1))).symm))))))) (fun h23_1 => 
    And.intro (fun h23_2 => 
     And.intro rfl (
     And.intro ⟨_, rfl, (((hp.2 h23_0).2 h23_1).1 h23_2)⟩ (
     congrArg (mx_rI u) (show (xm_peek np nd ((mx_ga u 3 ((xw_a a1 )).toNatClampNeg) + (xm_operandB a1 u)) u) = (xm_valueOf np nd a1 u) from ((xm_valueOf_eq np nd a1 u).trans ((if_neg h23_0).trans ((if_neg h23_1).trans (if_pos h23_2)))).symm)))) (fun h23_2 => 
     And.intro rfl (
     And.intro ⟨_, rfl, trivial⟩ (
     And.intro (fun h95_0 => 
      And.intro rfl (
      And.intro ⟨_, _, _, rfl, ((((hp.2 h23_0).2 h23_1).2 h23_2).1 h95_0)⟩ (
      congrArg (mx_rI u) (show (xv_ofL (xw_code a1 ) (mx_ga u 3 ((xw_a a1 )).toNatClampNeg) (xm_operandB a1 u) ) = (xm_valueOf np nd a1 u) from ((xm_valueOf_eq np nd a1 u).trans ((if_neg h23_0).trans ((if_neg h23_1).trans ((if_neg h23_2).trans (if_pos h95_0))))).symm)))) (fun h95_0 => 
     And.intro (fun h95_1 => 
      And.intro rfl (
      And.intro ⟨_, _, _, rfl, trivial⟩ (
      congrArg (mx_rI u) (show (xv_ofS (xw_code a1 ) (mx_ga u 3 ((xw_a a1 )).toNatClampNeg) (xm_operandB a1 u) ) = (xm_valueOf np nd a1 u) from ((xm_valueOf_eq np nd a1 u).trans ((if_neg h23_0).trans ((if_neg h23_1).trans ((if_neg h23_2).trans ((if_neg h95_0).trans (if_pos h95_1)))))).symm)))) (fun h95_1 => 
     And.intro (fun h95_2 => 
      And.intro rfl (
      And.intro ⟨_, _, _, rfl, trivial⟩ (
      congrArg (mx_rI u) (show (xv_ofM (xw_code a1 ) (mx_ga u 3 ((xw_a a1 )).toNatClampNeg) (xm_operandB a1 u) ) = (xm_valueOf np nd a1 u) from ((xm_valueOf_eq np nd a1 u).trans ((if_neg h23_0).trans ((if_neg h23_1).trans ((if_neg h23_2).trans ((if_neg h95_0).trans ((if_neg h95_1).trans (if_pos h95_2))))))).symm)))) (fun h95_2 => 
      And.intro rfl (
      And.intro ⟨_, _, _, rfl, trivial⟩ (
      congrArg (mx_rI u) (show (xv_ofD (xw_code a1 ) (mx_ga u 3 ((xw_a a1 )).toNatClampNeg) (xm_operandB a1 u) ) = (xm_valueOf np nd a1 u) from ((xm_valueOf_eq np nd a1 u).trans ((if_neg h23_0).trans ((if_neg h23_1).trans ((if_neg h23_2).trans ((if_neg h95_0).trans ((if_neg h95_1).trans (if_neg h95_2))))))).symm)))))))))))))))))))
/-! WideMachine.doWord(I)V -/
noncomputable def xm_doWord_b (np nd : Nat) (a1 : Int32) (u : mx_S) : mx_S :=
  if (xw_code a1 ) = 23 then
   (xb_add (xw_target a1 ) u)
  else
  if (xw_code a1 ) = 24 then
   (xb_add (xm_operandB a1 u) u)
  else
  if (xw_code a1 ) = 25 then
   (mx_sf (xb_add (mx_gf u 0 9) u) 0 11 1)
  else
  if (xw_code a1 ) = 26 then
   (mx_sf u 0 8 (if (mx_gf u 0 8) < ((xm_operandB a1 u) &&& (15 : Int32)) then ((xm_operandB a1 u) &&& (15 : Int32)) else (mx_gf u 0 8)))
  else
  if (xw_code a1 ) = 27 then
   (mx_sf u 0 5 9)
  else
  if (xw_code a1 ) = 51 then
   u
  else
  (xq_add (xw_d a1 ) (xm_valueOf np nd a1 u) (xw_timeOfWrite a1 ) u)
theorem xm_doWord_ex : ∃ f : Nat → Nat → Int32 → mx_S → (mx_S), f = xm_doWord_b := ⟨_, rfl⟩
noncomputable def xm_doWord : Nat → Nat → Int32 → mx_S → (mx_S) := Classical.choose xm_doWord_ex
theorem xm_doWord_eq (np nd : Nat) (a1 : Int32) (u : mx_S) : (xm_doWord np nd a1 u) = (xm_doWord_b np nd a1 u) := by rw [show xm_doWord = xm_doWord_b from Classical.choose_spec xm_doWord_ex]
def q_xm_doWord (np nd : Nat) (a1 : Int32) (u : mx_S) : Prop :=
  (((xw_code a1 ) = 23) → 
   ((q_xb_add np nd (xw_target a1 ) u))) ∧ (¬ ((xw_code a1 ) = 23) → 
  (((xw_code a1 ) = 24) → 
   ((q_xb_add np nd (xm_operandB a1 u) u))) ∧ (¬ ((xw_code a1 ) = 24) → 
  (((xw_code a1 ) = 25) → 
   ((q_xb_add np nd (mx_gf u 0 9) u))) ∧ (¬ ((xw_code a1 ) = 25) → 
  (((xw_code a1 ) = 26) → 
   True) ∧ (¬ ((xw_code a1 ) = 26) → 
  (((xw_code a1 ) = 27) → 
   True) ∧ (¬ ((xw_code a1 ) = 27) → 
  (((xw_code a1 ) = 51) → 
   True) ∧ (¬ ((xw_code a1 ) = 51) → 
   ((q_xm_valueOf np nd a1 u)) ∧ (
    ((q_xq_add np nd (xw_d a1 ) (xm_valueOf np nd a1 u) (xw_timeOfWrite a1 ) u)))))))))
def pre_xm_doWord (np nd : Nat) : List mx_V → mx_S → Prop := fun as u => ∃ (a1 : Int32), as = [.inr (.inr 0), .inl a1] ∧ q_xm_doWord np nd a1 u
noncomputable def fn_xm_doWord (np nd : Nat) : mx_F := fun as u => match as with
  | [_, .inl a1] => (none, (xm_doWord np nd a1 u))
  | _ => (none, u)
noncomputable def tb_xm_doWord (np nd : Nat) : List (Nat × mx_T) := [
  (0, mx_iload_n 1 0),
  (1, mx_invS 1 (pre_xw_code np nd) (fn_xw_code np nd) 1),
  (4, mx_lsw0 146 [(23, 64), (24, 78), (25, 93), (26, 112), (27, 134), (51, 143)] 4),
  (64, mx_aload_n 0 64),
  (65, mx_getf (kx np nd) 0 4 65),
  (68, mx_iload_n 1 68),
  (69, mx_invS 1 (pre_xw_target np nd) (fn_xw_target np nd) 69),
  (72, mx_invV (kx np nd) 2 1 (pre_xb_add np nd) (fn_xb_add np nd) 72),
  (75, mx_goto 166 75),
  (78, mx_aload_n 0 78),
  (79, mx_getf (kx np nd) 0 4 79),
  (82, mx_aload_n 0 82),
  (83, mx_iload_n 1 83),
  (84, mx_invV (kx np nd) 0 1 (pre_xm_operandB np nd) (fn_xm_operandB np nd) 84),
  (87, mx_invV (kx np nd) 2 1 (pre_xb_add np nd) (fn_xb_add np nd) 87),
  (90, mx_goto 166 90),
  (93, mx_aload_n 0 93),
  (94, mx_getf (kx np nd) 0 4 94),
  (97, mx_aload_n 0 97),
  (98, mx_getf (kx np nd) 0 9 98),
  (101, mx_invV (kx np nd) 2 1 (pre_xb_add np nd) (fn_xb_add np nd) 101),
  (104, mx_aload_n 0 104),
  (105, mx_iconst 1 105),
  (106, mx_putz (kx np nd) 0 11 106),
  (109, mx_goto 166 109),
  (112, mx_aload_n 0 112),
  (113, mx_aload_n 0 113),
  (114, mx_getf (kx np nd) 0 8 114),
  (117, mx_aload_n 0 117),
  (118, mx_iload_n 1 118),
  (119, mx_invV (kx np nd) 0 1 (pre_xm_operandB np nd) (fn_xm_operandB np nd) 119),
  (122, mx_bipush 15 122),
  (124, mx_iand 124),
  (125, mx_mmax 125),
  (128, mx_putf (kx np nd) 0 8 128),
  (131, mx_goto 166 131),
  (134, mx_aload_n 0 134),
  (135, mx_bipush 9 135),
  (137, mx_putf (kx np nd) 0 5 137),
  (140, mx_goto 166 140),
  (143, mx_goto 166 143),
  (146, mx_aload_n 0 146),
  (147, mx_getf (kx np nd) 0 3 147),
  (150, mx_iload_n 1 150),
  (151, mx_invS 1 (pre_xw_d np nd) (fn_xw_d np nd) 151),
  (154, mx_aload_n 0 154),
  (155, mx_iload_n 1 155),
  (156, mx_invV (kx np nd) 0 1 (pre_xm_valueOf np nd) (fn_xm_valueOf np nd) 156),
  (159, mx_iload_n 1 159),
  (160, mx_invS 1 (pre_xw_timeOfWrite np nd) (fn_xw_timeOfWrite np nd) 160),
  (163, mx_invV (kx np nd) 1 3 (pre_xq_add np nd) (fn_xq_add np nd) 163),
  (166, mx_vret 166)]
set_option maxRecDepth 100000 in
set_option maxHeartbeats 4000000 in
theorem ok_xm_doWord (l : Launch) (np nd : Nat) : ∀ q ∈ tb_xm_doWord np nd , mx_Ok l ({ frames := 3, cells := 0, slots := 0, locals := 69 } : Room) b_xm_doWord 2 "WideMachine" none vw_T vw_cl (kx np nd) q.1 q.2 := by
  refine List.forall_mem_cons.mpr ⟨mx_ok_iload_n (show decode b_xm_doWord 0 = .ok (.iload_n 1, 1) by decide +kernel) rfl, ?_⟩
  refine List.forall_mem_cons.mpr ⟨mx_ok_invS vw_G (ct_xw_code l np nd) ⟨vm_159, vm_100, vm_97, ⟨by decide +kernel, by decide +kernel, by decide +kernel⟩, ⟨by decide, by decide⟩, rfl, rfl⟩ vm_101 (show decode b_xm_doWord 1 = .ok (.invokestatic 163, 3) by decide +kernel), ?_⟩
  refine List.forall_mem_cons.mpr ⟨mx_ok_lsw0 (show decode b_xm_doWord 4 = .ok (.lookupswitch 142 #[(23, 60), (24, 74), (25, 89), (26, 108), (27, 130), (51, 139)], 60) by decide +kernel) (by decide) (by decide) (by decide), ?_⟩
  refine List.forall_mem_cons.mpr ⟨mx_ok_aload_n (show decode b_xm_doWord 64 = .ok (.aload_n 0, 1) by decide +kernel) rfl, ?_⟩
  refine List.forall_mem_cons.mpr ⟨mx_ok_getf fd_xm_33 (show decode b_xm_doWord 65 = .ok (.getfield 33, 3) by decide +kernel), ?_⟩
  refine List.forall_mem_cons.mpr ⟨mx_ok_iload_n (show decode b_xm_doWord 68 = .ok (.iload_n 1, 1) by decide +kernel) rfl, ?_⟩
  refine List.forall_mem_cons.mpr ⟨mx_ok_invS vw_G (ct_xw_target l np nd) ⟨vm_223, vm_224, vm_97, ⟨by decide +kernel, by decide +kernel, by decide +kernel⟩, ⟨by decide, by decide⟩, rfl, rfl⟩ vm_225 (show decode b_xm_doWord 69 = .ok (.invokestatic 199, 3) by decide +kernel), ?_⟩
  refine List.forall_mem_cons.mpr ⟨mx_ok_invV vw_G (ct_xb_add l np nd) ⟨vm_226, vm_227, vm_75, ⟨by decide +kernel, by decide +kernel, by decide +kernel⟩, ⟨by decide, by decide⟩, rfl, rfl⟩ vm_228 vm_229 rfl (show decode b_xm_doWord 72 = .ok (.invokevirtual 202, 3) by decide +kernel), ?_⟩
  refine List.forall_mem_cons.mpr ⟨mx_ok_goto (show decode b_xm_doWord 75 = .ok (.goto 91, 3) by decide +kernel) (by decide), ?_⟩
  refine List.forall_mem_cons.mpr ⟨mx_ok_aload_n (show decode b_xm_doWord 78 = .ok (.aload_n 0, 1) by decide +kernel) rfl, ?_⟩
  refine List.forall_mem_cons.mpr ⟨mx_ok_getf fd_xm_33 (show decode b_xm_doWord 79 = .ok (.getfield 33, 3) by decide +kernel), ?_⟩
  refine List.forall_mem_cons.mpr ⟨mx_ok_aload_n (show decode b_xm_doWord 82 = .ok (.aload_n 0, 1) by decide +kernel) rfl, ?_⟩
  refine List.forall_mem_cons.mpr ⟨mx_ok_iload_n (show decode b_xm_doWord 83 = .ok (.iload_n 1, 1) by decide +kernel) rfl, ?_⟩
  refine List.forall_mem_cons.mpr ⟨mx_ok_invV vw_G (ct_xm_operandB l np nd) ⟨vm_155, vm_156, vm_46, ⟨by decide +kernel, by decide +kernel, by decide +kernel⟩, ⟨by decide, by decide⟩, rfl, rfl⟩ vm_157 vm_158 rfl (show decode b_xm_doWord 84 = .ok (.invokevirtual 181, 3) by decide +kernel), ?_⟩
  refine List.forall_mem_cons.mpr ⟨mx_ok_invV vw_G (ct_xb_add l np nd) ⟨vm_226, vm_227, vm_75, ⟨by decide +kernel, by decide +kernel, by decide +kernel⟩, ⟨by decide, by decide⟩, rfl, rfl⟩ vm_228 vm_229 rfl (show decode b_xm_doWord 87 = .ok (.invokevirtual 202, 3) by decide +kernel), ?_⟩
  refine List.forall_mem_cons.mpr ⟨mx_ok_goto (show decode b_xm_doWord 90 = .ok (.goto 76, 3) by decide +kernel) (by decide), ?_⟩
  refine List.forall_mem_cons.mpr ⟨mx_ok_aload_n (show decode b_xm_doWord 93 = .ok (.aload_n 0, 1) by decide +kernel) rfl, ?_⟩
  refine List.forall_mem_cons.mpr ⟨mx_ok_getf fd_xm_33 (show decode b_xm_doWord 94 = .ok (.getfield 33, 3) by decide +kernel), ?_⟩
  refine List.forall_mem_cons.mpr ⟨mx_ok_aload_n (show decode b_xm_doWord 97 = .ok (.aload_n 0, 1) by decide +kernel) rfl, ?_⟩
  refine List.forall_mem_cons.mpr ⟨mx_ok_getf fd_xm_61 (show decode b_xm_doWord 98 = .ok (.getfield 61, 3) by decide +kernel), ?_⟩
  refine List.forall_mem_cons.mpr ⟨mx_ok_invV vw_G (ct_xb_add l np nd) ⟨vm_226, vm_227, vm_75, ⟨by decide +kernel, by decide +kernel, by decide +kernel⟩, ⟨by decide, by decide⟩, rfl, rfl⟩ vm_228 vm_229 rfl (show decode b_xm_doWord 101 = .ok (.invokevirtual 202, 3) by decide +kernel), ?_⟩
  refine List.forall_mem_cons.mpr ⟨mx_ok_aload_n (show decode b_xm_doWord 104 = .ok (.aload_n 0, 1) by decide +kernel) rfl, ?_⟩
  refine List.forall_mem_cons.mpr ⟨mx_ok_iconst (show decode b_xm_doWord 105 = .ok (.iconst 1, 1) by decide +kernel) (by decide), ?_⟩
  refine List.forall_mem_cons.mpr ⟨mx_ok_putz fd_xm_64 fw_0_11 (show decode b_xm_doWord 106 = .ok (.putfield 64, 3) by decide +kernel), ?_⟩
  refine List.forall_mem_cons.mpr ⟨mx_ok_goto (show decode b_xm_doWord 109 = .ok (.goto 57, 3) by decide +kernel) (by decide), ?_⟩
  refine List.forall_mem_cons.mpr ⟨mx_ok_aload_n (show decode b_xm_doWord 112 = .ok (.aload_n 0, 1) by decide +kernel) rfl, ?_⟩
  refine List.forall_mem_cons.mpr ⟨mx_ok_aload_n (show decode b_xm_doWord 113 = .ok (.aload_n 0, 1) by decide +kernel) rfl, ?_⟩
  refine List.forall_mem_cons.mpr ⟨mx_ok_getf fd_xm_58 (show decode b_xm_doWord 114 = .ok (.getfield 58, 3) by decide +kernel), ?_⟩
  refine List.forall_mem_cons.mpr ⟨mx_ok_aload_n (show decode b_xm_doWord 117 = .ok (.aload_n 0, 1) by decide +kernel) rfl, ?_⟩
  refine List.forall_mem_cons.mpr ⟨mx_ok_iload_n (show decode b_xm_doWord 118 = .ok (.iload_n 1, 1) by decide +kernel) rfl, ?_⟩
  refine List.forall_mem_cons.mpr ⟨mx_ok_invV vw_G (ct_xm_operandB l np nd) ⟨vm_155, vm_156, vm_46, ⟨by decide +kernel, by decide +kernel, by decide +kernel⟩, ⟨by decide, by decide⟩, rfl, rfl⟩ vm_157 vm_158 rfl (show decode b_xm_doWord 119 = .ok (.invokevirtual 181, 3) by decide +kernel), ?_⟩
  refine List.forall_mem_cons.mpr ⟨mx_ok_bipush (show decode b_xm_doWord 122 = .ok (.bipush 15, 2) by decide +kernel) (by decide), ?_⟩
  refine List.forall_mem_cons.mpr ⟨mx_ok_iand (show decode b_xm_doWord 124 = .ok (.iand, 1) by decide +kernel), ?_⟩
  refine List.forall_mem_cons.mpr ⟨mx_ok_mmax vm_231 vm_232 vm_233 vm_234 (by decide) (by decide) (show decode b_xm_doWord 125 = .ok (.invokestatic 93, 3) by decide +kernel), ?_⟩
  refine List.forall_mem_cons.mpr ⟨mx_ok_putf fd_xm_58 fw_0_8 (show decode b_xm_doWord 128 = .ok (.putfield 58, 3) by decide +kernel), ?_⟩
  refine List.forall_mem_cons.mpr ⟨mx_ok_goto (show decode b_xm_doWord 131 = .ok (.goto 35, 3) by decide +kernel) (by decide), ?_⟩
  refine List.forall_mem_cons.mpr ⟨mx_ok_aload_n (show decode b_xm_doWord 134 = .ok (.aload_n 0, 1) by decide +kernel) rfl, ?_⟩
  refine List.forall_mem_cons.mpr ⟨mx_ok_bipush (show decode b_xm_doWord 135 = .ok (.bipush 9, 2) by decide +kernel) (by decide), ?_⟩
  refine List.forall_mem_cons.mpr ⟨mx_ok_putf fd_xm_41 fw_0_5 (show decode b_xm_doWord 137 = .ok (.putfield 41, 3) by decide +kernel), ?_⟩
  refine List.forall_mem_cons.mpr ⟨mx_ok_goto (show decode b_xm_doWord 140 = .ok (.goto 26, 3) by decide +kernel) (by decide), ?_⟩
  refine List.forall_mem_cons.mpr ⟨mx_ok_goto (show decode b_xm_doWord 143 = .ok (.goto 23, 3) by decide +kernel) (by decide), ?_⟩
  refine List.forall_mem_cons.mpr ⟨mx_ok_aload_n (show decode b_xm_doWord 146 = .ok (.aload_n 0, 1) by decide +kernel) rfl, ?_⟩
  refine List.forall_mem_cons.mpr ⟨mx_ok_getf fd_xm_26 (show decode b_xm_doWord 147 = .ok (.getfield 26, 3) by decide +kernel), ?_⟩
  refine List.forall_mem_cons.mpr ⟨mx_ok_iload_n (show decode b_xm_doWord 150 = .ok (.iload_n 1, 1) by decide +kernel) rfl, ?_⟩
  refine List.forall_mem_cons.mpr ⟨mx_ok_invS vw_G (ct_xw_d l np nd) ⟨vm_201, vm_115, vm_97, ⟨by decide +kernel, by decide +kernel, by decide +kernel⟩, ⟨by decide, by decide⟩, rfl, rfl⟩ vm_116 (show decode b_xm_doWord 151 = .ok (.invokestatic 205, 3) by decide +kernel), ?_⟩
  refine List.forall_mem_cons.mpr ⟨mx_ok_aload_n (show decode b_xm_doWord 154 = .ok (.aload_n 0, 1) by decide +kernel) rfl, ?_⟩
  refine List.forall_mem_cons.mpr ⟨mx_ok_iload_n (show decode b_xm_doWord 155 = .ok (.iload_n 1, 1) by decide +kernel) rfl, ?_⟩
  refine List.forall_mem_cons.mpr ⟨mx_ok_invV vw_G (ct_xm_valueOf l np nd) ⟨vm_235, vm_236, vm_46, ⟨by decide +kernel, by decide +kernel, by decide +kernel⟩, ⟨by decide, by decide⟩, rfl, rfl⟩ vm_237 vm_238 rfl (show decode b_xm_doWord 156 = .ok (.invokevirtual 208, 3) by decide +kernel), ?_⟩
  refine List.forall_mem_cons.mpr ⟨mx_ok_iload_n (show decode b_xm_doWord 159 = .ok (.iload_n 1, 1) by decide +kernel) rfl, ?_⟩
  refine List.forall_mem_cons.mpr ⟨mx_ok_invS vw_G (ct_xw_timeOfWrite l np nd) ⟨vm_239, vm_240, vm_97, ⟨by decide +kernel, by decide +kernel, by decide +kernel⟩, ⟨by decide, by decide⟩, rfl, rfl⟩ vm_241 (show decode b_xm_doWord 160 = .ok (.invokestatic 211, 3) by decide +kernel), ?_⟩
  refine List.forall_mem_cons.mpr ⟨mx_ok_invV vw_G (ct_xq_add l np nd) ⟨vm_242, vm_243, vm_57, ⟨by decide +kernel, by decide +kernel, by decide +kernel⟩, ⟨by decide, by decide⟩, rfl, rfl⟩ vm_244 vm_245 rfl (show decode b_xm_doWord 163 = .ok (.invokevirtual 214, 3) by decide +kernel), ?_⟩
  refine List.forall_mem_cons.mpr ⟨mx_ok_vret (show decode b_xm_doWord 166 = .ok (.return_, 1) by decide +kernel) rfl, ?_⟩
  exact fun _ h => absurd h List.not_mem_nil
set_option maxRecDepth 100000 in
set_option maxHeartbeats 4000000 in
theorem ct_xm_doWord (l : Launch) (np nd : Nat) : mx_Ct l vw_T vw_cl (kx np nd) { frames := 3, cells := 0, slots := 0, locals := 69 } y_xm_doWord b_xm_doWord 2 none (pre_xm_doWord np nd) (fn_xm_doWord np nd) := by
  refine mx_ct_of (tb_xm_doWord np nd ) (by decide) (ok_xm_doWord l np nd ) (fun as u h => by obtain ⟨_, rfl, -⟩ := h; exact Nat.le_of_ble_eq_true rfl) ?_
  intro as u hpre At hc hw
  obtain ⟨a1, rfl, hp⟩ := hpre
  exact hc 200 [] _ _ _ _ (
    And.intro rfl (
    And.intro ⟨_, rfl, trivial⟩ (
    And.intro (fun h4_0 => 
     And.intro rfl (
     And.intro ⟨_, rfl, trivial⟩ (
     And.intro rfl (
     And.intro ⟨_, rfl, (hp.1 h4_0)⟩ (
     congrArg (fun z : mx_S => ((none, z) : Option mx_V × mx_S)) (show (xb_add (xw_target a1 ) u) = (xm_doWord np nd a1 u) from ((xm_doWord_eq np nd a1 u).trans (if_pos h4_0)).symm)))))) (fun h4_0 => 
    And.intro (fun h4_1 => 
     And.intro rfl (
     And.intro ⟨_, rfl, trivial⟩ (
     And.intro rfl (
     And.intro ⟨_, rfl, ((hp.2 h4_0).1 h4_1)⟩ (
     congrArg (fun z : mx_S => ((none, z) : Option mx_V × mx_S)) (show (xb_add (xm_operandB a1 u) u) = (xm_doWord np nd a1 u) from ((xm_doWord_eq np nd a1 u).trans ((if_neg h4_0).trans (if_pos h4_1))).symm)))))) (fun h4_1 => 
    And.intro (fun h4_2 => 
     And.intro rfl (
     And.intro ⟨_, rfl, (((hp.2 h4_0).2 h4_1).1 h4_2)⟩ (
     And.intro rfl (
     And.intro (Or.inr rfl) (
     congrArg (fun z : mx_S => ((none, z) : Option mx_V × mx_S)) (show (mx_sf (xb_add (mx_gf u 0 9) u) 0 11 1) = (xm_doWord np nd a1 u) from ((xm_doWord_eq np nd a1 u).trans ((if_neg h4_0).trans ((if_neg h4_1).trans (if_pos h4_2)))).symm)))))) (fun h4_2 => 
    And.intro (fun h4_3 => 
     And.intro rfl (
     And.intro ⟨_, rfl, trivial⟩ (
     And.intro rfl (
     And.intro rfl (
     congrArg (fun z : mx_S => ((none, z) : Option mx_V × mx_S)) (show (mx_sf u 0 8 (if (mx_gf u 0 8) < ((xm_operandB a1 u) &&& (15 : Int32)) then ((xm_operandB a1 u) &&& (15 : Int32)) else (mx_gf u 0 8))) = (xm_doWord np nd a1 u) from ((xm_doWord_eq np nd a1 u).trans ((if_neg h4_0).trans ((if_neg h4_1).trans ((if_neg h4_2).trans (if_pos h4_3))))).symm)))))) (fun h4_3 => 
    And.intro (fun h4_4 => 
     And.intro rfl (
     congrArg (fun z : mx_S => ((none, z) : Option mx_V × mx_S)) (show (mx_sf u 0 5 9) = (xm_doWord np nd a1 u) from ((xm_doWord_eq np nd a1 u).trans ((if_neg h4_0).trans ((if_neg h4_1).trans ((if_neg h4_2).trans ((if_neg h4_3).trans (if_pos h4_4)))))).symm))) (fun h4_4 => 
    And.intro (fun h4_5 => 
     congrArg (fun z : mx_S => ((none, z) : Option mx_V × mx_S)) (show u = (xm_doWord np nd a1 u) from ((xm_doWord_eq np nd a1 u).trans ((if_neg h4_0).trans ((if_neg h4_1).trans ((if_neg h4_2).trans ((if_neg h4_3).trans ((if_neg h4_4).trans (if_pos h4_5))))))).symm)) (fun h4_5 => 
     And.intro rfl (
     And.intro ⟨_, rfl, trivial⟩ (
     And.intro rfl (
     And.intro ⟨_, rfl, ((((((hp.2 h4_0).2 h4_1).2 h4_2).2 h4_3).2 h4_4).2 h4_5).1⟩ (
     And.intro rfl (
     And.intro ⟨_, rfl, trivial⟩ (
     And.intro rfl (
     And.intro ⟨_, _, _, rfl, ((((((hp.2 h4_0).2 h4_1).2 h4_2).2 h4_3).2 h4_4).2 h4_5).2⟩ (
     congrArg (fun z : mx_S => ((none, z) : Option mx_V × mx_S)) (show (xq_add (xw_d a1 ) (xm_valueOf np nd a1 u) (xw_timeOfWrite a1 ) u) = (xm_doWord np nd a1 u) from ((xm_doWord_eq np nd a1 u).trans ((if_neg h4_0).trans ((if_neg h4_1).trans ((if_neg h4_2).trans ((if_neg h4_3).trans ((if_neg h4_4).trans (if_neg h4_5))))))).symm))))))))))))))))))
