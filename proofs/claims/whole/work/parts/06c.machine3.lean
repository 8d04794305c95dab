/-! WideMachine.doPacket(I)V -/
noncomputable def xm_doPacket_l5 (np nd : Nat) (a1 : Int32) : Nat → Int32 → mx_S → (mx_S)
  | 0, _, u => u
  | n + 1, v2, u =>
    if a1 ≤ v2 then
     (xm_doStores np nd a1 u)
    else
     if (xm_isConditionTrue (mx_ga u 1 (v2).toNatClampNeg) u) = 0 then
      xm_doPacket_l5 np nd a1 n (v2 + 1) u
     else
      xm_doPacket_l5 np nd a1 n (v2 + 1) (xm_doWord np nd (mx_ga u 1 (v2).toNatClampNeg) u)
def q_xm_doPacket_l5 (np nd : Nat) (a1 : Int32) : Nat → Int32 → mx_S → Prop
  | 0, _, _ => False
  | n + 1, v2, u =>
    ((a1 ≤ v2) → 
     ((q_xm_doStores np nd a1 u))) ∧ ((¬ (a1 ≤ v2)) → 
     (vp_in v2 np) ∧ (
      ((q_xm_isConditionTrue np nd (mx_ga u 1 (v2).toNatClampNeg) u)) ∧ (
       (((xm_isConditionTrue (mx_ga u 1 (v2).toNatClampNeg) u) = 0) → 
        q_xm_doPacket_l5 np nd a1 n (v2 + 1) u) ∧ ((¬ ((xm_isConditionTrue (mx_ga u 1 (v2).toNatClampNeg) u) = 0)) → 
        (vp_in v2 np) ∧ (
         ((q_xm_doWord np nd (mx_ga u 1 (v2).toNatClampNeg) u)) ∧ (
          q_xm_doPacket_l5 np nd a1 n (v2 + 1) (xm_doWord np nd (mx_ga u 1 (v2).toNatClampNeg) u)))))))
noncomputable def xm_doPacket_b (np nd : Nat) (a1 : Int32) (u : mx_S) : mx_S :=
  xm_doPacket_l5 np nd a1 20 (mx_gf u 0 6) u
theorem xm_doPacket_ex : ∃ f : Nat → Nat → Int32 → mx_S → (mx_S), f = xm_doPacket_b := ⟨_, rfl⟩
noncomputable def xm_doPacket : Nat → Nat → Int32 → mx_S → (mx_S) := Classical.choose xm_doPacket_ex
theorem xm_doPacket_eq (np nd : Nat) (a1 : Int32) (u : mx_S) : (xm_doPacket np nd a1 u) = (xm_doPacket_b np nd a1 u) := by rw [show xm_doPacket = xm_doPacket_b from Classical.choose_spec xm_doPacket_ex]
def q_xm_doPacket (np nd : Nat) (a1 : Int32) (u : mx_S) : Prop :=
  q_xm_doPacket_l5 np nd a1 20 (mx_gf u 0 6) u
def pre_xm_doPacket (np nd : Nat) : List mx_V → mx_S → Prop := fun as u => ∃ (a1 : Int32), as = [.inr (.inr 0), .inl a1] ∧ q_xm_doPacket np nd a1 u
noncomputable def fn_xm_doPacket (np nd : Nat) : mx_F := fun as u => match as with
  | [_, .inl a1] => (none, (xm_doPacket np nd a1 u))
  | _ => (none, u)
noncomputable def tb_xm_doPacket (np nd : Nat) : List (Nat × mx_T) := [
  (0, mx_aload_n 0 0),
  (1, mx_getf (kx np nd) 0 6 1),
  (4, mx_istore_n 2 4),
  (5, mx_iload_n 2 5),
  (6, mx_iload_n 1 6),
  (7, mx_icmp_ge 39 7),
  (10, mx_aload_n 0 10),
  (11, mx_aload_n 0 11),
  (12, mx_getf (kx np nd) 0 0 12),
  (15, mx_iload_n 2 15),
  (16, mx_iald (kx np nd) 16),
  (17, mx_invV (kx np nd) 0 1 (pre_xm_isConditionTrue np nd) (fn_xm_isConditionTrue np nd) 17),
  (20, mx_if_eq 33 20),
  (23, mx_aload_n 0 23),
  (24, mx_aload_n 0 24),
  (25, mx_getf (kx np nd) 0 0 25),
  (28, mx_iload_n 2 28),
  (29, mx_iald (kx np nd) 29),
  (30, mx_invV (kx np nd) 0 1 (pre_xm_doWord np nd) (fn_xm_doWord np nd) 30),
  (33, mx_iinc 2 1 33),
  (36, mx_goto 5 36),
  (39, mx_aload_n 0 39),
  (40, mx_iload_n 1 40),
  (41, mx_invV (kx np nd) 0 1 (pre_xm_doStores np nd) (fn_xm_doStores np nd) 41),
  (44, mx_vret 44)]
set_option maxRecDepth 100000 in
set_option maxHeartbeats 4000000 in
theorem ok_xm_doPacket (l : Launch) (np nd : Nat) : ∀ q ∈ tb_xm_doPacket np nd , mx_Ok l ({ frames := 4, cells := 0, slots := 0, locals := 90 } : Room) b_xm_doPacket 3 "WideMachine" none vw_T vw_cl (kx np nd) q.1 q.2 := by
  refine List.forall_mem_cons.mpr ⟨mx_ok_aload_n (show decode b_xm_doPacket 0 = .ok (.aload_n 0, 1) by decide +kernel) rfl, ?_⟩
  refine List.forall_mem_cons.mpr ⟨mx_ok_getf fd_xm_48 (show decode b_xm_doPacket 1 = .ok (.getfield 48, 3) by decide +kernel), ?_⟩
  refine List.forall_mem_cons.mpr ⟨mx_ok_istore_n (show decode b_xm_doPacket 4 = .ok (.istore_n 2, 1) by decide +kernel) rfl (by decide), ?_⟩
  refine List.forall_mem_cons.mpr ⟨mx_ok_iload_n (show decode b_xm_doPacket 5 = .ok (.iload_n 2, 1) by decide +kernel) rfl, ?_⟩
  refine List.forall_mem_cons.mpr ⟨mx_ok_iload_n (show decode b_xm_doPacket 6 = .ok (.iload_n 1, 1) by decide +kernel) rfl, ?_⟩
  refine List.forall_mem_cons.mpr ⟨mx_ok_icmp_ge (show decode b_xm_doPacket 7 = .ok (.if_icmp .ge 32, 3) by decide +kernel) (by decide), ?_⟩
  refine List.forall_mem_cons.mpr ⟨mx_ok_aload_n (show decode b_xm_doPacket 10 = .ok (.aload_n 0, 1) by decide +kernel) rfl, ?_⟩
  refine List.forall_mem_cons.mpr ⟨mx_ok_aload_n (show decode b_xm_doPacket 11 = .ok (.aload_n 0, 1) by decide +kernel) rfl, ?_⟩
  refine List.forall_mem_cons.mpr ⟨mx_ok_getf fd_xm_13 (show decode b_xm_doPacket 12 = .ok (.getfield 13, 3) by decide +kernel), ?_⟩
  refine List.forall_mem_cons.mpr ⟨mx_ok_iload_n (show decode b_xm_doPacket 15 = .ok (.iload_n 2, 1) by decide +kernel) rfl, ?_⟩
  refine List.forall_mem_cons.mpr ⟨mx_ok_iald (show decode b_xm_doPacket 16 = .ok (.iaload, 1) by decide +kernel), ?_⟩
  refine List.forall_mem_cons.mpr ⟨mx_ok_invV vw_G (ct_xm_isConditionTrue l np nd) ⟨vm_160, vm_161, vm_46, ⟨by decide +kernel, by decide +kernel, by decide +kernel⟩, ⟨by decide, by decide⟩, rfl, rfl⟩ vm_162 vm_163 rfl (show decode b_xm_doPacket 17 = .ok (.invokevirtual 166, 3) by decide +kernel), ?_⟩
  refine List.forall_mem_cons.mpr ⟨mx_ok_if_eq (show decode b_xm_doPacket 20 = .ok (.ifCond .eq 13, 3) by decide +kernel) (by decide), ?_⟩
  refine List.forall_mem_cons.mpr ⟨mx_ok_aload_n (show decode b_xm_doPacket 23 = .ok (.aload_n 0, 1) by decide +kernel) rfl, ?_⟩
  refine List.forall_mem_cons.mpr ⟨mx_ok_aload_n (show decode b_xm_doPacket 24 = .ok (.aload_n 0, 1) by decide +kernel) rfl, ?_⟩
  refine List.forall_mem_cons.mpr ⟨mx_ok_getf fd_xm_13 (show decode b_xm_doPacket 25 = .ok (.getfield 13, 3) by decide +kernel), ?_⟩
  refine List.forall_mem_cons.mpr ⟨mx_ok_iload_n (show decode b_xm_doPacket 28 = .ok (.iload_n 2, 1) by decide +kernel) rfl, ?_⟩
  refine List.forall_mem_cons.mpr ⟨mx_ok_iald (show decode b_xm_doPacket 29 = .ok (.iaload, 1) by decide +kernel), ?_⟩
  refine List.forall_mem_cons.mpr ⟨mx_ok_invV vw_G (ct_xm_doWord l np nd) ⟨vm_250, vm_251, vm_46, ⟨by decide +kernel, by decide +kernel, by decide +kernel⟩, ⟨by decide, by decide⟩, rfl, rfl⟩ vm_252 vm_253 rfl (show decode b_xm_doPacket 30 = .ok (.invokevirtual 193, 3) by decide +kernel), ?_⟩
  refine List.forall_mem_cons.mpr ⟨mx_ok_iinc (show decode b_xm_doPacket 33 = .ok (.iinc 2 1, 3) by decide +kernel) (by decide) (by decide), ?_⟩
  refine List.forall_mem_cons.mpr ⟨mx_ok_goto (show decode b_xm_doPacket 36 = .ok (.goto (-31), 3) by decide +kernel) (by decide), ?_⟩
  refine List.forall_mem_cons.mpr ⟨mx_ok_aload_n (show decode b_xm_doPacket 39 = .ok (.aload_n 0, 1) by decide +kernel) rfl, ?_⟩
  refine List.forall_mem_cons.mpr ⟨mx_ok_iload_n (show decode b_xm_doPacket 40 = .ok (.iload_n 1, 1) by decide +kernel) rfl, ?_⟩
  refine List.forall_mem_cons.mpr ⟨mx_ok_invV vw_G (ct_xm_doStores l np nd) ⟨vm_254, vm_255, vm_46, ⟨by decide +kernel, by decide +kernel, by decide +kernel⟩, ⟨by decide, by decide⟩, rfl, rfl⟩ vm_256 vm_257 rfl (show decode b_xm_doPacket 41 = .ok (.invokevirtual 196, 3) by decide +kernel), ?_⟩
  refine List.forall_mem_cons.mpr ⟨mx_ok_vret (show decode b_xm_doPacket 44 = .ok (.return_, 1) by decide +kernel) rfl, ?_⟩
  exact fun _ h => absurd h List.not_mem_nil
set_option maxRecDepth 100000 in
set_option maxHeartbeats 4000000 in
theorem ct_xm_doPacket (l : Launch) (np nd : Nat) : mx_Ct l vw_T vw_cl (kx np nd) { frames := 4, cells := 0, slots := 0, locals := 90 } y_xm_doPacket b_xm_doPacket 3 none (pre_xm_doPacket np nd) (fn_xm_doPacket np nd) := by
  refine mx_ct_of (tb_xm_doPacket np nd ) (by decide) (ok_xm_doPacket l np nd ) (fun as u h => by obtain ⟨_, rfl, -⟩ := h; exact Nat.le_of_ble_eq_true rfl) ?_
  intro as u hpre At hc hw
  obtain ⟨a1, rfl, hp⟩ := hpre
  obtain ⟨RES, hRES⟩ : ∃ z, z = (xm_doPacket np nd a1 u) := ⟨_, rfl⟩
  have hfn : fn_xm_doPacket np nd [.inr (.inr 0), .inl a1] u = (none, RES) := by rw [hRES]; rfl
  rw [hfn] at hc
  have lp5 : ∀ (n5 : Nat) (v2 : Int32) (u : mx_S), q_xm_doPacket_l5 np nd a1 n5 v2 u → xm_doPacket_l5 np nd a1 n5 v2 u = RES → At 5 [(2, .inl v2), (0, .inr (.inr 0)), (1, .inl a1)] [] u := by
    intro n5
    induction n5 with
    | zero =>
      intro v2 u hi he
      exact hi.elim
    | succ n5 ih5 =>
      intro v2 u hi5 he5
      exact hc 200 [5] _ _ _ _ (
        And.intro (fun h7 => 
         And.intro rfl (
         And.intro ⟨_, rfl, (hi5.1 h7)⟩ (
         congrArg (fun z : mx_S => ((none, z) : Option mx_V × mx_S)) (show (xm_doStores np nd a1 u) = RES from (if_pos h7).symm.trans he5)))) (fun h7 => 
         And.intro ((hi5.2 h7).1) (
         And.intro rfl (
         And.intro ⟨_, rfl, (hi5.2 h7).2.1⟩ (
         And.intro (fun h20 => 
          hw [0, 1, 2] 5 _ [] _ (ih5 (v2 + 1) u ((hi5.2 h7).2.2.1 h20) (((if_neg h7).trans (if_pos h20)).symm.trans he5))) (fun h20 => 
          And.intro (((hi5.2 h7).2.2.2 h20).1) (
          And.intro rfl (
          And.intro ⟨_, rfl, ((hi5.2 h7).2.2.2 h20).2.1⟩ (
          hw [0, 1, 2] 5 _ [] _ (ih5 (v2 + 1) (xm_doWord np nd (mx_ga u 1 (v2).toNatClampNeg) u) ((hi5.2 h7).2.2.2 h20).2.2 (((if_neg h7).trans (if_neg h20)).symm.trans he5)))))))))))
  exact hc 200 [5] _ _ _ _ (
    hw [0, 1, 2] 5 _ [] _ (lp5 20 (mx_gf u 0 6) u hp ((xm_doPacket_eq np nd a1 u).symm.trans hRES.symm)))
/-! WideMachine.doCycle()V -/
noncomputable def xm_doCycle_b (np nd : Nat) (u : mx_S) : mx_S :=
  if (mx_gf (xm_landWrites (mx_sf u 0 7 ((mx_gf u 0 7) + (1 : Int32)))) 0 5) = 0 then
   if (mx_gf (xm_takeBranch (xm_landWrites (mx_sf u 0 7 ((mx_gf u 0 7) + (1 : Int32))))) 0 5) = 0 then
    if (mx_gf (xm_takeBranch (xm_landWrites (mx_sf u 0 7 ((mx_gf u 0 7) + (1 : Int32))))) 0 8) ≤ 0 then
     if (mx_gf (mx_sf (xm_takeInterrupt (xm_takeBranch (xm_landWrites (mx_sf u 0 7 ((mx_gf u 0 7) + (1 : Int32)))))) 0 5 (xm_faultOfPacket np nd (xm_endOfPacket np nd (xm_takeInterrupt (xm_takeBranch (xm_landWrites (mx_sf u 0 7 ((mx_gf u 0 7) + (1 : Int32))))))) (xm_takeInterrupt (xm_takeBranch (xm_landWrites (mx_sf u 0 7 ((mx_gf u 0 7) + (1 : Int32)))))))) 0 5) = 0 then
      (mx_sf (xm_doPacket np nd (xm_endOfPacket np nd (xm_takeInterrupt (xm_takeBranch (xm_landWrites (mx_sf u 0 7 ((mx_gf u 0 7) + (1 : Int32))))))) (mx_sf (xm_takeInterrupt (xm_takeBranch (xm_landWrites (mx_sf u 0 7 ((mx_gf u 0 7) + (1 : Int32)))))) 0 5 (xm_faultOfPacket np nd (xm_endOfPacket np nd (xm_takeInterrupt (xm_takeBranch (xm_landWrites (mx_sf u 0 7 ((mx_gf u 0 7) + (1 : Int32))))))) (xm_takeInterrupt (xm_takeBranch (xm_landWrites (mx_sf u 0 7 ((mx_gf u 0 7) + (1 : Int32))))))))) 0 6 (xm_endOfPacket np nd (xm_takeInterrupt (xm_takeBranch (xm_landWrites (mx_sf u 0 7 ((mx_gf u 0 7) + (1 : Int32))))))))
     else
      (mx_sf (xm_takeInterrupt (xm_takeBranch (xm_landWrites (mx_sf u 0 7 ((mx_gf u 0 7) + (1 : Int32)))))) 0 5 (xm_faultOfPacket np nd (xm_endOfPacket np nd (xm_takeInterrupt (xm_takeBranch (xm_landWrites (mx_sf u 0 7 ((mx_gf u 0 7) + (1 : Int32))))))) (xm_takeInterrupt (xm_takeBranch (xm_landWrites (mx_sf u 0 7 ((mx_gf u 0 7) + (1 : Int32))))))))
    else
     (mx_sf (xm_takeBranch (xm_landWrites (mx_sf u 0 7 ((mx_gf u 0 7) + (1 : Int32))))) 0 8 ((mx_gf (xm_takeBranch (xm_landWrites (mx_sf u 0 7 ((mx_gf u 0 7) + (1 : Int32))))) 0 8) - (1 : Int32)))
   else
    (xm_takeBranch (xm_landWrites (mx_sf u 0 7 ((mx_gf u 0 7) + (1 : Int32)))))
  else
   (xm_landWrites (mx_sf u 0 7 ((mx_gf u 0 7) + (1 : Int32))))
theorem xm_doCycle_ex : ∃ f : Nat → Nat → mx_S → (mx_S), f = xm_doCycle_b := ⟨_, rfl⟩
noncomputable def xm_doCycle : Nat → Nat → mx_S → (mx_S) := Classical.choose xm_doCycle_ex
theorem xm_doCycle_eq (np nd : Nat) (u : mx_S) : (xm_doCycle np nd u) = (xm_doCycle_b np nd u) := by rw [show xm_doCycle = xm_doCycle_b from Classical.choose_spec xm_doCycle_ex]
def q_xm_doCycle (np nd : Nat) (u : mx_S) : Prop :=
  ((q_xm_landWrites np nd (mx_sf u 0 7 ((mx_gf u 0 7) + (1 : Int32))))) ∧ (
   ((¬ ((mx_gf (xm_landWrites (mx_sf u 0 7 ((mx_gf u 0 7) + (1 : Int32)))) 0 5) = 0)) → 
    True) ∧ (((mx_gf (xm_landWrites (mx_sf u 0 7 ((mx_gf u 0 7) + (1 : Int32)))) 0 5) = 0) → 
    ((q_xm_takeBranch np nd (xm_landWrites (mx_sf u 0 7 ((mx_gf u 0 7) + (1 : Int32)))))) ∧ (
     (((mx_gf (xm_takeBranch (xm_landWrites (mx_sf u 0 7 ((mx_gf u 0 7) + (1 : Int32))))) 0 5) = 0) → 
      (((mx_gf (xm_takeBranch (xm_landWrites (mx_sf u 0 7 ((mx_gf u 0 7) + (1 : Int32))))) 0 8) ≤ 0) → 
       ((q_xm_takeInterrupt np nd (xm_takeBranch (xm_landWrites (mx_sf u 0 7 ((mx_gf u 0 7) + (1 : Int32))))))) ∧ (
        ((q_xm_endOfPacket np nd (xm_takeInterrupt (xm_takeBranch (xm_landWrites (mx_sf u 0 7 ((mx_gf u 0 7) + (1 : Int32)))))))) ∧ (
         ((q_xm_faultOfPacket np nd (xm_endOfPacket np nd (xm_takeInterrupt (xm_takeBranch (xm_landWrites (mx_sf u 0 7 ((mx_gf u 0 7) + (1 : Int32))))))) (xm_takeInterrupt (xm_takeBranch (xm_landWrites (mx_sf u 0 7 ((mx_gf u 0 7) + (1 : Int32)))))))) ∧ (
          ((¬ ((mx_gf (mx_sf (xm_takeInterrupt (xm_takeBranch (xm_landWrites (mx_sf u 0 7 ((mx_gf u 0 7) + (1 : Int32)))))) 0 5 (xm_faultOfPacket np nd (xm_endOfPacket np nd (xm_takeInterrupt (xm_takeBranch (xm_landWrites (mx_sf u 0 7 ((mx_gf u 0 7) + (1 : Int32))))))) (xm_takeInterrupt (xm_takeBranch (xm_landWrites (mx_sf u 0 7 ((mx_gf u 0 7) + (1 : Int32)))))))) 0 5) = 0)) → 
           True) ∧ (((mx_gf (mx_sf (xm_takeInterrupt (xm_takeBranch (xm_landWrites (mx_sf u 0 7 ((mx_gf u 0 7) + (1 : Int32)))))) 0 5 (xm_faultOfPacket np nd (xm_endOfPacket np nd (xm_takeInterrupt (xm_takeBranch (xm_landWrites (mx_sf u 0 7 ((mx_gf u 0 7) + (1 : Int32))))))) (xm_takeInterrupt (xm_takeBranch (xm_landWrites (mx_sf u 0 7 ((mx_gf u 0 7) + (1 : Int32)))))))) 0 5) = 0) → 
           ((q_xm_doPacket np nd (xm_endOfPacket np nd (xm_takeInterrupt (xm_takeBranch (xm_landWrites (mx_sf u 0 7 ((mx_gf u 0 7) + (1 : Int32))))))) (mx_sf (xm_takeInterrupt (xm_takeBranch (xm_landWrites (mx_sf u 0 7 ((mx_gf u 0 7) + (1 : Int32)))))) 0 5 (xm_faultOfPacket np nd (xm_endOfPacket np nd (xm_takeInterrupt (xm_takeBranch (xm_landWrites (mx_sf u 0 7 ((mx_gf u 0 7) + (1 : Int32))))))) (xm_takeInterrupt (xm_takeBranch (xm_landWrites (mx_sf u 0 7 ((mx_gf u 0 7) + (1 : Int32))))))))))))))) ∧ ((¬ ((mx_gf (xm_takeBranch (xm_landWrites (mx_sf u 0 7 ((mx_gf u 0 7) + (1 : Int32))))) 0 8) ≤ 0)) → 
       True)) ∧ ((¬ ((mx_gf (xm_takeBranch (xm_landWrites (mx_sf u 0 7 ((mx_gf u 0 7) + (1 : Int32))))) 0 5) = 0)) → 
      True))))
def pre_xm_doCycle (np nd : Nat) : List mx_V → mx_S → Prop := fun as u => as = [.inr (.inr 0)] ∧ q_xm_doCycle np nd u
noncomputable def fn_xm_doCycle (np nd : Nat) : mx_F := fun as u => match as with
  | [_] => (none, (xm_doCycle np nd u))
  | _ => (none, u)
noncomputable def tb_xm_doCycle (np nd : Nat) : List (Nat × mx_T) := [
  (0, mx_aload_n 0 0),
  (1, mx_dup 1),
  (2, mx_getf (kx np nd) 0 7 2),
  (5, mx_iconst 1 5),
  (6, mx_iadd 6),
  (7, mx_putf (kx np nd) 0 7 7),
  (10, mx_aload_n 0 10),
  (11, mx_invV (kx np nd) 0 0 (pre_xm_landWrites np nd) (fn_xm_landWrites np nd) 11),
  (14, mx_aload_n 0 14),
  (15, mx_getf (kx np nd) 0 5 15),
  (18, mx_if_ne 25 18),
  (21, mx_aload_n 0 21),
  (22, mx_invV (kx np nd) 0 0 (pre_xm_takeBranch np nd) (fn_xm_takeBranch np nd) 22),
  (25, mx_aload_n 0 25),
  (26, mx_getf (kx np nd) 0 5 26),
  (29, mx_if_eq 33 29),
  (32, mx_vret 32),
  (33, mx_aload_n 0 33),
  (34, mx_getf (kx np nd) 0 8 34),
  (37, mx_if_le 51 37),
  (40, mx_aload_n 0 40),
  (41, mx_dup 41),
  (42, mx_getf (kx np nd) 0 8 42),
  (45, mx_iconst 1 45),
  (46, mx_isub 46),
  (47, mx_putf (kx np nd) 0 8 47),
  (50, mx_vret 50),
  (51, mx_aload_n 0 51),
  (52, mx_invV (kx np nd) 0 0 (pre_xm_takeInterrupt np nd) (fn_xm_takeInterrupt np nd) 52),
  (55, mx_aload_n 0 55),
  (56, mx_invV (kx np nd) 0 0 (pre_xm_endOfPacket np nd) (fn_xm_endOfPacket np nd) 56),
  (59, mx_istore_n 1 59),
  (60, mx_aload_n 0 60),
  (61, mx_aload_n 0 61),
  (62, mx_iload_n 1 62),
  (63, mx_invV (kx np nd) 0 1 (pre_xm_faultOfPacket np nd) (fn_xm_faultOfPacket np nd) 63),
  (66, mx_putf (kx np nd) 0 5 66),
  (69, mx_aload_n 0 69),
  (70, mx_getf (kx np nd) 0 5 70),
  (73, mx_if_ne 86 73),
  (76, mx_aload_n 0 76),
  (77, mx_iload_n 1 77),
  (78, mx_invV (kx np nd) 0 1 (pre_xm_doPacket np nd) (fn_xm_doPacket np nd) 78),
  (81, mx_aload_n 0 81),
  (82, mx_iload_n 1 82),
  (83, mx_putf (kx np nd) 0 6 83),
  (86, mx_vret 86)]
set_option maxRecDepth 100000 in
set_option maxHeartbeats 4000000 in
theorem ok_xm_doCycle (l : Launch) (np nd : Nat) : ∀ q ∈ tb_xm_doCycle np nd , mx_Ok l ({ frames := 5, cells := 0, slots := 0, locals := 112 } : Room) b_xm_doCycle 2 "WideMachine" none vw_T vw_cl (kx np nd) q.1 q.2 := by
  refine List.forall_mem_cons.mpr ⟨mx_ok_aload_n (show decode b_xm_doCycle 0 = .ok (.aload_n 0, 1) by decide +kernel) rfl, ?_⟩
  refine List.forall_mem_cons.mpr ⟨mx_ok_dup (show decode b_xm_doCycle 1 = .ok (.dup, 1) by decide +kernel), ?_⟩
  refine List.forall_mem_cons.mpr ⟨mx_ok_getf fd_xm_51 (show decode b_xm_doCycle 2 = .ok (.getfield 51, 3) by decide +kernel), ?_⟩
  refine List.forall_mem_cons.mpr ⟨mx_ok_iconst (show decode b_xm_doCycle 5 = .ok (.iconst 1, 1) by decide +kernel) (by decide), ?_⟩
  refine List.forall_mem_cons.mpr ⟨mx_ok_iadd (show decode b_xm_doCycle 6 = .ok (.iadd, 1) by decide +kernel), ?_⟩
  refine List.forall_mem_cons.mpr ⟨mx_ok_putf fd_xm_51 fw_0_7 (show decode b_xm_doCycle 7 = .ok (.putfield 51, 3) by decide +kernel), ?_⟩
  refine List.forall_mem_cons.mpr ⟨mx_ok_aload_n (show decode b_xm_doCycle 10 = .ok (.aload_n 0, 1) by decide +kernel) rfl, ?_⟩
  refine List.forall_mem_cons.mpr ⟨mx_ok_invV vw_G (ct_xm_landWrites l np nd) ⟨vm_259, vm_260, vm_46, ⟨by decide +kernel, by decide +kernel, by decide +kernel⟩, ⟨by decide, by decide⟩, rfl, rfl⟩ vm_261 vm_262 rfl (show decode b_xm_doCycle 11 = .ok (.invokevirtual 96, 3) by decide +kernel), ?_⟩
  refine List.forall_mem_cons.mpr ⟨mx_ok_aload_n (show decode b_xm_doCycle 14 = .ok (.aload_n 0, 1) by decide +kernel) rfl, ?_⟩
  refine List.forall_mem_cons.mpr ⟨mx_ok_getf fd_xm_41 (show decode b_xm_doCycle 15 = .ok (.getfield 41, 3) by decide +kernel), ?_⟩
  refine List.forall_mem_cons.mpr ⟨mx_ok_if_ne (show decode b_xm_doCycle 18 = .ok (.ifCond .ne 7, 3) by decide +kernel) (by decide), ?_⟩
  refine List.forall_mem_cons.mpr ⟨mx_ok_aload_n (show decode b_xm_doCycle 21 = .ok (.aload_n 0, 1) by decide +kernel) rfl, ?_⟩
  refine List.forall_mem_cons.mpr ⟨mx_ok_invV vw_G (ct_xm_takeBranch l np nd) ⟨vm_263, vm_264, vm_46, ⟨by decide +kernel, by decide +kernel, by decide +kernel⟩, ⟨by decide, by decide⟩, rfl, rfl⟩ vm_265 vm_266 rfl (show decode b_xm_doCycle 22 = .ok (.invokevirtual 99, 3) by decide +kernel), ?_⟩
  refine List.forall_mem_cons.mpr ⟨mx_ok_aload_n (show decode b_xm_doCycle 25 = .ok (.aload_n 0, 1) by decide +kernel) rfl, ?_⟩
  refine List.forall_mem_cons.mpr ⟨mx_ok_getf fd_xm_41 (show decode b_xm_doCycle 26 = .ok (.getfield 41, 3) by decide +kernel), ?_⟩
  refine List.forall_mem_cons.mpr ⟨mx_ok_if_eq (show decode b_xm_doCycle 29 = .ok (.ifCond .eq 4, 3) by decide +kernel) (by decide), ?_⟩
  refine List.forall_mem_cons.mpr ⟨mx_ok_vret (show decode b_xm_doCycle 32 = .ok (.return_, 1) by decide +kernel) rfl, ?_⟩
  refine List.forall_mem_cons.mpr ⟨mx_ok_aload_n (show decode b_xm_doCycle 33 = .ok (.aload_n 0, 1) by decide +kernel) rfl, ?_⟩
  refine List.forall_mem_cons.mpr ⟨mx_ok_getf fd_xm_58 (show decode b_xm_doCycle 34 = .ok (.getfield 58, 3) by decide +kernel), ?_⟩
  refine List.forall_mem_cons.mpr ⟨mx_ok_if_le (show decode b_xm_doCycle 37 = .ok (.ifCond .le 14, 3) by decide +kernel) (by decide), ?_⟩
  refine List.forall_mem_cons.mpr ⟨mx_ok_aload_n (show decode b_xm_doCycle 40 = .ok (.aload_n 0, 1) by decide +kernel) rfl, ?_⟩
  refine List.forall_mem_cons.mpr ⟨mx_ok_dup (show decode b_xm_doCycle 41 = .ok (.dup, 1) by decide +kernel), ?_⟩
  refine List.forall_mem_cons.mpr ⟨mx_ok_getf fd_xm_58 (show decode b_xm_doCycle 42 = .ok (.getfield 58, 3) by decide +kernel), ?_⟩
  refine List.forall_mem_cons.mpr ⟨mx_ok_iconst (show decode b_xm_doCycle 45 = .ok (.iconst 1, 1) by decide +kernel) (by decide), ?_⟩
  refine List.forall_mem_cons.mpr ⟨mx_ok_isub (show decode b_xm_doCycle 46 = .ok (.isub, 1) by decide +kernel), ?_⟩
  refine List.forall_mem_cons.mpr ⟨mx_ok_putf fd_xm_58 fw_0_8 (show decode b_xm_doCycle 47 = .ok (.putfield 58, 3) by decide +kernel), ?_⟩
  refine List.forall_mem_cons.mpr ⟨mx_ok_vret (show decode b_xm_doCycle 50 = .ok (.return_, 1) by decide +kernel) rfl, ?_⟩
  refine List.forall_mem_cons.mpr ⟨mx_ok_aload_n (show decode b_xm_doCycle 51 = .ok (.aload_n 0, 1) by decide +kernel) rfl, ?_⟩
  refine List.forall_mem_cons.mpr ⟨mx_ok_invV vw_G (ct_xm_takeInterrupt l np nd) ⟨vm_267, vm_268, vm_46, ⟨by decide +kernel, by decide +kernel, by decide +kernel⟩, ⟨by decide, by decide⟩, rfl, rfl⟩ vm_269 vm_270 rfl (show decode b_xm_doCycle 52 = .ok (.invokevirtual 102, 3) by decide +kernel), ?_⟩
  refine List.forall_mem_cons.mpr ⟨mx_ok_aload_n (show decode b_xm_doCycle 55 = .ok (.aload_n 0, 1) by decide +kernel) rfl, ?_⟩
  refine List.forall_mem_cons.mpr ⟨mx_ok_invV vw_G (ct_xm_endOfPacket l np nd) ⟨vm_271, vm_272, vm_46, ⟨by decide +kernel, by decide +kernel, by decide +kernel⟩, ⟨by decide, by decide⟩, rfl, rfl⟩ vm_273 vm_274 rfl (show decode b_xm_doCycle 56 = .ok (.invokevirtual 105, 3) by decide +kernel), ?_⟩
  refine List.forall_mem_cons.mpr ⟨mx_ok_istore_n (show decode b_xm_doCycle 59 = .ok (.istore_n 1, 1) by decide +kernel) rfl (by decide), ?_⟩
  refine List.forall_mem_cons.mpr ⟨mx_ok_aload_n (show decode b_xm_doCycle 60 = .ok (.aload_n 0, 1) by decide +kernel) rfl, ?_⟩
  refine List.forall_mem_cons.mpr ⟨mx_ok_aload_n (show decode b_xm_doCycle 61 = .ok (.aload_n 0, 1) by decide +kernel) rfl, ?_⟩
  refine List.forall_mem_cons.mpr ⟨mx_ok_iload_n (show decode b_xm_doCycle 62 = .ok (.iload_n 1, 1) by decide +kernel) rfl, ?_⟩
  refine List.forall_mem_cons.mpr ⟨mx_ok_invV vw_G (ct_xm_faultOfPacket l np nd) ⟨vm_275, vm_276, vm_46, ⟨by decide +kernel, by decide +kernel, by decide +kernel⟩, ⟨by decide, by decide⟩, rfl, rfl⟩ vm_277 vm_278 rfl (show decode b_xm_doCycle 63 = .ok (.invokevirtual 109, 3) by decide +kernel), ?_⟩
  refine List.forall_mem_cons.mpr ⟨mx_ok_putf fd_xm_41 fw_0_5 (show decode b_xm_doCycle 66 = .ok (.putfield 41, 3) by decide +kernel), ?_⟩
  refine List.forall_mem_cons.mpr ⟨mx_ok_aload_n (show decode b_xm_doCycle 69 = .ok (.aload_n 0, 1) by decide +kernel) rfl, ?_⟩
  refine List.forall_mem_cons.mpr ⟨mx_ok_getf fd_xm_41 (show decode b_xm_doCycle 70 = .ok (.getfield 41, 3) by decide +kernel), ?_⟩
  refine List.forall_mem_cons.mpr ⟨mx_ok_if_ne (show decode b_xm_doCycle 73 = .ok (.ifCond .ne 13, 3) by decide +kernel) (by decide), ?_⟩
  refine List.forall_mem_cons.mpr ⟨mx_ok_aload_n (show decode b_xm_doCycle 76 = .ok (.aload_n 0, 1) by decide +kernel) rfl, ?_⟩
  refine List.forall_mem_cons.mpr ⟨mx_ok_iload_n (show decode b_xm_doCycle 77 = .ok (.iload_n 1, 1) by decide +kernel) rfl, ?_⟩
  refine List.forall_mem_cons.mpr ⟨mx_ok_invV vw_G (ct_xm_doPacket l np nd) ⟨vm_279, vm_280, vm_46, ⟨by decide +kernel, by decide +kernel, by decide +kernel⟩, ⟨by decide, by decide⟩, rfl, rfl⟩ vm_281 vm_282 rfl (show decode b_xm_doCycle 78 = .ok (.invokevirtual 112, 3) by decide +kernel), ?_⟩
  refine List.forall_mem_cons.mpr ⟨mx_ok_aload_n (show decode b_xm_doCycle 81 = .ok (.aload_n 0, 1) by decide +kernel) rfl, ?_⟩
  refine List.forall_mem_cons.mpr ⟨mx_ok_iload_n (show decode b_xm_doCycle 82 = .ok (.iload_n 1, 1) by decide +kernel) rfl, ?_⟩
  refine List.forall_mem_cons.mpr ⟨mx_ok_putf fd_xm_48 fw_0_6 (show decode b_xm_doCycle 83 = .ok (.putfield 48, 3) by decide +kernel), ?_⟩
  refine List.forall_mem_cons.mpr ⟨mx_ok_vret (show decode b_xm_doCycle 86 = .ok (.return_, 1) by decide +kernel) rfl, ?_⟩
  exact fun _ h => absurd h List.not_mem_nil
set_option maxRecDepth 100000 in
set_option maxHeartbeats 4000000 in
theorem ct_xm_doCycle (l : Launch) (np nd : Nat) : mx_Ct l vw_T vw_cl (kx np nd) { frames := 5, cells := 0, slots := 0, locals := 112 } y_xm_doCycle b_xm_doCycle 2 none (pre_xm_doCycle np nd) (fn_xm_doCycle np nd) := by
  refine mx_ct_of (tb_xm_doCycle np nd ) (by decide) (ok_xm_doCycle l np nd ) (fun as u h => by obtain ⟨rfl, -⟩ := h; exact Nat.le_of_ble_eq_true rfl) ?_
  intro as u hpre At hc hw
  obtain ⟨rfl, hp⟩ := hpre
  exact hc 200 [] _ _ _ _ (
    And.intro rfl (
    And.intro rfl (
    And.intro ⟨rfl, hp.1⟩ (
    And.intro (fun h18 => 
     And.intro (fun h29 => mx_abs h18 h29) (fun h29 => 
      congrArg (fun z : mx_S => ((none, z) : Option mx_V × mx_S)) (show (xm_landWrites (mx_sf u 0 7 ((mx_gf u 0 7) + (1 : Int32)))) = (xm_doCycle np nd u) from ((xm_doCycle_eq np nd u).trans (if_neg h18)).symm))) (fun h18 => 
     And.intro rfl (
     And.intro ⟨rfl, (hp.2.2 h18).1⟩ (
     And.intro (fun h29 => 
      And.intro (fun h37 => 
       And.intro rfl (
       And.intro ⟨rfl, (((hp.2.2 h18).2.1 h29).1 h37).1⟩ (
       And.intro rfl (
       And.intro ⟨rfl, (((hp.2.2 h18).2.1 h29).1 h37).2.1⟩ (
       And.intro rfl (
       And.intro ⟨_, rfl, (((hp.2.2 h18).2.1 h29).1 h37).2.2.1⟩ (
       And.intro rfl (
       And.intro (fun h73 => 
        congrArg (fun z : mx_S => ((none, z) : Option mx_V × mx_S)) (show (mx_sf (xm_takeInterrupt (xm_takeBranch (xm_landWrites (mx_sf u 0 7 ((mx_gf u 0 7) + (1 : Int32)))))) 0 5 (xm_faultOfPacket np nd (xm_endOfPacket np nd (xm_takeInterrupt (xm_takeBranch (xm_landWrites (mx_sf u 0 7 ((mx_gf u 0 7) + (1 : Int32))))))) (xm_takeInterrupt (xm_takeBranch (xm_landWrites (mx_sf u 0 7 ((mx_gf u 0 7) + (1 : Int32)))))))) = (xm_doCycle np nd u) from ((xm_doCycle_eq np nd u).trans ((if_pos h18).trans ((if_pos h29).trans ((if_pos h37).trans (if_neg h73))))).symm)) (fun h73 => 
        And.intro rfl (
        And.intro ⟨_, rfl, ((((hp.2.2 h18).2.1 h29).1 h37).2.2.2.2 h73)⟩ (
        And.intro rfl (
        congrArg (fun z : mx_S => ((none, z) : Option mx_V × mx_S)) (show (mx_sf (xm_doPacket np nd (xm_endOfPacket np nd (xm_takeInterrupt (xm_takeBranch (xm_landWrites (mx_sf u 0 7 ((mx_gf u 0 7) + (1 : Int32))))))) (mx_sf (xm_takeInterrupt (xm_takeBranch (xm_landWrites (mx_sf u 0 7 ((mx_gf u 0 7) + (1 : Int32)))))) 0 5 (xm_faultOfPacket np nd (xm_endOfPacket np nd (xm_takeInterrupt (xm_takeBranch (xm_landWrites (mx_sf u 0 7 ((mx_gf u 0 7) + (1 : Int32))))))) (xm_takeInterrupt (xm_takeBranch (xm_landWrites (mx_sf u 0 7 ((mx_gf u 0 7) + (1 : Int32))))))))) 0 6 (xm_endOfPacket np nd (xm_takeInterrupt (xm_takeBranch (xm_landWrites (mx_sf u 0 7 ((mx_gf u 0 7) + (1 : Int32)))))))) = (xm_doCycle np nd u) from ((xm_doCycle_eq np nd u).trans ((if_pos h18).trans ((if_pos h29).trans ((if_pos h37).trans (if_pos h73))))).symm))))))))))))) (fun h37 => 
       And.intro rfl (
       congrArg (fun z : mx_S => ((none, z) : Option mx_V × mx_S)) (show (mx_sf (xm_takeBranch (xm_landWrites (mx_sf u 0 7 ((mx_gf u 0 7) + (1 : Int32))))) 0 8 ((mx_gf (xm_takeBranch (xm_landWrites (mx_sf u 0 7 ((mx_gf u 0 7) + (1 : Int32))))) 0 8) - (1 : Int32))) = (xm_doCycle np nd u) from ((xm_doCycle_eq np nd u).trans ((if_pos h18).trans ((if_pos h29).trans (if_neg h37)))).symm)))) (fun h29 => 
      congrArg (fun z : mx_S => ((none, z) : Option mx_V × mx_S)) (show (xm_takeBranch (xm_landWrites (mx_sf u 0 7 ((mx_gf u 0 7) + (1 : Int32))))) = (xm_doCycle np nd u) from ((xm_doCycle_eq np nd u).trans ((if_pos h18).trans (if_neg h29))).symm)))))))))
/-! WideMachine.run(I)I -/
noncomputable def xm_run_l15 (np nd : Nat) (a1 : Int32) : Nat → Int32 → mx_S → (Int32 × mx_S)
  | 0, _, u => (0, u)
  | n + 1, v2, u =>
    if a1 ≤ v2 then
     (v2, u)
    else
     if (mx_gf u 0 5) = 0 then
      xm_run_l15 np nd a1 n (v2 + 1) (xm_doCycle np nd u)
     else
      (v2, u)
def q_xm_run_l15 (np nd : Nat) (a1 : Int32) : Nat → Int32 → mx_S → Prop
  | 0, _, _ => False
  | n + 1, v2, u =>
    ((a1 ≤ v2) → 
     True) ∧ ((¬ (a1 ≤ v2)) → 
     ((¬ ((mx_gf u 0 5) = 0)) → 
      True) ∧ (((mx_gf u 0 5) = 0) → 
      ((q_xm_doCycle np nd u)) ∧ (
       q_xm_run_l15 np nd a1 n (v2 + 1) (xm_doCycle np nd u))))
noncomputable def xm_run_b (np nd : Nat) (a1 : Int32) (u : mx_S) : Int32 × mx_S :=
  if a1 < 0 then
   ((-1), u)
  else
   if a1 ≤ 2000 then
    xm_run_l15 np nd a1 2002 0 u
   else
    ((-1), u)
theorem xm_run_ex : ∃ f : Nat → Nat → Int32 → mx_S → Int32, f = (fun np nd a1 u => (xm_run_b np nd a1 u).1) := ⟨_, rfl⟩
noncomputable def xm_run : Nat → Nat → Int32 → mx_S → Int32 := Classical.choose xm_run_ex
theorem xm_run_eq (np nd : Nat) (a1 : Int32) (u : mx_S) : (xm_run np nd a1 u) = (xm_run_b np nd a1 u).1 := by rw [show xm_run = (fun np nd a1 u => (xm_run_b np nd a1 u).1) from Classical.choose_spec xm_run_ex]
theorem xm_run_s_ex : ∃ f : Nat → Nat → Int32 → mx_S → mx_S, f = (fun np nd a1 u => (xm_run_b np nd a1 u).2) := ⟨_, rfl⟩
noncomputable def xm_run_s : Nat → Nat → Int32 → mx_S → mx_S := Classical.choose xm_run_s_ex
theorem xm_run_s_eq (np nd : Nat) (a1 : Int32) (u : mx_S) : (xm_run_s np nd a1 u) = (xm_run_b np nd a1 u).2 := by rw [show xm_run_s = (fun np nd a1 u => (xm_run_b np nd a1 u).2) from Classical.choose_spec xm_run_s_ex]
def q_xm_run (np nd : Nat) (a1 : Int32) (u : mx_S) : Prop :=
  ((a1 < 0) → 
   True) ∧ ((¬ (a1 < 0)) → 
   ((a1 ≤ 2000) → 
    q_xm_run_l15 np nd a1 2002 0 u) ∧ ((¬ (a1 ≤ 2000)) → 
    True))
def pre_xm_run (np nd : Nat) : List mx_V → mx_S → Prop := fun as u => ∃ (a1 : Int32), as = [.inr (.inr 0), .inl a1] ∧ q_xm_run np nd a1 u
noncomputable def fn_xm_run (np nd : Nat) : mx_F := fun as u => match as with
  | [_, .inl a1] => (some (.inl (xm_run np nd a1 u)), (xm_run_s np nd a1 u))
  | _ => (none, u)
noncomputable def tb_xm_run (np nd : Nat) : List (Nat × mx_T) := [
  (0, mx_iload_n 1 0),
  (1, mx_if_lt 11 1),
  (4, mx_iload_n 1 4),
  (5, mx_sipush 2000 5),
  (8, mx_icmp_le 13 8),
  (11, mx_iconst (-1) 11),
  (12, mx_iret 12),
  (13, mx_iconst 0 13),
  (14, mx_istore_n 2 14),
  (15, mx_iload_n 2 15),
  (16, mx_iload_n 1 16),
  (17, mx_icmp_ge 37 17),
  (20, mx_aload_n 0 20),
  (21, mx_getf (kx np nd) 0 5 21),
  (24, mx_if_ne 37 24),
  (27, mx_aload_n 0 27),
  (28, mx_invV (kx np nd) 0 0 (pre_xm_doCycle np nd) (fn_xm_doCycle np nd) 28),
  (31, mx_iinc 2 1 31),
  (34, mx_goto 15 34),
  (37, mx_iload_n 2 37),
  (38, mx_iret 38)]
set_option maxRecDepth 100000 in
set_option maxHeartbeats 4000000 in
theorem ok_xm_run (l : Launch) (np nd : Nat) : ∀ q ∈ tb_xm_run np nd , mx_Ok l ({ frames := 6, cells := 0, slots := 0, locals := 133 } : Room) b_xm_run 3 "WideMachine" (some .int) vw_T vw_cl (kx np nd) q.1 q.2 := by
  refine List.forall_mem_cons.mpr ⟨mx_ok_iload_n (show decode b_xm_run 0 = .ok (.iload_n 1, 1) by decide +kernel) rfl, ?_⟩
  refine List.forall_mem_cons.mpr ⟨mx_ok_if_lt (show decode b_xm_run 1 = .ok (.ifCond .lt 10, 3) by decide +kernel) (by decide), ?_⟩
  refine List.forall_mem_cons.mpr ⟨mx_ok_iload_n (show decode b_xm_run 4 = .ok (.iload_n 1, 1) by decide +kernel) rfl, ?_⟩
  refine List.forall_mem_cons.mpr ⟨mx_ok_sipush (show decode b_xm_run 5 = .ok (.sipush 2000, 3) by decide +kernel) (by decide), ?_⟩
  refine List.forall_mem_cons.mpr ⟨mx_ok_icmp_le (show decode b_xm_run 8 = .ok (.if_icmp .le 5, 3) by decide +kernel) (by decide), ?_⟩
  refine List.forall_mem_cons.mpr ⟨mx_ok_iconst (show decode b_xm_run 11 = .ok (.iconst (-1), 1) by decide +kernel) (by decide), ?_⟩
  refine List.forall_mem_cons.mpr ⟨mx_ok_iret (show decode b_xm_run 12 = .ok (.ireturn, 1) by decide +kernel) rfl, ?_⟩
  refine List.forall_mem_cons.mpr ⟨mx_ok_iconst (show decode b_xm_run 13 = .ok (.iconst 0, 1) by decide +kernel) (by decide), ?_⟩
  refine List.forall_mem_cons.mpr ⟨mx_ok_istore_n (show decode b_xm_run 14 = .ok (.istore_n 2, 1) by decide +kernel) rfl (by decide), ?_⟩
  refine List.forall_mem_cons.mpr ⟨mx_ok_iload_n (show decode b_xm_run 15 = .ok (.iload_n 2, 1) by decide +kernel) rfl, ?_⟩
  refine List.forall_mem_cons.mpr ⟨mx_ok_iload_n (show decode b_xm_run 16 = .ok (.iload_n 1, 1) by decide +kernel) rfl, ?_⟩
  refine List.forall_mem_cons.mpr ⟨mx_ok_icmp_ge (show decode b_xm_run 17 = .ok (.if_icmp .ge 20, 3) by decide +kernel) (by decide), ?_⟩
  refine List.forall_mem_cons.mpr ⟨mx_ok_aload_n (show decode b_xm_run 20 = .ok (.aload_n 0, 1) by decide +kernel) rfl, ?_⟩
  refine List.forall_mem_cons.mpr ⟨mx_ok_getf fd_xm_41 (show decode b_xm_run 21 = .ok (.getfield 41, 3) by decide +kernel), ?_⟩
  refine List.forall_mem_cons.mpr ⟨mx_ok_if_ne (show decode b_xm_run 24 = .ok (.ifCond .ne 13, 3) by decide +kernel) (by decide), ?_⟩
  refine List.forall_mem_cons.mpr ⟨mx_ok_aload_n (show decode b_xm_run 27 = .ok (.aload_n 0, 1) by decide +kernel) rfl, ?_⟩
  refine List.forall_mem_cons.mpr ⟨mx_ok_invV vw_G (ct_xm_doCycle l np nd) ⟨vm_283, vm_284, vm_46, ⟨by decide +kernel, by decide +kernel, by decide +kernel⟩, ⟨by decide, by decide⟩, rfl, rfl⟩ vm_285 vm_286 rfl (show decode b_xm_run 28 = .ok (.invokevirtual 45, 3) by decide +kernel), ?_⟩
  refine List.forall_mem_cons.mpr ⟨mx_ok_iinc (show decode b_xm_run 31 = .ok (.iinc 2 1, 3) by decide +kernel) (by decide) (by decide), ?_⟩
  refine List.forall_mem_cons.mpr ⟨mx_ok_goto (show decode b_xm_run 34 = .ok (.goto (-19), 3) by decide +kernel) (by decide), ?_⟩
  refine List.forall_mem_cons.mpr ⟨mx_ok_iload_n (show decode b_xm_run 37 = .ok (.iload_n 2, 1) by decide +kernel) rfl, ?_⟩
  refine List.forall_mem_cons.mpr ⟨mx_ok_iret (show decode b_xm_run 38 = .ok (.ireturn, 1) by decide +kernel) rfl, ?_⟩
  exact fun _ h => absurd h List.not_mem_nil
set_option maxRecDepth 100000 in
set_option maxHeartbeats 4000000 in
theorem ct_xm_run (l : Launch) (np nd : Nat) : mx_Ct l vw_T vw_cl (kx np nd) { frames := 6, cells := 0, slots := 0, locals := 133 } y_xm_run b_xm_run 3 (some .int) (pre_xm_run np nd) (fn_xm_run np nd) := by
  refine mx_ct_of (tb_xm_run np nd ) (by decide) (ok_xm_run l np nd ) (fun as u h => by obtain ⟨_, rfl, -⟩ := h; exact Nat.le_of_ble_eq_true rfl) ?_
  intro as u hpre At hc hw
  obtain ⟨a1, rfl, hp⟩ := hpre
  obtain ⟨RES, hRES⟩ : ∃ z, z = (xm_run_b np nd a1 u) := ⟨_, rfl⟩
  have hfn : fn_xm_run np nd [.inr (.inr 0), .inl a1] u = mx_rB RES := by
    show ((some (.inl (xm_run np nd a1 u)), (xm_run_s np nd a1 u)) : Option mx_V × mx_S) = _
    rw [hRES, xm_run_eq, xm_run_s_eq]
    rfl
  rw [hfn] at hc
  have lp15 : ∀ (n15 : Nat) (v2 : Int32) (u : mx_S), q_xm_run_l15 np nd a1 n15 v2 u → xm_run_l15 np nd a1 n15 v2 u = RES → At 15 [(2, .inl v2), (0, .inr (.inr 0)), (1, .inl a1)] [] u := by
    intro n15
    induction n15 with
    | zero =>
      intro v2 u hi he
      exact hi.elim
    | succ n15 ih15 =>
      intro v2 u hi15 he15
      exact hc 200 [15] _ _ _ _ (
        And.intro (fun h17 => 
         congrArg mx_rB (show (v2, u) = RES from (if_pos h17).symm.trans he15)) (fun h17 => 
         And.intro (fun h24 => 
          congrArg mx_rB (show (v2, u) = RES from ((if_neg h17).trans (if_neg h24)).symm.trans he15)) (fun h24 => 
          And.intro rfl (
          And.intro ⟨rfl, ((hi15.2 h17).2 h24).1⟩ (
          hw [0, 1, 2] 15 _ [] _ (ih15 (v2 + 1) (xm_doCycle np nd u) ((hi15.2 h17).2 h24).2 (((if_neg h17).trans (if_pos h24)).symm.trans he15)))))))
  exact hc 200 [15] _ _ _ _ (
    And.intro (fun h1 => 
     congrArg mx_rB (show ((-1), u) = RES from (if_pos h1).symm.trans hRES.symm)) (fun h1 => 
     And.intro (fun h8 => 
      hw [0, 1, 2] 15 _ [] _ (lp15 2002 0 u ((hp.2 h1).1 h8) (((if_neg h1).trans (if_pos h8)).symm.trans hRES.symm))) (fun h8 => 
      congrArg mx_rB (show ((-1), u) = RES from ((if_neg h1).trans (if_neg h8)).symm.trans hRES.symm))))
/-! WideMachine.about(I)I -/
noncomputable def xm_about_b (a1 : Int32) (u : mx_S) : Int32 :=
  if a1 = 0 then
   (mx_gf u 0 5)
  else
  if a1 = 1 then
   (mx_gf u 0 6)
  else
  if a1 = 2 then
   (mx_gf u 0 7)
  else
  if a1 = 3 then
   (mx_gf u 4 3)
  else
  if a1 = 4 then
   (mx_gf u 8 2)
  else
  if a1 = 5 then
   (mx_gf u 0 8)
  else
  if a1 = 6 then
   (mx_gf u 0 9)
  else
  if a1 = 7 then
   if (mx_gf u 0 11) = 0 then
    0
   else
    1
  else
  if a1 = 8 then
   (mx_gf u 0 10)
  else
  (-1)
theorem xm_about_ex : ∃ f : Int32 → mx_S → (Int32), f = xm_about_b := ⟨_, rfl⟩
noncomputable def xm_about : Int32 → mx_S → (Int32) := Classical.choose xm_about_ex
theorem xm_about_eq (a1 : Int32) (u : mx_S) : (xm_about a1 u) = (xm_about_b a1 u) := by rw [show xm_about = xm_about_b from Classical.choose_spec xm_about_ex]
def pre_xm_about (np nd : Nat) : List mx_V → mx_S → Prop := fun as u => ∃ (a1 : Int32), as = [.inr (.inr 0), .inl a1] ∧ True
noncomputable def fn_xm_about (np nd : Nat) : mx_F := fun as u => match as with
  | [_, .inl a1] => mx_rI u (xm_about a1 u)
  | _ => (none, u)
noncomputable def tb_xm_about (np nd : Nat) : List (Nat × mx_T) := [
  (0, mx_iload_n 1 0),
  (1, mx_tsw 111 [(0, 52), (1, 57), (2, 62), (3, 67), (4, 75), (5, 83), (6, 88), (7, 93), (8, 106)] 1),
  (52, mx_aload_n 0 52),
  (53, mx_getf (kx np nd) 0 5 53),
  (56, mx_iret 56),
  (57, mx_aload_n 0 57),
  (58, mx_getf (kx np nd) 0 6 58),
  (61, mx_iret 61),
  (62, mx_aload_n 0 62),
  (63, mx_getf (kx np nd) 0 7 63),
  (66, mx_iret 66),
  (67, mx_aload_n 0 67),
  (68, mx_getf (kx np nd) 0 3 68),
  (71, mx_getf (kx np nd) 1 3 71),
  (74, mx_iret 74),
  (75, mx_aload_n 0 75),
  (76, mx_getf (kx np nd) 0 4 76),
  (79, mx_getf (kx np nd) 2 2 79),
  (82, mx_iret 82),
  (83, mx_aload_n 0 83),
  (84, mx_getf (kx np nd) 0 8 84),
  (87, mx_iret 87),
  (88, mx_aload_n 0 88),
  (89, mx_getf (kx np nd) 0 9 89),
  (92, mx_iret 92),
  (93, mx_aload_n 0 93),
  (94, mx_getf (kx np nd) 0 11 94),
  (97, mx_if_eq 104 97),
  (100, mx_iconst 1 100),
  (101, mx_goto 105 101),
  (104, mx_iconst 0 104),
  (105, mx_iret 105),
  (106, mx_aload_n 0 106),
  (107, mx_getf (kx np nd) 0 10 107),
  (110, mx_iret 110),
  (111, mx_iconst (-1) 111),
  (112, mx_iret 112)]
set_option maxRecDepth 100000 in
set_option maxHeartbeats 4000000 in
theorem ok_xm_about (l : Launch) (np nd : Nat) : ∀ q ∈ tb_xm_about np nd , mx_Ok l ({ frames := 0, cells := 0, slots := 0, locals := 0 } : Room) b_xm_about 2 "WideMachine" (some .int) vw_T vw_cl (kx np nd) q.1 q.2 := by
  refine List.forall_mem_cons.mpr ⟨mx_ok_iload_n (show decode b_xm_about 0 = .ok (.iload_n 1, 1) by decide +kernel) rfl, ?_⟩
  refine List.forall_mem_cons.mpr ⟨mx_ok_tsw (show decode b_xm_about 1 = .ok (.tableswitch 110 0 8 #[51, 56, 61, 66, 74, 82, 87, 92, 105], 51) by decide +kernel) (by decide) (by decide), ?_⟩
  refine List.forall_mem_cons.mpr ⟨mx_ok_aload_n (show decode b_xm_about 52 = .ok (.aload_n 0, 1) by decide +kernel) rfl, ?_⟩
  refine List.forall_mem_cons.mpr ⟨mx_ok_getf fd_xm_41 (show decode b_xm_about 53 = .ok (.getfield 41, 3) by decide +kernel), ?_⟩
  refine List.forall_mem_cons.mpr ⟨mx_ok_iret (show decode b_xm_about 56 = .ok (.ireturn, 1) by decide +kernel) rfl, ?_⟩
  refine List.forall_mem_cons.mpr ⟨mx_ok_aload_n (show decode b_xm_about 57 = .ok (.aload_n 0, 1) by decide +kernel) rfl, ?_⟩
  refine List.forall_mem_cons.mpr ⟨mx_ok_getf fd_xm_48 (show decode b_xm_about 58 = .ok (.getfield 48, 3) by decide +kernel), ?_⟩
  refine List.forall_mem_cons.mpr ⟨mx_ok_iret (show decode b_xm_about 61 = .ok (.ireturn, 1) by decide +kernel) rfl, ?_⟩
  refine List.forall_mem_cons.mpr ⟨mx_ok_aload_n (show decode b_xm_about 62 = .ok (.aload_n 0, 1) by decide +kernel) rfl, ?_⟩
  refine List.forall_mem_cons.mpr ⟨mx_ok_getf fd_xm_51 (show decode b_xm_about 63 = .ok (.getfield 51, 3) by decide +kernel), ?_⟩
  refine List.forall_mem_cons.mpr ⟨mx_ok_iret (show decode b_xm_about 66 = .ok (.ireturn, 1) by decide +kernel) rfl, ?_⟩
  refine List.forall_mem_cons.mpr ⟨mx_ok_aload_n (show decode b_xm_about 67 = .ok (.aload_n 0, 1) by decide +kernel) rfl, ?_⟩
  refine List.forall_mem_cons.mpr ⟨mx_ok_getf fd_xm_26 (show decode b_xm_about 68 = .ok (.getfield 26, 3) by decide +kernel), ?_⟩
  refine List.forall_mem_cons.mpr ⟨mx_ok_getf fd_xm_54 (show decode b_xm_about 71 = .ok (.getfield 54, 3) by decide +kernel), ?_⟩
  refine List.forall_mem_cons.mpr ⟨mx_ok_iret (show decode b_xm_about 74 = .ok (.ireturn, 1) by decide +kernel) rfl, ?_⟩
  refine List.forall_mem_cons.mpr ⟨mx_ok_aload_n (show decode b_xm_about 75 = .ok (.aload_n 0, 1) by decide +kernel) rfl, ?_⟩
  refine List.forall_mem_cons.mpr ⟨mx_ok_getf fd_xm_33 (show decode b_xm_about 76 = .ok (.getfield 33, 3) by decide +kernel), ?_⟩
  refine List.forall_mem_cons.mpr ⟨mx_ok_getf fd_xm_57 (show decode b_xm_about 79 = .ok (.getfield 57, 3) by decide +kernel), ?_⟩
  refine List.forall_mem_cons.mpr ⟨mx_ok_iret (show decode b_xm_about 82 = .ok (.ireturn, 1) by decide +kernel) rfl, ?_⟩
  refine List.forall_mem_cons.mpr ⟨mx_ok_aload_n (show decode b_xm_about 83 = .ok (.aload_n 0, 1) by decide +kernel) rfl, ?_⟩
  refine List.forall_mem_cons.mpr ⟨mx_ok_getf fd_xm_58 (show decode b_xm_about 84 = .ok (.getfield 58, 3) by decide +kernel), ?_⟩
  refine List.forall_mem_cons.mpr ⟨mx_ok_iret (show decode b_xm_about 87 = .ok (.ireturn, 1) by decide +kernel) rfl, ?_⟩
  refine List.forall_mem_cons.mpr ⟨mx_ok_aload_n (show decode b_xm_about 88 = .ok (.aload_n 0, 1) by decide +kernel) rfl, ?_⟩
  refine List.forall_mem_cons.mpr ⟨mx_ok_getf fd_xm_61 (show decode b_xm_about 89 = .ok (.getfield 61, 3) by decide +kernel), ?_⟩
  refine List.forall_mem_cons.mpr ⟨mx_ok_iret (show decode b_xm_about 92 = .ok (.ireturn, 1) by decide +kernel) rfl, ?_⟩
  refine List.forall_mem_cons.mpr ⟨mx_ok_aload_n (show decode b_xm_about 93 = .ok (.aload_n 0, 1) by decide +kernel) rfl, ?_⟩
  refine List.forall_mem_cons.mpr ⟨mx_ok_getf fd_xm_64 (show decode b_xm_about 94 = .ok (.getfield 64, 3) by decide +kernel), ?_⟩
  refine List.forall_mem_cons.mpr ⟨mx_ok_if_eq (show decode b_xm_about 97 = .ok (.ifCond .eq 7, 3) by decide +kernel) (by decide), ?_⟩
  refine List.forall_mem_cons.mpr ⟨mx_ok_iconst (show decode b_xm_about 100 = .ok (.iconst 1, 1) by decide +kernel) (by decide), ?_⟩
  refine List.forall_mem_cons.mpr ⟨mx_ok_goto (show decode b_xm_about 101 = .ok (.goto 4, 3) by decide +kernel) (by decide), ?_⟩
  refine List.forall_mem_cons.mpr ⟨mx_ok_iconst (show decode b_xm_about 104 = .ok (.iconst 0, 1) by decide +kernel) (by decide), ?_⟩
  refine List.forall_mem_cons.mpr ⟨mx_ok_iret (show decode b_xm_about 105 = .ok (.ireturn, 1) by decide +kernel) rfl, ?_⟩
  refine List.forall_mem_cons.mpr ⟨mx_ok_aload_n (show decode b_xm_about 106 = .ok (.aload_n 0, 1) by decide +kernel) rfl, ?_⟩
  refine List.forall_mem_cons.mpr ⟨mx_ok_getf fd_xm_68 (show decode b_xm_about 107 = .ok (.getfield 68, 3) by decide +kernel), ?_⟩
  refine List.forall_mem_cons.mpr ⟨mx_ok_iret (show decode b_xm_about 110 = .ok (.ireturn, 1) by decide +kernel) rfl, ?_⟩
  refine List.forall_mem_cons.mpr ⟨mx_ok_iconst (show decode b_xm_about 111 = .ok (.iconst (-1), 1) by decide +kernel) (by decide), ?_⟩
  refine List.forall_mem_cons.mpr ⟨mx_ok_iret (show decode b_xm_about 112 = .ok (.ireturn, 1) by decide +kernel) rfl, ?_⟩
  exact fun _ h => absurd h List.not_mem_nil
set_option maxRecDepth 100000 in
set_option maxHeartbeats 4000000 in
theorem ct_xm_about (l : Launch) (np nd : Nat) : mx_Ct l vw_T vw_cl (kx np nd) { frames := 0, cells := 0, slots := 0, locals := 0 } y_xm_about b_xm_about 2 (some .int) (pre_xm_about np nd) (fn_xm_about np nd) := by
  refine mx_ct_of (tb_xm_about np nd ) (by decide) (ok_xm_about l np nd ) (fun as u h => by obtain ⟨_, rfl, -⟩ := h; exact Nat.le_of_ble_eq_true rfl) ?_
  intro as u hpre At hc hw
  obtain ⟨a1, rfl, hp⟩ := hpre
  exact hc 200 [] _ _ _ _ (
    And.intro (fun h1_0 => 
     congrArg (mx_rI u) (show (mx_gf u 0 5) = (xm_about a1 u) from ((xm_about_eq a1 u).trans (if_pos h1_0)).symm)) (fun h1_0 => 
    And.intro (fun h1_1 => 
     congrArg (mx_rI u) (show (mx_gf u 0 6) = (xm_about a1 u) from ((xm_about_eq a1 u).trans ((if_neg h1_0).trans (if_pos h1_1))).symm)) (fun h1_1 => 
    And.intro (fun h1_2 => 
     congrArg (mx_rI u) (show (mx_gf u 0 7) = (xm_about a1 u) from ((xm_about_eq a1 u).trans ((if_neg h1_0).trans ((if_neg h1_1).trans (if_pos h1_2)))).symm)) (fun h1_2 => 
    And.intro (fun h1_3 => 
     congrArg (mx_rI u) (show (mx_gf u 4 3) = (xm_about a1 u) from ((xm_about_eq a1 u).trans ((if_neg h1_0).trans ((if_neg h1_1).trans ((if_neg h1_2).trans (if_pos h1_3))))).symm)) (fun h1_3 => 
    And.intro (fun h1_4 => 
     congrArg (mx_rI u) (show (mx_gf u 8 2) = (xm_about a1 u) from ((xm_about_eq a1 u).trans ((if_neg h1_0).trans ((if_neg h1_1).trans ((if_neg h1_2).trans ((if_neg h1_3).trans (if_pos h1_4)))))).symm)) (fun h1_4 => 
    And.intro (fun h1_5 => 
     congrArg (mx_rI u) (show (mx_gf u 0 8) = (xm_about a1 u) from ((xm_about_eq a1 u).trans ((if_neg h1_0).trans ((if_neg h1_1).trans ((if_neg h1_2).trans ((if_neg h1_3).trans ((if_neg h1_4).trans (if_pos h1_5))))))).symm)) (fun h1_5 => 
    And.intro (fun h1_6 => 
     congrArg (mx_rI u) (show (mx_gf u 0 9) = (xm_about a1 u) from ((xm_about_eq a1 u).trans ((if_neg h1_0).trans ((if_neg h1_1).trans ((if_neg h1_2).trans ((if_neg h1_3).trans ((if_neg h1_4).trans ((if_neg h1_5).trans (if_pos h1_6)))))))).symm)) (fun h1_6 => 
    And.intro (fun h1_7 => 
     And.intro (fun h97 => 
      congrArg (mx_rI u) (show 0 = (xm_about a1 u) from ((xm_about_eq a1 u).trans ((if_neg h1_0).trans ((if_neg h1_1).trans ((if_neg h1_2).trans ((if_neg h1_3).trans ((if_neg h1_4).trans ((if_neg h1_5).trans ((if_neg h1_6).trans ((if_pos h1_7).trans (if_pos h97)))))))))).symm)) (fun h97 => 
      congrArg (mx_rI u) (show 1 = (xm_about a1 u) from ((xm_about_eq a1 u).trans ((if_neg h1_0).trans ((if_neg h1_1).trans ((if_neg h1_2).trans ((if_neg h1_3).trans ((if_neg h1_4).trans ((if_neg h1_5).trans ((if_neg h1_6).trans ((if_pos h1_7).trans (if_neg h97)))))))))).symm))) (fun h1_7 => 
    And.intro (fun h1_8 => 
     congrArg (mx_rI u) (show (mx_gf u 0 10) = (xm_about a1 u) from ((xm_about_eq a1 u).trans ((if_neg h1_0).trans ((if_neg h1_1).trans ((if_neg h1_2).trans ((if_neg h1_3).trans ((if_neg h1_4).trans ((if_neg h1_5).trans ((if_neg h1_6).trans ((if_neg h1_7).trans (if_pos h1_8)))))))))).symm)) (fun h1_8 => 
     congrArg (mx_rI u) (show (-1) = (xm_about a1 u) from ((xm_about_eq a1 u).trans ((if_neg h1_0).trans ((if_neg h1_1).trans ((if_neg h1_2).trans ((if_neg h1_3).trans ((if_neg h1_4).trans ((if_neg h1_5).trans ((if_neg h1_6).trans ((if_neg h1_7).trans (if_neg h1_8)))))))))).symm)))))))))))
/-! WideMachine.due(II)I -/
noncomputable def xm_due_b (a1 : Int32) (a2 : Int32) (u : mx_S) : Int32 :=
  if a1 < 0 then
   (-1)
  else
   if a1 < (mx_gf u 4 3) then
    if a2 = 0 then
     (mx_ga u 5 (a1).toNatClampNeg)
    else
    if a2 = 1 then
     (mx_ga u 6 (a1).toNatClampNeg)
    else
    if a2 = 2 then
     (mx_ga u 7 (a1).toNatClampNeg)
    else
    (-1)
   else
    (-1)
theorem xm_due_ex : ∃ f : Int32 → Int32 → mx_S → (Int32), f = xm_due_b := ⟨_, rfl⟩
noncomputable def xm_due : Int32 → Int32 → mx_S → (Int32) := Classical.choose xm_due_ex
theorem xm_due_eq (a1 : Int32) (a2 : Int32) (u : mx_S) : (xm_due a1 a2 u) = (xm_due_b a1 a2 u) := by rw [show xm_due = xm_due_b from Classical.choose_spec xm_due_ex]
def q_xm_due (np nd : Nat) (a1 : Int32) (a2 : Int32) (u : mx_S) : Prop :=
  ((a1 < 0) → 
   True) ∧ ((¬ (a1 < 0)) → 
   ((a1 < (mx_gf u 4 3)) → 
    ((a2 = 0) → 
     (vp_in a1 18)) ∧ (¬ (a2 = 0) → 
    ((a2 = 1) → 
     (vp_in a1 18)) ∧ (¬ (a2 = 1) → 
    ((a2 = 2) → 
     (vp_in a1 18)) ∧ (¬ (a2 = 2) → 
     True)))) ∧ ((¬ (a1 < (mx_gf u 4 3))) → 
    True))
def pre_xm_due (np nd : Nat) : List mx_V → mx_S → Prop := fun as u => ∃ (a1 : Int32) (a2 : Int32), as = [.inr (.inr 0), .inl a1, .inl a2] ∧ q_xm_due np nd a1 a2 u
noncomputable def fn_xm_due (np nd : Nat) : mx_F := fun as u => match as with
  | [_, .inl a1, .inl a2] => mx_rI u (xm_due a1 a2 u)
  | _ => (none, u)
noncomputable def tb_xm_due (np nd : Nat) : List (Nat × mx_T) := [
  (0, mx_iload_n 1 0),
  (1, mx_if_lt 15 1),
  (4, mx_iload_n 1 4),
  (5, mx_aload_n 0 5),
  (6, mx_getf (kx np nd) 0 3 6),
  (9, mx_getf (kx np nd) 1 3 9),
  (12, mx_icmp_lt 17 12),
  (15, mx_iconst (-1) 15),
  (16, mx_iret 16),
  (17, mx_iload_n 2 17),
  (18, mx_tsw 74 [(0, 44), (1, 54), (2, 64)] 18),
  (44, mx_aload_n 0 44),
  (45, mx_getf (kx np nd) 0 3 45),
  (48, mx_getf (kx np nd) 1 0 48),
  (51, mx_iload_n 1 51),
  (52, mx_iald (kx np nd) 52),
  (53, mx_iret 53),
  (54, mx_aload_n 0 54),
  (55, mx_getf (kx np nd) 0 3 55),
  (58, mx_getf (kx np nd) 1 1 58),
  (61, mx_iload_n 1 61),
  (62, mx_iald (kx np nd) 62),
  (63, mx_iret 63),
  (64, mx_aload_n 0 64),
  (65, mx_getf (kx np nd) 0 3 65),
  (68, mx_getf (kx np nd) 1 2 68),
  (71, mx_iload_n 1 71),
  (72, mx_iald (kx np nd) 72),
  (73, mx_iret 73),
  (74, mx_iconst (-1) 74),
  (75, mx_iret 75)]
set_option maxRecDepth 100000 in
set_option maxHeartbeats 4000000 in
theorem ok_xm_due (l : Launch) (np nd : Nat) : ∀ q ∈ tb_xm_due np nd , mx_Ok l ({ frames := 0, cells := 0, slots := 0, locals := 0 } : Room) b_xm_due 3 "WideMachine" (some .int) vw_T vw_cl (kx np nd) q.1 q.2 := by
  refine List.forall_mem_cons.mpr ⟨mx_ok_iload_n (show decode b_xm_due 0 = .ok (.iload_n 1, 1) by decide +kernel) rfl, ?_⟩
  refine List.forall_mem_cons.mpr ⟨mx_ok_if_lt (show decode b_xm_due 1 = .ok (.ifCond .lt 14, 3) by decide +kernel) (by decide), ?_⟩
  refine List.forall_mem_cons.mpr ⟨mx_ok_iload_n (show decode b_xm_due 4 = .ok (.iload_n 1, 1) by decide +kernel) rfl, ?_⟩
  refine List.forall_mem_cons.mpr ⟨mx_ok_aload_n (show decode b_xm_due 5 = .ok (.aload_n 0, 1) by decide +kernel) rfl, ?_⟩
  refine List.forall_mem_cons.mpr ⟨mx_ok_getf fd_xm_26 (show decode b_xm_due 6 = .ok (.getfield 26, 3) by decide +kernel), ?_⟩
  refine List.forall_mem_cons.mpr ⟨mx_ok_getf fd_xm_54 (show decode b_xm_due 9 = .ok (.getfield 54, 3) by decide +kernel), ?_⟩
  refine List.forall_mem_cons.mpr ⟨mx_ok_icmp_lt (show decode b_xm_due 12 = .ok (.if_icmp .lt 5, 3) by decide +kernel) (by decide), ?_⟩
  refine List.forall_mem_cons.mpr ⟨mx_ok_iconst (show decode b_xm_due 15 = .ok (.iconst (-1), 1) by decide +kernel) (by decide), ?_⟩
  refine List.forall_mem_cons.mpr ⟨mx_ok_iret (show decode b_xm_due 16 = .ok (.ireturn, 1) by decide +kernel) rfl, ?_⟩
  refine List.forall_mem_cons.mpr ⟨mx_ok_iload_n (show decode b_xm_due 17 = .ok (.iload_n 2, 1) by decide +kernel) rfl, ?_⟩
  refine List.forall_mem_cons.mpr ⟨mx_ok_tsw (show decode b_xm_due 18 = .ok (.tableswitch 56 0 2 #[26, 36, 46], 26) by decide +kernel) (by decide) (by decide), ?_⟩
  refine List.forall_mem_cons.mpr ⟨mx_ok_aload_n (show decode b_xm_due 44 = .ok (.aload_n 0, 1) by decide +kernel) rfl, ?_⟩
  refine List.forall_mem_cons.mpr ⟨mx_ok_getf fd_xm_26 (show decode b_xm_due 45 = .ok (.getfield 26, 3) by decide +kernel), ?_⟩
  refine List.forall_mem_cons.mpr ⟨mx_ok_getf fd_xm_71 (show decode b_xm_due 48 = .ok (.getfield 71, 3) by decide +kernel), ?_⟩
  refine List.forall_mem_cons.mpr ⟨mx_ok_iload_n (show decode b_xm_due 51 = .ok (.iload_n 1, 1) by decide +kernel) rfl, ?_⟩
  refine List.forall_mem_cons.mpr ⟨mx_ok_iald (show decode b_xm_due 52 = .ok (.iaload, 1) by decide +kernel), ?_⟩
  refine List.forall_mem_cons.mpr ⟨mx_ok_iret (show decode b_xm_due 53 = .ok (.ireturn, 1) by decide +kernel) rfl, ?_⟩
  refine List.forall_mem_cons.mpr ⟨mx_ok_aload_n (show decode b_xm_due 54 = .ok (.aload_n 0, 1) by decide +kernel) rfl, ?_⟩
  refine List.forall_mem_cons.mpr ⟨mx_ok_getf fd_xm_26 (show decode b_xm_due 55 = .ok (.getfield 26, 3) by decide +kernel), ?_⟩
  refine List.forall_mem_cons.mpr ⟨mx_ok_getf fd_xm_74 (show decode b_xm_due 58 = .ok (.getfield 74, 3) by decide +kernel), ?_⟩
  refine List.forall_mem_cons.mpr ⟨mx_ok_iload_n (show decode b_xm_due 61 = .ok (.iload_n 1, 1) by decide +kernel) rfl, ?_⟩
  refine List.forall_mem_cons.mpr ⟨mx_ok_iald (show decode b_xm_due 62 = .ok (.iaload, 1) by decide +kernel), ?_⟩
  refine List.forall_mem_cons.mpr ⟨mx_ok_iret (show decode b_xm_due 63 = .ok (.ireturn, 1) by decide +kernel) rfl, ?_⟩
  refine List.forall_mem_cons.mpr ⟨mx_ok_aload_n (show decode b_xm_due 64 = .ok (.aload_n 0, 1) by decide +kernel) rfl, ?_⟩
  refine List.forall_mem_cons.mpr ⟨mx_ok_getf fd_xm_26 (show decode b_xm_due 65 = .ok (.getfield 26, 3) by decide +kernel), ?_⟩
  refine List.forall_mem_cons.mpr ⟨mx_ok_getf fd_xm_77 (show decode b_xm_due 68 = .ok (.getfield 77, 3) by decide +kernel), ?_⟩
  refine List.forall_mem_cons.mpr ⟨mx_ok_iload_n (show decode b_xm_due 71 = .ok (.iload_n 1, 1) by decide +kernel) rfl, ?_⟩
  refine List.forall_mem_cons.mpr ⟨mx_ok_iald (show decode b_xm_due 72 = .ok (.iaload, 1) by decide +kernel), ?_⟩
  refine List.forall_mem_cons.mpr ⟨mx_ok_iret (show decode b_xm_due 73 = .ok (.ireturn, 1) by decide +kernel) rfl, ?_⟩
  refine List.forall_mem_cons.mpr ⟨mx_ok_iconst (show decode b_xm_due 74 = .ok (.iconst (-1), 1) by decide +kernel) (by decide), ?_⟩
  refine List.forall_mem_cons.mpr ⟨mx_ok_iret (show decode b_xm_due 75 = .ok (.ireturn, 1) by decide +kernel) rfl, ?_⟩
  exact fun _ h => absurd h List.not_mem_nil
set_option maxRecDepth 100000 in
set_option maxHeartbeats 4000000 in
theorem ct_xm_due (l : Launch) (np nd : Nat) : mx_Ct l vw_T vw_cl (kx np nd) { frames := 0, cells := 0, slots := 0, locals := 0 } y_xm_due b_xm_due 3 (some .int) (pre_xm_due np nd) (fn_xm_due np nd) := by
  refine mx_ct_of (tb_xm_due np nd ) (by decide) (ok_xm_due l np nd ) (fun as u h => by obtain ⟨_, _, rfl, -⟩ := h; exact Nat.le_of_ble_eq_true rfl) ?_
  intro as u hpre At hc hw
  obtain ⟨a1, a2, rfl, hp⟩ := hpre
  exact hc 200 [] _ _ _ _ (
    And.intro (fun h1 => 
     congrArg (mx_rI u) (show (-1) = (xm_due a1 a2 u) from ((xm_due_eq a1 a2 u).trans (if_pos h1)).symm)) (fun h1 => 
     And.intro (fun h12 => 
      And.intro (fun h18_0 => 
       And.intro ((((hp.2 h1).1 h12).1 h18_0)) (
       congrArg (mx_rI u) (show (mx_ga u 5 (a1).toNatClampNeg) = (xm_due a1 a2 u) from ((xm_due_eq a1 a2 u).trans ((if_neg h1).trans ((if_pos h12).trans (if_pos h18_0)))).symm))) (fun h18_0 => 
      And.intro (fun h18_1 => 
       And.intro (((((hp.2 h1).1 h12).2 h18_0).1 h18_1)) (
       congrArg (mx_rI u) (show (mx_ga u 6 (a1).toNatClampNeg) = (xm_due a1 a2 u) from ((xm_due_eq a1 a2 u).trans ((if_neg h1).trans ((if_pos h12).trans ((if_neg h18_0).trans (if_pos h18_1))))).symm))) (fun h18_1 => 
      And.intro (fun h18_2 => 
       And.intro ((((((hp.2 h1).1 h12).2 h18_0).2 h18_1).1 h18_2)) (
       congrArg (mx_rI u) (show (mx_ga u 7 (a1).toNatClampNeg) = (xm_due a1 a2 u) from ((xm_due_eq a1 a2 u).trans ((if_neg h1).trans ((if_pos h12).trans ((if_neg h18_0).trans ((if_neg h18_1).trans (if_pos h18_2)))))).symm))) (fun h18_2 => 
       congrArg (mx_rI u) (show (-1) = (xm_due a1 a2 u) from ((xm_due_eq a1 a2 u).trans ((if_neg h1).trans ((if_pos h12).trans ((if_neg h18_0).trans ((if_neg h18_1).trans (if_neg h18_2)))))).symm))))) (fun h12 => 
      congrArg (mx_rI u) (show (-1) = (xm_due a1 a2 u) from ((xm_due_eq a1 a2 u).trans ((if_neg h1).trans (if_neg h12))).symm))))
/-! WideMachine.raise(I)Z -/
noncomputable def xm_raise_b (a1 : Int32) (u : mx_S) : Int32 × mx_S :=
  if a1 < 0 then
   (0, u)
  else
   if 4 ≤ a1 then
    (0, u)
   else
    if (xm_isRaised a1 u) = 0 then
     (1, (mx_sf u 0 10 ((mx_gf u 0 10) ||| ((1 : Int32) <<< (a1 &&& 31)))))
    else
     (0, u)
theorem xm_raise_ex : ∃ f : Int32 → mx_S → Int32, f = (fun a1 u => (xm_raise_b a1 u).1) := ⟨_, rfl⟩
noncomputable def xm_raise : Int32 → mx_S → Int32 := Classical.choose xm_raise_ex
theorem xm_raise_eq (a1 : Int32) (u : mx_S) : (xm_raise a1 u) = (xm_raise_b a1 u).1 := by rw [show xm_raise = (fun a1 u => (xm_raise_b a1 u).1) from Classical.choose_spec xm_raise_ex]
theorem xm_raise_s_ex : ∃ f : Int32 → mx_S → mx_S, f = (fun a1 u => (xm_raise_b a1 u).2) := ⟨_, rfl⟩
noncomputable def xm_raise_s : Int32 → mx_S → mx_S := Classical.choose xm_raise_s_ex
theorem xm_raise_s_eq (a1 : Int32) (u : mx_S) : (xm_raise_s a1 u) = (xm_raise_b a1 u).2 := by rw [show xm_raise_s = (fun a1 u => (xm_raise_b a1 u).2) from Classical.choose_spec xm_raise_s_ex]
def pre_xm_raise (np nd : Nat) : List mx_V → mx_S → Prop := fun as u => ∃ (a1 : Int32), as = [.inr (.inr 0), .inl a1] ∧ True
noncomputable def fn_xm_raise (np nd : Nat) : mx_F := fun as u => match as with
  | [_, .inl a1] => (some (.inl (xm_raise a1 u)), (xm_raise_s a1 u))
  | _ => (none, u)
noncomputable def tb_xm_raise (np nd : Nat) : List (Nat × mx_T) := [
  (0, mx_iload_n 1 0),
  (1, mx_if_lt 17 1),
  (4, mx_iload_n 1 4),
  (5, mx_iconst 4 5),
  (6, mx_icmp_ge 17 6),
  (9, mx_aload_n 0 9),
  (10, mx_iload_n 1 10),
  (11, mx_invV (kx np nd) 0 1 (pre_xm_isRaised np nd) (fn_xm_isRaised np nd) 11),
  (14, mx_if_eq 19 14),
  (17, mx_iconst 0 17),
  (18, mx_zret 18),
  (19, mx_aload_n 0 19),
  (20, mx_dup 20),
  (21, mx_getf (kx np nd) 0 10 21),
  (24, mx_iconst 1 24),
  (25, mx_iload_n 1 25),
  (26, mx_ishl 26),
  (27, mx_ior 27),
  (28, mx_putf (kx np nd) 0 10 28),
  (31, mx_iconst 1 31),
  (32, mx_zret 32)]
set_option maxRecDepth 100000 in
set_option maxHeartbeats 4000000 in
theorem ok_xm_raise (l : Launch) (np nd : Nat) : ∀ q ∈ tb_xm_raise np nd , mx_Ok l ({ frames := 1, cells := 0, slots := 0, locals := 21 } : Room) b_xm_raise 2 "WideMachine" (some .boolean) vw_T vw_cl (kx np nd) q.1 q.2 := by
  refine List.forall_mem_cons.mpr ⟨mx_ok_iload_n (show decode b_xm_raise 0 = .ok (.iload_n 1, 1) by decide +kernel) rfl, ?_⟩
  refine List.forall_mem_cons.mpr ⟨mx_ok_if_lt (show decode b_xm_raise 1 = .ok (.ifCond .lt 16, 3) by decide +kernel) (by decide), ?_⟩
  refine List.forall_mem_cons.mpr ⟨mx_ok_iload_n (show decode b_xm_raise 4 = .ok (.iload_n 1, 1) by decide +kernel) rfl, ?_⟩
  refine List.forall_mem_cons.mpr ⟨mx_ok_iconst (show decode b_xm_raise 5 = .ok (.iconst 4, 1) by decide +kernel) (by decide), ?_⟩
  refine List.forall_mem_cons.mpr ⟨mx_ok_icmp_ge (show decode b_xm_raise 6 = .ok (.if_icmp .ge 11, 3) by decide +kernel) (by decide), ?_⟩
  refine List.forall_mem_cons.mpr ⟨mx_ok_aload_n (show decode b_xm_raise 9 = .ok (.aload_n 0, 1) by decide +kernel) rfl, ?_⟩
  refine List.forall_mem_cons.mpr ⟨mx_ok_iload_n (show decode b_xm_raise 10 = .ok (.iload_n 1, 1) by decide +kernel) rfl, ?_⟩
  refine List.forall_mem_cons.mpr ⟨mx_ok_invV vw_G (ct_xm_isRaised l np nd) ⟨vm_90, vm_91, vm_46, ⟨by decide +kernel, by decide +kernel, by decide +kernel⟩, ⟨by decide, by decide⟩, rfl, rfl⟩ vm_92 vm_93 rfl (show decode b_xm_raise 11 = .ok (.invokevirtual 80, 3) by decide +kernel), ?_⟩
  refine List.forall_mem_cons.mpr ⟨mx_ok_if_eq (show decode b_xm_raise 14 = .ok (.ifCond .eq 5, 3) by decide +kernel) (by decide), ?_⟩
  refine List.forall_mem_cons.mpr ⟨mx_ok_iconst (show decode b_xm_raise 17 = .ok (.iconst 0, 1) by decide +kernel) (by decide), ?_⟩
  refine List.forall_mem_cons.mpr ⟨mx_ok_zret (show decode b_xm_raise 18 = .ok (.ireturn, 1) by decide +kernel) rfl, ?_⟩
  refine List.forall_mem_cons.mpr ⟨mx_ok_aload_n (show decode b_xm_raise 19 = .ok (.aload_n 0, 1) by decide +kernel) rfl, ?_⟩
  refine List.forall_mem_cons.mpr ⟨mx_ok_dup (show decode b_xm_raise 20 = .ok (.dup, 1) by decide +kernel), ?_⟩
  refine List.forall_mem_cons.mpr ⟨mx_ok_getf fd_xm_68 (show decode b_xm_raise 21 = .ok (.getfield 68, 3) by decide +kernel), ?_⟩
  refine List.forall_mem_cons.mpr ⟨mx_ok_iconst (show decode b_xm_raise 24 = .ok (.iconst 1, 1) by decide +kernel) (by decide), ?_⟩
  refine List.forall_mem_cons.mpr ⟨mx_ok_iload_n (show decode b_xm_raise 25 = .ok (.iload_n 1, 1) by decide +kernel) rfl, ?_⟩
  refine List.forall_mem_cons.mpr ⟨mx_ok_ishl (show decode b_xm_raise 26 = .ok (.ishl, 1) by decide +kernel), ?_⟩
  refine List.forall_mem_cons.mpr ⟨mx_ok_ior (show decode b_xm_raise 27 = .ok (.ior, 1) by decide +kernel), ?_⟩
  refine List.forall_mem_cons.mpr ⟨mx_ok_putf fd_xm_68 fw_0_10 (show decode b_xm_raise 28 = .ok (.putfield 68, 3) by decide +kernel), ?_⟩
  refine List.forall_mem_cons.mpr ⟨mx_ok_iconst (show decode b_xm_raise 31 = .ok (.iconst 1, 1) by decide +kernel) (by decide), ?_⟩
  refine List.forall_mem_cons.mpr ⟨mx_ok_zret (show decode b_xm_raise 32 = .ok (.ireturn, 1) by decide +kernel) rfl, ?_⟩
  exact fun _ h => absurd h List.not_mem_nil
set_option maxRecDepth 100000 in
set_option maxHeartbeats 4000000 in
theorem ct_xm_raise (l : Launch) (np nd : Nat) : mx_Ct l vw_T vw_cl (kx np nd) { frames := 1, cells := 0, slots := 0, locals := 21 } y_xm_raise b_xm_raise 2 (some .boolean) (pre_xm_raise np nd) (fn_xm_raise np nd) := by
  refine mx_ct_of (tb_xm_raise np nd ) (by decide) (ok_xm_raise l np nd ) (fun as u h => by obtain ⟨_, rfl, -⟩ := h; exact Nat.le_of_ble_eq_true rfl) ?_
  intro as u hpre At hc hw
  obtain ⟨a1, rfl, hp⟩ := hpre
  obtain ⟨RES, hRES⟩ : ∃ z, z = (xm_raise_b a1 u) := ⟨_, rfl⟩
  have hfn : fn_xm_raise np nd [.inr (.inr 0), .inl a1] u = mx_rB RES := by
    show ((some (.inl (xm_raise a1 u)), (xm_raise_s a1 u)) : Option mx_V × mx_S) = _
    rw [hRES, xm_raise_eq, xm_raise_s_eq]
    rfl
  rw [hfn] at hc
  exact hc 200 [] _ _ _ _ (
    And.intro (fun h1 => 
     And.intro (Or.inl rfl) (
     congrArg mx_rB (show (0, u) = RES from (if_pos h1).symm.trans hRES.symm))) (fun h1 => 
     And.intro (fun h6 => 
      And.intro (Or.inl rfl) (
      congrArg mx_rB (show (0, u) = RES from ((if_neg h1).trans (if_pos h6)).symm.trans hRES.symm))) (fun h6 => 
      And.intro rfl (
      And.intro ⟨_, rfl, trivial⟩ (
      And.intro (fun h14 => 
       And.intro rfl (
       And.intro (Or.inr rfl) (
       congrArg mx_rB (show (1, (mx_sf u 0 10 ((mx_gf u 0 10) ||| ((1 : Int32) <<< (a1 &&& 31))))) = RES from ((if_neg h1).trans ((if_neg h6).trans (if_pos h14))).symm.trans hRES.symm)))) (fun h14 => 
       And.intro (Or.inl rfl) (
       congrArg mx_rB (show (0, u) = RES from ((if_neg h1).trans ((if_neg h6).trans (if_neg h14))).symm.trans hRES.symm))))))))
/-! WideMachine.letIn(Z)V -/
noncomputable def xm_letIn (a1 : Int32) (u : mx_S) : mx_S :=
  (mx_sf u 0 11 a1)
def q_xm_letIn (np nd : Nat) (a1 : Int32) (u : mx_S) : Prop :=
  (a1 = 0 ∨ a1 = 1)
def pre_xm_letIn (np nd : Nat) : List mx_V → mx_S → Prop := fun as u => ∃ (a1 : Int32), as = [.inr (.inr 0), .inl a1] ∧ q_xm_letIn np nd a1 u
noncomputable def fn_xm_letIn (np nd : Nat) : mx_F := fun as u => match as with
  | [_, .inl a1] => (none, (xm_letIn a1 u))
  | _ => (none, u)
noncomputable def tb_xm_letIn (np nd : Nat) : List (Nat × mx_T) := [
  (0, mx_aload_n 0 0),
  (1, mx_iload_n 1 1),
  (2, mx_putz (kx np nd) 0 11 2),
  (5, mx_vret 5)]
set_option maxRecDepth 100000 in
set_option maxHeartbeats 4000000 in
theorem ok_xm_letIn (l : Launch) (np nd : Nat) : ∀ q ∈ tb_xm_letIn np nd , mx_Ok l ({ frames := 0, cells := 0, slots := 0, locals := 0 } : Room) b_xm_letIn 2 "WideMachine" none vw_T vw_cl (kx np nd) q.1 q.2 := by
  refine List.forall_mem_cons.mpr ⟨mx_ok_aload_n (show decode b_xm_letIn 0 = .ok (.aload_n 0, 1) by decide +kernel) rfl, ?_⟩
  refine List.forall_mem_cons.mpr ⟨mx_ok_iload_n (show decode b_xm_letIn 1 = .ok (.iload_n 1, 1) by decide +kernel) rfl, ?_⟩
  refine List.forall_mem_cons.mpr ⟨mx_ok_putz fd_xm_64 fw_0_11 (show decode b_xm_letIn 2 = .ok (.putfield 64, 3) by decide +kernel), ?_⟩
  refine List.forall_mem_cons.mpr ⟨mx_ok_vret (show decode b_xm_letIn 5 = .ok (.return_, 1) by decide +kernel) rfl, ?_⟩
  exact fun _ h => absurd h List.not_mem_nil
set_option maxRecDepth 100000 in
set_option maxHeartbeats 4000000 in
theorem ct_xm_letIn (l : Launch) (np nd : Nat) : mx_Ct l vw_T vw_cl (kx np nd) { frames := 0, cells := 0, slots := 0, locals := 0 } y_xm_letIn b_xm_letIn 2 none (pre_xm_letIn np nd) (fn_xm_letIn np nd) := by
  refine mx_ct_of (tb_xm_letIn np nd ) (by decide) (ok_xm_letIn l np nd ) (fun as u h => by obtain ⟨_, rfl, -⟩ := h; exact Nat.le_of_ble_eq_true rfl) ?_
  intro as u hpre At hc hw
  obtain ⟨a1, rfl, hp⟩ := hpre
  exact hc 200 [] _ _ _ _ (
    And.intro rfl (
    And.intro (hp) (
    congrArg (fun z : mx_S => ((none, z) : Option mx_V × mx_S)) (show (mx_sf u 0 11 a1) = (xm_letIn a1 u) from (rfl).symm))))
/-! WideMachine.start(I)Z -/
noncomputable def xm_start_b (np nd : Nat) (a1 : Int32) (u : mx_S) : Int32 × mx_S :=
  if a1 < 0 then
   (0, u)
  else
   if a1 < (nI np) then
    (1, (xb_clear (xq_clear (mx_sf (mx_sf (mx_sf u 0 6 a1) 0 5 0) 0 8 0))))
   else
    (0, u)
theorem xm_start_ex : ∃ f : Nat → Nat → Int32 → mx_S → Int32, f = (fun np nd a1 u => (xm_start_b np nd a1 u).1) := ⟨_, rfl⟩
noncomputable def xm_start : Nat → Nat → Int32 → mx_S → Int32 := Classical.choose xm_start_ex
theorem xm_start_eq (np nd : Nat) (a1 : Int32) (u : mx_S) : (xm_start np nd a1 u) = (xm_start_b np nd a1 u).1 := by rw [show xm_start = (fun np nd a1 u => (xm_start_b np nd a1 u).1) from Classical.choose_spec xm_start_ex]
theorem xm_start_s_ex : ∃ f : Nat → Nat → Int32 → mx_S → mx_S, f = (fun np nd a1 u => (xm_start_b np nd a1 u).2) := ⟨_, rfl⟩
noncomputable def xm_start_s : Nat → Nat → Int32 → mx_S → mx_S := Classical.choose xm_start_s_ex
theorem xm_start_s_eq (np nd : Nat) (a1 : Int32) (u : mx_S) : (xm_start_s np nd a1 u) = (xm_start_b np nd a1 u).2 := by rw [show xm_start_s = (fun np nd a1 u => (xm_start_b np nd a1 u).2) from Classical.choose_spec xm_start_s_ex]
def pre_xm_start (np nd : Nat) : List mx_V → mx_S → Prop := fun as u => ∃ (a1 : Int32), as = [.inr (.inr 0), .inl a1] ∧ True
noncomputable def fn_xm_start (np nd : Nat) : mx_F := fun as u => match as with
  | [_, .inl a1] => (some (.inl (xm_start np nd a1 u)), (xm_start_s np nd a1 u))
  | _ => (none, u)
noncomputable def tb_xm_start (np nd : Nat) : List (Nat × mx_T) := [
  (0, mx_iload_n 1 0),
  (1, mx_if_lt 13 1),
  (4, mx_iload_n 1 4),
  (5, mx_aload_n 0 5),
  (6, mx_getf (kx np nd) 0 0 6),
  (9, mx_alen (kx np nd) 9),
  (10, mx_icmp_lt 15 10),
  (13, mx_iconst 0 13),
  (14, mx_zret 14),
  (15, mx_aload_n 0 15),
  (16, mx_iload_n 1 16),
  (17, mx_putf (kx np nd) 0 6 17),
  (20, mx_aload_n 0 20),
  (21, mx_iconst 0 21),
  (22, mx_putf (kx np nd) 0 5 22),
  (25, mx_aload_n 0 25),
  (26, mx_iconst 0 26),
  (27, mx_putf (kx np nd) 0 8 27),
  (30, mx_aload_n 0 30),
  (31, mx_getf (kx np nd) 0 3 31),
  (34, mx_invV (kx np nd) 1 0 (pre_xq_clear np nd) (fn_xq_clear np nd) 34),
  (37, mx_aload_n 0 37),
  (38, mx_getf (kx np nd) 0 4 38),
  (41, mx_invV (kx np nd) 2 0 (pre_xb_clear np nd) (fn_xb_clear np nd) 41),
  (44, mx_iconst 1 44),
  (45, mx_zret 45)]
set_option maxRecDepth 100000 in
set_option maxHeartbeats 4000000 in
theorem ok_xm_start (l : Launch) (np nd : Nat) : ∀ q ∈ tb_xm_start np nd , mx_Ok l ({ frames := 1, cells := 0, slots := 0, locals := 20 } : Room) b_xm_start 2 "WideMachine" (some .boolean) vw_T vw_cl (kx np nd) q.1 q.2 := by
  refine List.forall_mem_cons.mpr ⟨mx_ok_iload_n (show decode b_xm_start 0 = .ok (.iload_n 1, 1) by decide +kernel) rfl, ?_⟩
  refine List.forall_mem_cons.mpr ⟨mx_ok_if_lt (show decode b_xm_start 1 = .ok (.ifCond .lt 12, 3) by decide +kernel) (by decide), ?_⟩
  refine List.forall_mem_cons.mpr ⟨mx_ok_iload_n (show decode b_xm_start 4 = .ok (.iload_n 1, 1) by decide +kernel) rfl, ?_⟩
  refine List.forall_mem_cons.mpr ⟨mx_ok_aload_n (show decode b_xm_start 5 = .ok (.aload_n 0, 1) by decide +kernel) rfl, ?_⟩
  refine List.forall_mem_cons.mpr ⟨mx_ok_getf fd_xm_13 (show decode b_xm_start 6 = .ok (.getfield 13, 3) by decide +kernel), ?_⟩
  refine List.forall_mem_cons.mpr ⟨mx_ok_alen (show decode b_xm_start 9 = .ok (.arraylength, 1) by decide +kernel), ?_⟩
  refine List.forall_mem_cons.mpr ⟨mx_ok_icmp_lt (show decode b_xm_start 10 = .ok (.if_icmp .lt 5, 3) by decide +kernel) (by decide), ?_⟩
  refine List.forall_mem_cons.mpr ⟨mx_ok_iconst (show decode b_xm_start 13 = .ok (.iconst 0, 1) by decide +kernel) (by decide), ?_⟩
  refine List.forall_mem_cons.mpr ⟨mx_ok_zret (show decode b_xm_start 14 = .ok (.ireturn, 1) by decide +kernel) rfl, ?_⟩
  refine List.forall_mem_cons.mpr ⟨mx_ok_aload_n (show decode b_xm_start 15 = .ok (.aload_n 0, 1) by decide +kernel) rfl, ?_⟩
  refine List.forall_mem_cons.mpr ⟨mx_ok_iload_n (show decode b_xm_start 16 = .ok (.iload_n 1, 1) by decide +kernel) rfl, ?_⟩
  refine List.forall_mem_cons.mpr ⟨mx_ok_putf fd_xm_48 fw_0_6 (show decode b_xm_start 17 = .ok (.putfield 48, 3) by decide +kernel), ?_⟩
  refine List.forall_mem_cons.mpr ⟨mx_ok_aload_n (show decode b_xm_start 20 = .ok (.aload_n 0, 1) by decide +kernel) rfl, ?_⟩
  refine List.forall_mem_cons.mpr ⟨mx_ok_iconst (show decode b_xm_start 21 = .ok (.iconst 0, 1) by decide +kernel) (by decide), ?_⟩
  refine List.forall_mem_cons.mpr ⟨mx_ok_putf fd_xm_41 fw_0_5 (show decode b_xm_start 22 = .ok (.putfield 41, 3) by decide +kernel), ?_⟩
  refine List.forall_mem_cons.mpr ⟨mx_ok_aload_n (show decode b_xm_start 25 = .ok (.aload_n 0, 1) by decide +kernel) rfl, ?_⟩
  refine List.forall_mem_cons.mpr ⟨mx_ok_iconst (show decode b_xm_start 26 = .ok (.iconst 0, 1) by decide +kernel) (by decide), ?_⟩
  refine List.forall_mem_cons.mpr ⟨mx_ok_putf fd_xm_58 fw_0_8 (show decode b_xm_start 27 = .ok (.putfield 58, 3) by decide +kernel), ?_⟩
  refine List.forall_mem_cons.mpr ⟨mx_ok_aload_n (show decode b_xm_start 30 = .ok (.aload_n 0, 1) by decide +kernel) rfl, ?_⟩
  refine List.forall_mem_cons.mpr ⟨mx_ok_getf fd_xm_26 (show decode b_xm_start 31 = .ok (.getfield 26, 3) by decide +kernel), ?_⟩
  refine List.forall_mem_cons.mpr ⟨mx_ok_invV vw_G (ct_xq_clear l np nd) ⟨vm_291, vm_292, vm_57, ⟨by decide +kernel, by decide +kernel, by decide +kernel⟩, ⟨by decide, by decide⟩, rfl, rfl⟩ vm_293 vm_294 rfl (show decode b_xm_start 34 = .ok (.invokevirtual 83, 3) by decide +kernel), ?_⟩
  refine List.forall_mem_cons.mpr ⟨mx_ok_aload_n (show decode b_xm_start 37 = .ok (.aload_n 0, 1) by decide +kernel) rfl, ?_⟩
  refine List.forall_mem_cons.mpr ⟨mx_ok_getf fd_xm_33 (show decode b_xm_start 38 = .ok (.getfield 33, 3) by decide +kernel), ?_⟩
  refine List.forall_mem_cons.mpr ⟨mx_ok_invV vw_G (ct_xb_clear l np nd) ⟨vm_295, vm_296, vm_75, ⟨by decide +kernel, by decide +kernel, by decide +kernel⟩, ⟨by decide, by decide⟩, rfl, rfl⟩ vm_297 vm_298 rfl (show decode b_xm_start 41 = .ok (.invokevirtual 86, 3) by decide +kernel), ?_⟩
  refine List.forall_mem_cons.mpr ⟨mx_ok_iconst (show decode b_xm_start 44 = .ok (.iconst 1, 1) by decide +kernel) (by decide), ?_⟩
  refine List.forall_mem_cons.mpr ⟨mx_ok_zret (show decode b_xm_start 45 = .ok (.ireturn, 1) by decide +kernel) rfl, ?_⟩
  exact fun _ h => absurd h List.not_mem_nil
set_option maxRecDepth 100000 in
set_option maxHeartbeats 4000000 in
theorem ct_xm_start (l : Launch) (np nd : Nat) : mx_Ct l vw_T vw_cl (kx np nd) { frames := 1, cells := 0, slots := 0, locals := 20 } y_xm_start b_xm_start 2 (some .boolean) (pre_xm_start np nd) (fn_xm_start np nd) := by
  refine mx_ct_of (tb_xm_start np nd ) (by decide) (ok_xm_start l np nd ) (fun as u h => by obtain ⟨_, rfl, -⟩ := h; exact Nat.le_of_ble_eq_true rfl) ?_
  intro as u hpre At hc hw
  obtain ⟨a1, rfl, hp⟩ := hpre
  obtain ⟨RES, hRES⟩ : ∃ z, z = (xm_start_b np nd a1 u) := ⟨_, rfl⟩
  have hfn : fn_xm_start np nd [.inr (.inr 0), .inl a1] u = mx_rB RES := by
    show ((some (.inl (xm_start np nd a1 u)), (xm_start_s np nd a1 u)) : Option mx_V × mx_S) = _
    rw [hRES, xm_start_eq, xm_start_s_eq]
    rfl
  rw [hfn] at hc
  exact hc 200 [] _ _ _ _ (
    And.intro (fun h1 => 
     And.intro (Or.inl rfl) (
     congrArg mx_rB (show (0, u) = RES from (if_pos h1).symm.trans hRES.symm))) (fun h1 => 
     And.intro (fun h10 => 
      And.intro rfl (
      And.intro rfl (
      And.intro rfl (
      And.intro rfl (
      And.intro ⟨rfl, trivial⟩ (
      And.intro rfl (
      And.intro ⟨rfl, trivial⟩ (
      And.intro (Or.inr rfl) (
      congrArg mx_rB (show (1, (xb_clear (xq_clear (mx_sf (mx_sf (mx_sf u 0 6 a1) 0 5 0) 0 8 0)))) = RES from ((if_neg h1).trans (if_pos h10)).symm.trans hRES.symm)))))))))) (fun h10 => 
      And.intro (Or.inl rfl) (
      congrArg mx_rB (show (0, u) = RES from ((if_neg h1).trans (if_neg h10)).symm.trans hRES.symm)))))
