/-! WideMachine.doStores(I)V -/
noncomputable def xm_doStores_l5 (np nd : Nat) (a1 : Int32) : Nat → Int32 → mx_S → (mx_S)
  | 0, _, u => u
  | n + 1, v2, u =>
    if a1 ≤ v2 then
     u
    else
     if (xw_code (mx_ga u 1 (v2).toNatClampNeg) ) = 51 then
      if (xm_isConditionTrue (mx_ga u 1 (v2).toNatClampNeg) u) = 0 then
       xm_doStores_l5 np nd a1 n (v2 + 1) u
      else
       xm_doStores_l5 np nd a1 n (v2 + 1) (xm_poke_s np nd (xm_dataAddress (mx_ga u 1 (v2).toNatClampNeg) u) (mx_ga u 3 ((xw_d (mx_ga u 1 (v2).toNatClampNeg) )).toNatClampNeg) u)
     else
      xm_doStores_l5 np nd a1 n (v2 + 1) u
def q_xm_doStores_l5 (np nd : Nat) (a1 : Int32) : Nat → Int32 → mx_S → Prop
  | 0, _, _ => False
  | n + 1, v2, u =>
    ((a1 ≤ v2) → 
     True) ∧ ((¬ (a1 ≤ v2)) → 
     (vp_in v2 np) ∧ (
      ((¬ ((xw_code (mx_ga u 1 (v2).toNatClampNeg) ) = 51)) → 
       q_xm_doStores_l5 np nd a1 n (v2 + 1) u) ∧ (((xw_code (mx_ga u 1 (v2).toNatClampNeg) ) = 51) → 
       ((q_xm_isConditionTrue np nd (mx_ga u 1 (v2).toNatClampNeg) u)) ∧ (
        (((xm_isConditionTrue (mx_ga u 1 (v2).toNatClampNeg) u) = 0) → 
         q_xm_doStores_l5 np nd a1 n (v2 + 1) u) ∧ ((¬ ((xm_isConditionTrue (mx_ga u 1 (v2).toNatClampNeg) u) = 0)) → 
         ((q_xm_poke np nd (xm_dataAddress (mx_ga u 1 (v2).toNatClampNeg) u) (mx_ga u 3 ((xw_d (mx_ga u 1 (v2).toNatClampNeg) )).toNatClampNeg) u)) ∧ (
          q_xm_doStores_l5 np nd a1 n (v2 + 1) (xm_poke_s np nd (xm_dataAddress (mx_ga u 1 (v2).toNatClampNeg) u) (mx_ga u 3 ((xw_d (mx_ga u 1 (v2).toNatClampNeg) )).toNatClampNeg) u)))))))
noncomputable def xm_doStores_b (np nd : Nat) (a1 : Int32) (u : mx_S) : mx_S :=
  xm_doStores_l5 np nd a1 20 (mx_gf u 0 6) u
theorem xm_doStores_ex : ∃ f : Nat → Nat → Int32 → mx_S → (mx_S), f = xm_doStores_b := ⟨_, rfl⟩
noncomputable def xm_doStores : Nat → Nat → Int32 → mx_S → (mx_S) := Classical.choose xm_doStores_ex
theorem xm_doStores_eq (np nd : Nat) (a1 : Int32) (u : mx_S) : (xm_doStores np nd a1 u) = (xm_doStores_b np nd a1 u) := by rw [show xm_doStores = xm_doStores_b from Classical.choose_spec xm_doStores_ex]
def q_xm_doStores (np nd : Nat) (a1 : Int32) (u : mx_S) : Prop :=
  q_xm_doStores_l5 np nd a1 20 (mx_gf u 0 6) u
def pre_xm_doStores (np nd : Nat) : List mx_V → mx_S → Prop := fun as u => ∃ (a1 : Int32), as = [.inr (.inr 0), .inl a1] ∧ q_xm_doStores np nd a1 u
noncomputable def fn_xm_doStores (np nd : Nat) : mx_F := fun as u => match as with
  | [_, .inl a1] => (none, (xm_doStores np nd a1 u))
  | _ => (none, u)
noncomputable def tb_xm_doStores (np nd : Nat) : List (Nat × mx_T) := [
  (0, mx_aload_n 0 0),
  (1, mx_getf (kx np nd) 0 6 1),
  (4, mx_istore_n 2 4),
  (5, mx_iload_n 2 5),
  (6, mx_iload_n 1 6),
  (7, mx_icmp_ge 59 7),
  (10, mx_aload_n 0 10),
  (11, mx_getf (kx np nd) 0 0 11),
  (14, mx_iload_n 2 14),
  (15, mx_iald (kx np nd) 15),
  (16, mx_istore_n 3 16),
  (17, mx_iload_n 3 17),
  (18, mx_invS 1 (pre_xw_code np nd) (fn_xw_code np nd) 18),
  (21, mx_bipush 51 21),
  (23, mx_icmp_ne 53 23),
  (26, mx_aload_n 0 26),
  (27, mx_iload_n 3 27),
  (28, mx_invV (kx np nd) 0 1 (pre_xm_isConditionTrue np nd) (fn_xm_isConditionTrue np nd) 28),
  (31, mx_if_eq 53 31),
  (34, mx_aload_n 0 34),
  (35, mx_aload_n 0 35),
  (36, mx_iload_n 3 36),
  (37, mx_invV (kx np nd) 0 1 (pre_xm_dataAddress np nd) (fn_xm_dataAddress np nd) 37),
  (40, mx_aload_n 0 40),
  (41, mx_getf (kx np nd) 0 2 41),
  (44, mx_iload_n 3 44),
  (45, mx_invS 1 (pre_xw_d np nd) (fn_xw_d np nd) 45),
  (48, mx_iald (kx np nd) 48),
  (49, mx_invV (kx np nd) 0 2 (pre_xm_poke np nd) (fn_xm_poke np nd) 49),
  (52, mx_pop 52),
  (53, mx_iinc 2 1 53),
  (56, mx_goto 5 56),
  (59, mx_vret 59)]
set_option maxRecDepth 100000 in
set_option maxHeartbeats 4000000 in
theorem ok_xm_doStores (l : Launch) (np nd : Nat) : ∀ q ∈ tb_xm_doStores np nd , mx_Ok l ({ frames := 3, cells := 0, slots := 0, locals := 62 } : Room) b_xm_doStores 4 "WideMachine" none vw_T vw_cl (kx np nd) q.1 q.2 := by
  refine List.forall_mem_cons.mpr ⟨mx_ok_aload_n (show decode b_xm_doStores 0 = .ok (.aload_n 0, 1) by decide +kernel) rfl, ?_⟩
  refine List.forall_mem_cons.mpr ⟨mx_ok_getf fd_xm_48 (show decode b_xm_doStores 1 = .ok (.getfield 48, 3) by decide +kernel), ?_⟩
  refine List.forall_mem_cons.mpr ⟨mx_ok_istore_n (show decode b_xm_doStores 4 = .ok (.istore_n 2, 1) by decide +kernel) rfl (by decide), ?_⟩
  refine List.forall_mem_cons.mpr ⟨mx_ok_iload_n (show decode b_xm_doStores 5 = .ok (.iload_n 2, 1) by decide +kernel) rfl, ?_⟩
  refine List.forall_mem_cons.mpr ⟨mx_ok_iload_n (show decode b_xm_doStores 6 = .ok (.iload_n 1, 1) by decide +kernel) rfl, ?_⟩
  refine List.forall_mem_cons.mpr ⟨mx_ok_icmp_ge (show decode b_xm_doStores 7 = .ok (.if_icmp .ge 52, 3) by decide +kernel) (by decide), ?_⟩
  refine List.forall_mem_cons.mpr ⟨mx_ok_aload_n (show decode b_xm_doStores 10 = .ok (.aload_n 0, 1) by decide +kernel) rfl, ?_⟩
  refine List.forall_mem_cons.mpr ⟨mx_ok_getf fd_xm_13 (show decode b_xm_doStores 11 = .ok (.getfield 13, 3) by decide +kernel), ?_⟩
  refine List.forall_mem_cons.mpr ⟨mx_ok_iload_n (show decode b_xm_doStores 14 = .ok (.iload_n 2, 1) by decide +kernel) rfl, ?_⟩
  refine List.forall_mem_cons.mpr ⟨mx_ok_iald (show decode b_xm_doStores 15 = .ok (.iaload, 1) by decide +kernel), ?_⟩
  refine List.forall_mem_cons.mpr ⟨mx_ok_istore_n (show decode b_xm_doStores 16 = .ok (.istore_n 3, 1) by decide +kernel) rfl (by decide), ?_⟩
  refine List.forall_mem_cons.mpr ⟨mx_ok_iload_n (show decode b_xm_doStores 17 = .ok (.iload_n 3, 1) by decide +kernel) rfl, ?_⟩
  refine List.forall_mem_cons.mpr ⟨mx_ok_invS vw_G (ct_xw_code l np nd) ⟨vm_159, vm_100, vm_97, ⟨by decide +kernel, by decide +kernel, by decide +kernel⟩, ⟨by decide, by decide⟩, rfl, rfl⟩ vm_101 (show decode b_xm_doStores 18 = .ok (.invokestatic 163, 3) by decide +kernel), ?_⟩
  refine List.forall_mem_cons.mpr ⟨mx_ok_bipush (show decode b_xm_doStores 21 = .ok (.bipush 51, 2) by decide +kernel) (by decide), ?_⟩
  refine List.forall_mem_cons.mpr ⟨mx_ok_icmp_ne (show decode b_xm_doStores 23 = .ok (.if_icmp .ne 30, 3) by decide +kernel) (by decide), ?_⟩
  refine List.forall_mem_cons.mpr ⟨mx_ok_aload_n (show decode b_xm_doStores 26 = .ok (.aload_n 0, 1) by decide +kernel) rfl, ?_⟩
  refine List.forall_mem_cons.mpr ⟨mx_ok_iload_n (show decode b_xm_doStores 27 = .ok (.iload_n 3, 1) by decide +kernel) rfl, ?_⟩
  refine List.forall_mem_cons.mpr ⟨mx_ok_invV vw_G (ct_xm_isConditionTrue l np nd) ⟨vm_160, vm_161, vm_46, ⟨by decide +kernel, by decide +kernel, by decide +kernel⟩, ⟨by decide, by decide⟩, rfl, rfl⟩ vm_162 vm_163 rfl (show decode b_xm_doStores 28 = .ok (.invokevirtual 166, 3) by decide +kernel), ?_⟩
  refine List.forall_mem_cons.mpr ⟨mx_ok_if_eq (show decode b_xm_doStores 31 = .ok (.ifCond .eq 22, 3) by decide +kernel) (by decide), ?_⟩
  refine List.forall_mem_cons.mpr ⟨mx_ok_aload_n (show decode b_xm_doStores 34 = .ok (.aload_n 0, 1) by decide +kernel) rfl, ?_⟩
  refine List.forall_mem_cons.mpr ⟨mx_ok_aload_n (show decode b_xm_doStores 35 = .ok (.aload_n 0, 1) by decide +kernel) rfl, ?_⟩
  refine List.forall_mem_cons.mpr ⟨mx_ok_iload_n (show decode b_xm_doStores 36 = .ok (.iload_n 3, 1) by decide +kernel) rfl, ?_⟩
  refine List.forall_mem_cons.mpr ⟨mx_ok_invV vw_G (ct_xm_dataAddress l np nd) ⟨vm_164, vm_165, vm_46, ⟨by decide +kernel, by decide +kernel, by decide +kernel⟩, ⟨by decide, by decide⟩, rfl, rfl⟩ vm_166 vm_167 rfl (show decode b_xm_doStores 37 = .ok (.invokevirtual 169, 3) by decide +kernel), ?_⟩
  refine List.forall_mem_cons.mpr ⟨mx_ok_aload_n (show decode b_xm_doStores 40 = .ok (.aload_n 0, 1) by decide +kernel) rfl, ?_⟩
  refine List.forall_mem_cons.mpr ⟨mx_ok_getf fd_xm_20 (show decode b_xm_doStores 41 = .ok (.getfield 20, 3) by decide +kernel), ?_⟩
  refine List.forall_mem_cons.mpr ⟨mx_ok_iload_n (show decode b_xm_doStores 44 = .ok (.iload_n 3, 1) by decide +kernel) rfl, ?_⟩
  refine List.forall_mem_cons.mpr ⟨mx_ok_invS vw_G (ct_xw_d l np nd) ⟨vm_201, vm_115, vm_97, ⟨by decide +kernel, by decide +kernel, by decide +kernel⟩, ⟨by decide, by decide⟩, rfl, rfl⟩ vm_116 (show decode b_xm_doStores 45 = .ok (.invokestatic 205, 3) by decide +kernel), ?_⟩
  refine List.forall_mem_cons.mpr ⟨mx_ok_iald (show decode b_xm_doStores 48 = .ok (.iaload, 1) by decide +kernel), ?_⟩
  refine List.forall_mem_cons.mpr ⟨mx_ok_invV vw_G (ct_xm_poke l np nd) ⟨vm_246, vm_247, vm_46, ⟨by decide +kernel, by decide +kernel, by decide +kernel⟩, ⟨by decide, by decide⟩, rfl, rfl⟩ vm_248 vm_249 rfl (show decode b_xm_doStores 49 = .ok (.invokevirtual 243, 3) by decide +kernel), ?_⟩
  refine List.forall_mem_cons.mpr ⟨mx_ok_pop (show decode b_xm_doStores 52 = .ok (.pop, 1) by decide +kernel), ?_⟩
  refine List.forall_mem_cons.mpr ⟨mx_ok_iinc (show decode b_xm_doStores 53 = .ok (.iinc 2 1, 3) by decide +kernel) (by decide) (by decide), ?_⟩
  refine List.forall_mem_cons.mpr ⟨mx_ok_goto (show decode b_xm_doStores 56 = .ok (.goto (-51), 3) by decide +kernel) (by decide), ?_⟩
  refine List.forall_mem_cons.mpr ⟨mx_ok_vret (show decode b_xm_doStores 59 = .ok (.return_, 1) by decide +kernel) rfl, ?_⟩
  exact fun _ h => absurd h List.not_mem_nil
set_option maxRecDepth 100000 in
set_option maxHeartbeats 4000000 in
theorem ct_xm_doStores (l : Launch) (np nd : Nat) : mx_Ct l vw_T vw_cl (kx np nd) { frames := 3, cells := 0, slots := 0, locals := 62 } y_xm_doStores b_xm_doStores 4 none (pre_xm_doStores np nd) (fn_xm_doStores np nd) := by
  refine mx_ct_of (tb_xm_doStores np nd ) (by decide) (ok_xm_doStores l np nd ) (fun as u h => by obtain ⟨_, rfl, -⟩ := h; exact Nat.le_of_ble_eq_true rfl) ?_
  intro as u hpre At hc hw
  obtain ⟨a1, rfl, hp⟩ := hpre
  obtain ⟨RES, hRES⟩ : ∃ z, z = (xm_doStores np nd a1 u) := ⟨_, rfl⟩
  have hfn : fn_xm_doStores np nd [.inr (.inr 0), .inl a1] u = (none, RES) := by rw [hRES]; rfl
  rw [hfn] at hc
  have lp5 : ∀ (n5 : Nat) (v2 : Int32) (u : mx_S), q_xm_doStores_l5 np nd a1 n5 v2 u → xm_doStores_l5 np nd a1 n5 v2 u = RES → At 5 [(2, .inl v2), (0, .inr (.inr 0)), (1, .inl a1)] [] u := by
    intro n5
    induction n5 with
    | zero =>
      intro v2 u hi he
      exact hi.elim
    | succ n5 ih5 =>
      intro v2 u hi5 he5
      exact hc 200 [5] _ _ _ _ (
        And.intro (fun h7 => 
         congrArg (fun z : mx_S => ((none, z) : Option mx_V × mx_S)) (show u = RES from (if_pos h7).symm.trans he5)) (fun h7 => 
         And.intro ((hi5.2 h7).1) (
         And.intro rfl (
         And.intro ⟨_, rfl, trivial⟩ (
         And.intro (fun h23 => 
          hw [0, 2, 3] 5 _ [] _ (ih5 (v2 + 1) u ((hi5.2 h7).2.1 h23) (((if_neg h7).trans (if_neg h23)).symm.trans he5))) (fun h23 => 
          And.intro rfl (
          And.intro ⟨_, rfl, ((hi5.2 h7).2.2 h23).1⟩ (
          And.intro (fun h31 => 
           hw [0, 2, 3] 5 _ [] _ (ih5 (v2 + 1) u (((hi5.2 h7).2.2 h23).2.1 h31) (((if_neg h7).trans ((if_pos h23).trans (if_pos h31))).symm.trans he5))) (fun h31 => 
           And.intro rfl (
           And.intro ⟨_, rfl, trivial⟩ (
           And.intro rfl (
           And.intro ⟨_, rfl, trivial⟩ (
           And.intro (xw_d_in _) (
           And.intro rfl (
           And.intro ⟨_, _, rfl, (((hi5.2 h7).2.2 h23).2.2 h31).1⟩ (
           hw [0, 2, 3] 5 _ [] _ (ih5 (v2 + 1) (xm_poke_s np nd (xm_dataAddress (mx_ga u 1 (v2).toNatClampNeg) u) (mx_ga u 3 ((xw_d (mx_ga u 1 (v2).toNatClampNeg) )).toNatClampNeg) u) (((hi5.2 h7).2.2 h23).2.2 h31).2 (((if_neg h7).trans ((if_pos h23).trans (if_neg h31))).symm.trans he5))))))))))))))))))
  exact hc 200 [5] _ _ _ _ (
    hw [0, 1, 2] 5 _ [] _ (lp5 20 (mx_gf u 0 6) u hp ((xm_doStores_eq np nd a1 u).symm.trans hRES.symm)))
