/-! THE CLAIM OUT OF ONE WALK OF THE LAW'S BODY. Your part is whole_start (and what it stands on); all else here is the same for every law, but numbers. -/
def R_law : String := "WideMachineLaw"
def lw_P (b : Addr) (xs : List Int32) (args : Array Value) (s : State) : Prop := args = #[.ref b] ∧ s.IntsAt b xs ∧ xs.length ≤ 1538 ∧ (Jvm.Cond.and given_1 narrow_1).before args s = true
def lw_Q (_ : Array Value) (s : State) (o : Outcome) (t : State) : Prop := o = .returned (some (.int 1)) ∧ Framed s o t [] 600000 7302250
def lw_Z (below : List Frame) (a : Array Value) (s : State) : State → Prop := fun t => ∃ o, t.status = .running ∧ Ended t below o ∧ lw_Q a s o t
/-- the law's own end, with 1 on the stack, nothing written that was there before, its room as the claim has it -/
theorem lw_ret {p : Program} {l : Launch} {e : Env} {s : State} {m : MethodId} {below : List Frame} {meth : Method} {c : Code} {b : Nat} (hx : p.tables.exec = Jvm.exec) (hb : c.code = code) (hr : meth.sig.returnType = ret) (hlocks : meth.locks = false) {pc : Nat} {H : Heap} {ls : Array Slot} (hdg : decode code pc = .ok (.ireturn, 1)) : W p l e room_1 s m #[Value.ref b] below meth c H [] 600000 7302250 (lw_Z below #[Value.ref b] s) (F0 m pc ls [.int 1]) := by
  intro T hT X
  obtain ⟨fs, hret, hrun, hended, hW, hframe⟩ := X.leave (v := some (.int 1)) (hlocks := hlocks) (fun h => by rw [hr] at h; cases h)
  have hmeth' : T.vm.method? m = some meth := X.method'
  refine ⟨T.setFrames fs, ?_, .returned (some (.int 1)), hrun, hended, rfl, ⟨_, rfl⟩, hW, hframe⟩
  jvm_step X.here [X.here.top, hx, hb, hdg, hmeth', hr, ret, narrow_b1]
  (try refine ⟨rfl, ?_⟩); (try refine ⟨rfl, ?_⟩)
  first | (intro acts; rw [hret _ acts rfl rfl rfl]) | rw [hret _ _ rfl rfl rfl]
  exact Steps.refl _
/-- what holds at the law's entry: the machine, the code, the tables' words (any of lw_tbl by 'hts w (by decide +kernel)'), the script of L ints xs at the cell b, what the Statement gives of the start (any of its parts by flat_of_before) -/
def lw_At (p : Program) (s : State) (m : MethodId) (meth : Method) (c : Code) (b L : Nat) (xs : Nat → Int32) : Prop :=
  p.tables.exec = Jvm.exec ∧ c.code = code ∧ meth.sig.returnType = ret ∧ c.maxLocals = 4 ∧ s.vm.findClass R_law = some m.cls ∧ (∀ w ∈ lw_tbl, w.before #[Value.ref b] s = true) ∧ va_X b L xs s s.heap ∧ b < s.heap.size ∧ meth.locks = false ∧ (Jvm.Cond.and given_1 narrow_1).before #[Value.ref b] s = true

abbrev b_cell : ByteArray := method_2_code
def y_cell : MethodName := ⟨"WideMachineLaw", "cell", "([II)I"⟩
theorem wx_0 : Cond.instantiable "WideMachine" 12 ∈ lw_tbl := List.mem_append_right _ (show _ ∈ tables_1 from List.mem_append_left _ (List.mem_of_getElem? (i := 9) rfl))
theorem wx_1 : Cond.instantiable "WideMachine$Writes" 4 ∈ lw_tbl := List.mem_append_right _ (show _ ∈ tables_1 from List.mem_append_left _ (List.mem_of_getElem? (i := 26) rfl))
theorem wx_2 : Cond.instantiable "WideMachine$Branches" 3 ∈ lw_tbl := List.mem_append_right _ (show _ ∈ tables_1 from List.mem_append_left _ (List.mem_of_getElem? (i := 50) rfl))
theorem wx_3 : Cond.instantiable "WideMachineModel" 23 ∈ lw_tbl := List.mem_append_right _ (show _ ∈ tables_1 from List.mem_append_right _ (List.mem_append_left _ (List.mem_of_getElem? (i := 129) rfl)))
theorem wx_4 : Cond.arrayClass .int ∈ lw_tbl := List.mem_append_right _ (show _ ∈ tables_1 from List.mem_append_left _ (List.mem_of_getElem? (i := 48) rfl))
theorem wx_5 : Cond.code y_cell b_cell 2 (some .int) ∈ lw_tbl := List.mem_append_right _ (show _ ∈ tables_1 from List.mem_append_right _ (List.mem_append_left _ (List.mem_of_getElem? (i := 127) rfl)))
theorem wx_6 : Cond.classLink "WideMachineLaw" 7 "WideMachine" ∈ lw_tbl := List.mem_append_right _ (show _ ∈ tables_1 from List.mem_append_left _ (List.mem_of_getElem? (i := 8) rfl))
theorem wx_7 : Cond.initialized "WideMachine" ∈ lw_tbl := List.mem_append_right _ (show _ ∈ tables_1 from List.mem_append_left _ (List.mem_of_getElem? (i := 1) rfl))
theorem wx_8 : Cond.initialized "WideMachineLaw" ∈ lw_tbl := List.mem_append_right _ (show _ ∈ tables_1 from List.mem_append_left _ (List.mem_of_getElem? (i := 0) rfl))
theorem wx_9 : Cond.methodLink "WideMachineLaw" 9 y_cell ∈ lw_tbl := List.mem_append_right _ (show _ ∈ tables_1 from List.mem_append_right _ (List.mem_append_left _ (List.mem_of_getElem? (i := 125) rfl)))
theorem wx_10 : Cond.static y_cell ∈ lw_tbl := List.mem_append_right _ (show _ ∈ tables_1 from List.mem_append_right _ (List.mem_append_left _ (List.mem_of_getElem? (i := 126) rfl)))
theorem wx_11 : Cond.methodLinkNest "WideMachine" 25 y_xq_init "WideMachine" ∈ lw_tbl := List.mem_append_right _ (show _ ∈ tables_1 from List.mem_append_left _ (List.mem_of_getElem? (i := 27) rfl))
theorem wx_12 : Cond.methodLinkNest "WideMachine" 32 y_xb_init "WideMachine" ∈ lw_tbl := List.mem_append_right _ (show _ ∈ tables_1 from List.mem_append_left _ (List.mem_of_getElem? (i := 51) rfl))
theorem wx_13 : Cond.code y_xm_init b_xm_init 3 none ∈ lw_tbl := List.mem_append_right _ (show _ ∈ tables_1 from List.mem_append_left _ (List.mem_of_getElem? (i := 12) rfl))
theorem wx_14 : Cond.methodLink "WideMachineLaw" 15 y_xm_init ∈ lw_tbl := List.mem_append_right _ (show _ ∈ tables_1 from List.mem_append_left _ (List.mem_of_getElem? (i := 10) rfl))
theorem wx_15 : Cond.instanceMethod y_xm_init ∈ lw_tbl := List.mem_append_right _ (show _ ∈ tables_1 from List.mem_append_left _ (List.mem_of_getElem? (i := 11) rfl))
theorem wx_16 : Cond.classLink "WideMachineLaw" 18 "WideMachineModel" ∈ lw_tbl := List.mem_append_right _ (show _ ∈ tables_1 from List.mem_append_right _ (List.mem_append_left _ (List.mem_of_getElem? (i := 128) rfl)))
theorem wx_17 : Cond.initialized "WideMachineModel" ∈ lw_tbl := List.mem_append_right _ (show _ ∈ tables_1 from List.mem_append_left _ (List.mem_of_getElem? (i := 5) rfl))
theorem wx_18 : Cond.code y_mm_init b_mm_init 3 none ∈ lw_tbl := List.mem_append_right _ (show _ ∈ tables_1 from List.mem_append_right _ (List.mem_append_left _ (List.mem_of_getElem? (i := 132) rfl)))
theorem wx_19 : Cond.methodLink "WideMachineLaw" 20 y_mm_init ∈ lw_tbl := List.mem_append_right _ (show _ ∈ tables_1 from List.mem_append_right _ (List.mem_append_left _ (List.mem_of_getElem? (i := 130) rfl)))
theorem wx_20 : Cond.instanceMethod y_mm_init ∈ lw_tbl := List.mem_append_right _ (show _ ∈ tables_1 from List.mem_append_right _ (List.mem_append_left _ (List.mem_of_getElem? (i := 131) rfl)))
def ml_rf (N : Nat) : List (Option Nat) → Bool
  | [] => true
  | some k :: r => Nat.blt k N && ml_rf N r
  | none :: r => ml_rf N r
def ml_rk (N : Nat) : mx_K → Bool
  | [] => true
  | .inl q :: r => ml_rf N q.2 && ml_rk N r
  | .inr _ :: r => ml_rk N r
theorem ml_fscongr {N : Nat} {ad ad' : Nat → Nat} (h : ∀ k, k < N → ad k = ad' k) (g : Nat → Int32) : ∀ (fs : List (Option Nat)) (j : Nat), ml_rf N fs = true → mx_fs ad g j fs = mx_fs ad' g j fs
  | [], _, _ => rfl
  | some k :: r, j, hr => by
    unfold ml_rf at hr
    rw [Bool.and_eq_true] at hr
    show Value.ref (ad k) :: mx_fs ad g (j + 1) r = Value.ref (ad' k) :: mx_fs ad' g (j + 1) r
    rw [h k (by have := hr.1; simpa [Nat.blt_eq] using this), ml_fscongr h g r (j + 1) hr.2]
  | none :: r, j, hr => by
    show Value.int (g j) :: mx_fs ad g (j + 1) r = Value.int (g j) :: mx_fs ad' g (j + 1) r
    rw [ml_fscongr h g r (j + 1) hr]
theorem ml_wc {N : Nat} {ad ad' : Nat → Nat} (h : ∀ k, k < N → ad k = ad' k) (cA : ClassId) (u : mx_S) : ∀ (sk : mx_K) (i : Nat), ml_rk N sk = true → i + sk.length ≤ N → mx_w ad cA u i sk = mx_w ad' cA u i sk
  | [], _, _, _ => rfl
  | .inl q :: r, i, hr, hl => by
    unfold ml_rk at hr
    rw [Bool.and_eq_true] at hr
    have hl' : i + (r.length + 1) ≤ N := hl
    show (ad i, Sum.inr (q.1, mx_fs ad (u.1 i) 0 q.2)) :: mx_w ad cA u (i + 1) r = (ad' i, Sum.inr (q.1, mx_fs ad' (u.1 i) 0 q.2)) :: mx_w ad' cA u (i + 1) r
    rw [h i (by omega), ml_fscongr h (u.1 i) q.2 0 hr.1, ml_wc h cA u r (i + 1) hr.2 (by omega)]
  | .inr n :: r, i, hr, hl => by
    have hl' : i + (r.length + 1) ≤ N := hl
    show (ad i, Sum.inl (cA, n, Sum.inl (u.2 i))) :: mx_w ad cA u (i + 1) r = (ad' i, Sum.inl (cA, n, Sum.inl (u.2 i))) :: mx_w ad' cA u (i + 1) r
    rw [h i (by omega), ml_wc h cA u r (i + 1) hr (by omega)]
theorem ml_wcongr (ad ad' : Nat → Nat) (cA : ClassId) (u : mx_S) (sk : mx_K) (h : ∀ k, k < 11 → ad k = ad' k) (hs : ml_rk 11 sk = true) (hl : sk.length = 11) : mx_w ad cA u 0 sk = mx_w ad' cA u 0 sk := ml_wc h cA u sk 0 hs (by omega)
def ml_cell (Ln : Nat) (xs : Nat → Int32) (k : Int32) : Int32 := if nI Ln ≤ k then 0 else xs k.toNatClampNeg
theorem ml_Xmono {A A' : Nat → Prop} {H0 H : Heap} {locs : List Loc} (h : ∀ q, A q → A' q) (hS : va_S A H0 H locs) : va_S A' H0 H locs := ⟨hS.1, fun q h1 h2 => hS.2.1 q h1 (fun z => h2 (h q z)), fun q hq => h _ (hS.2.2 q hq)⟩
set_option maxRecDepth 100000 in
set_option maxHeartbeats 4000000 in
theorem c_cell (l : Launch) (b Ln : Nat) (xs : Nat → Int32) (k : Int32) (hk : ¬ k < 0) (hL : Ln ≤ 1538) : Met l y_cell [.code y_cell b_cell 2 (some .int)] { frames := 0, cells := 0, slots := 0, locals := 0 } (va_Pc [.ref b, .int k] (fun U => va_X b Ln xs U U.heap)) (vp_Si (fun r => r = ml_cell Ln xs k)) 0 0 (fun _ => False) := by
  refine Met.ofW (cc := b_cell) (maxL := 2) (ret := some .int) (by decide) rfl ?_
  intro p e s m args below meth c s₁ B hml hv
  obtain ⟨rfl, hX⟩ := hv
  have hx := B.exec
  have hb := B.bytes
  have hr := B.returns
  have hlocks := B.notSynchronized
  have hbl : b < s.heap.size := by
    obtain ⟨scr, h1, -⟩ := hX
    exact (Array.getElem?_eq_some_iff.mp h1).1
  have hS : va_S (fun _ => False) s.heap s.heap [] := va_S.rf
  have hl := lv_entry ([.ref b, .int k]) (n := 2) (Nat.le_of_ble_eq_true rfl)
  rw [lg_entry_eq]
  generalize (lg_sl ([.ref b, .int k]) ++ List.replicate (2 - (lg_sl ([.ref b, .int k])).length) Slot.unset).toArray = ls at hl ⊢
  have hl : lv_has ls 2 [(0, .ref b), (1, .int k)] := hl
  refine lv_iload_n hx hb (show decode b_cell 0 = .ok (.iload_n 1, 1) by decide +kernel) rfl (lv_at hl 1 rfl) ?_
  refine lv_aload_n hx hb (show decode b_cell 1 = .ok (.aload_n 0, 1) by decide +kernel) rfl (lv_at hl 0 rfl) ?_
  refine va_slen hx hb hX hbl (fun h => h) hS (show decode b_cell 2 = .ok (.arraylength, 1) by decide +kernel) ?_
  refine lv_icmp_ge (tgt := 12) hx hb (show decode b_cell 3 = .ok (.if_icmp .ge 9, 3) by decide +kernel) (by decide) (fun h3 => ?_) (fun h3 => ?_)
  · refine lv_iconst (v := 0) hx hb (show decode b_cell 12 = .ok (.iconst 0, 1) by decide +kernel) (by decide) ?_
    exact W.iret hx hb hr (fun t ht hW => ⟨_, rfl, (if_pos h3).symm, ht⟩) (fun q h => by cases h) (show decode b_cell 13 = .ok (.ireturn, 1) by decide +kernel)
  · have hin : vp_in k Ln := by
      intro q
      rcases q with q | q
      · exact hk q
      · apply h3
        show nI Ln ≤ k
        rw [Int32.le_iff_toInt_le, nI_toInt (by omega)]
        rw [Int32.lt_iff_toInt_lt, Int32.toInt_zero] at hk
        have q2 : Ln ≤ k.toInt.toNat := q
        omega
    refine lv_aload_n hx hb (show decode b_cell 6 = .ok (.aload_n 0, 1) by decide +kernel) rfl (lv_at hl 0 rfl) ?_
    refine lv_iload_n hx hb (show decode b_cell 7 = .ok (.iload_n 1, 1) by decide +kernel) rfl (lv_at hl 1 rfl) ?_
    refine va_sld hx hb hX hbl (fun h => h) hS hin (show decode b_cell 8 = .ok (.iaload, 1) by decide +kernel) ?_
    refine lv_goto (tgt := 13) hx hb (show decode b_cell 9 = .ok (.goto 4, 3) by decide +kernel) (by decide) ?_
    exact W.iret hx hb hr (fun t ht hW => ⟨_, rfl, (if_neg h3).symm, ht⟩) (fun q h => by cases h) (show decode b_cell 13 = .ok (.ireturn, 1) by decide +kernel)
theorem ml_isn {a : Int32} {n : Nat} (h : ml_is a n) : 16 ≤ n ∧ n ≤ 256 ∧ ml_clamp a = nI n := by
  obtain ⟨r, h1, h2, h3, h4⟩ := h
  have hb := ml_near_b a
  rw [← h1] at hb
  have h3' : r.toInt.toNat = n := h3
  refine ⟨by omega, h4, ?_⟩
  have e1 : (256 : Int32).toInt = 256 := by decide
  have e2 : (16 : Int32).toInt = 16 := by decide
  apply Int32.toInt_inj.mp
  rw [nI_toInt (by omega), ← h3']
  have hc : (ml_clamp a).toInt = r.toInt := by
    rw [h1]
    unfold ml_clamp ml_near
    by_cases g1 : a < 256
    · rw [if_pos g1]
      by_cases g2 : 16 < a
      · rw [if_pos g2, if_pos (Int32.le_of_lt g2), if_pos (Int32.le_of_lt g1)]
      · rw [if_neg g2]
        by_cases g3 : 16 ≤ a
        · have : a = 16 := Int32.le_antisymm (Int32.not_lt.mp g2) g3
          subst this
          decide
        · rw [if_neg g3]
    · rw [if_neg g1]
      have g2 : (256 : Int32) ≤ a := Int32.not_lt.mp g1
      have g3 : (16 : Int32) ≤ a := Int32.le_trans (by decide) g2
      rw [if_pos g3]
      by_cases g4 : a ≤ 256
      · have : a = 256 := Int32.le_antisymm g4 g2
        subst this
        decide
      · rw [if_neg g4]
        decide
  rw [hc]
  omega
theorem ml_tblX {y : MethodName} {bytes : ByteArray} {maxL : Nat} {rt : Option FieldType} (h : Cond.code y bytes maxL rt ∈ lw_tbl) : GoodIn lw_tbl (Cond.code y bytes maxL rt :: vw_Q) := by
  intro w hw
  rcases List.mem_cons.mp hw with rfl | h1
  · exact ⟨h, Or.inl rfl⟩
  · exact ⟨(List.mem_append.mp h1).elim (vw_K_in w) (vw_T_in w), (vw_KG w h1).2⟩
set_option maxRecDepth 100000 in
set_option maxHeartbeats 8000000 in
theorem whole_open {p : Program} {e : Env} {s : State} {m : MethodId} {below : List Frame} {meth : Method} {c : Code} (l : Launch) {b Ln : Nat} {xs : Nat → Int32} (hL : Ln ≤ 1538) (C0 : lw_At p s m meth c b Ln xs)
    (hpure : ∀ np nd : Nat, 16 ≤ np → np ≤ 256 → 16 ≤ nd → nd ≤ 256 → ∃ Rl : mx_S → mx_S → Prop, lw_Sim np nd Rl ∧ Rl mx_0 (mx_sf (mx_sf mx_0 0 1 (nI np)) 0 2 (nI nd))) :
    W p l e room_1 s m #[Value.ref b] below meth c s.heap [] 0 0 (lw_Z below #[Value.ref b] s) (entryFrame m ([Value.ref b] : List Value).toArray 4) := by
  obtain ⟨hx, hb, hr, hml, hown, hts, hX, hbl, hlk, -⟩ := C0
  have hutbl : ∀ (C : String) (T : u_T) (N : Nat), (∀ w ∈ u_ws C T N, w ∈ vw_T) → ∀ w ∈ u_ws C T N, w ∈ lw_tbl := fun C T N h w hw => vw_T_in w (h w hw)
  have ul0 := hutbl _ _ _ ui_0
  have ul1 := hutbl _ _ _ ui_1
  have ul2 := hutbl _ _ _ ui_2
  have ul3 := hutbl _ _ _ ui_3
  obtain ⟨c0, i0, k0⟩ := u_known hts ul0 (hts _ wx_0)
  obtain ⟨c1, i1, k1⟩ := u_known hts ul1 (hts _ wx_1)
  obtain ⟨c2, i2, k2⟩ := u_known hts ul2 (hts _ wx_2)
  obtain ⟨c3, i3, k3⟩ := u_known hts ul3 (hts _ wx_3)
  obtain ⟨cA, kA, comp, f1, f2, f3⟩ := Cond.arrayClass_spec (hts _ wx_4)
  obtain ⟨D, hD0, hD1, hD2, hD3⟩ : ∃ D : va_G, (D.1 0 = c0 ∧ D.2 0 = i0) ∧ (D.1 1 = c1 ∧ D.2 1 = i1) ∧ (D.1 2 = c2 ∧ D.2 2 = i2) ∧ (D.1 3 = c3 ∧ D.2 3 = i3) :=
    ⟨(fun k => match k with | 0 => c0 | 1 => c1 | 2 => c2 | _ => c3, fun k => match k with | 0 => i0 | 1 => i1 | 2 => i2 | _ => i3), ⟨rfl, rfl⟩, ⟨rfl, rfl⟩, ⟨rfl, rfl⟩, ⟨rfl, rfl⟩⟩
  have hK : va_K D vw_cl [(cA, .int)] s := by
    refine ⟨fun k q hq => ?_, fun k q hq => ?_⟩
    · match k, hq with
      | 0, hq => cases hq; rw [hD0.1, hD0.2]; exact k0
      | 1, hq => cases hq; rw [hD1.1, hD1.2]; exact k1
      | 2, hq => cases hq; rw [hD2.1, hD2.2]; exact k2
      | 3, hq => cases hq; rw [hD3.1, hD3.2]; exact k3
      | k + 4, hq => cases hq
    · match k, hq with
      | 0, hq =>
        cases hq
        exact ⟨fun N z => ⟨(fun k h => by cases h), kA, f2, comp, f3⟩, f1⟩
      | k + 1, hq => cases hq
  obtain ⟨A, hAdef⟩ : ∃ A : Nat → Prop, A = fun q => s.heap.size ≤ q := ⟨_, rfl⟩
  have hA : ∀ q : Nat, s.heap.size ≤ q → A q := fun q h => by rw [hAdef]; exact h
  have hA2 : ∀ q : Nat, A q → s.heap.size ≤ q := fun q h => by rw [hAdef] at h; exact h
  have hbA : ¬ A b := fun h => absurd (hA2 b h) (Nat.not_le.mpr hbl)
  have hS : va_S A s.heap s.heap [] := va_S.rf
  have hP : va_P D vw_cl [] s.heap := fun k q h => by cases h
  have hD : va_D A [] := ⟨fun i j x y h => (by cases h), fun k q h => by cases h⟩
  have hGc : GoodIn lw_tbl [.code y_cell b_cell 2 (some .int)] := fun w hw => by
    rw [List.mem_singleton.mp hw]
    exact ⟨wx_5, Or.inl rfl⟩
  have hl := lv_entry ([.ref b]) (n := 4) (Nat.le_of_ble_eq_true rfl)
  rw [lg_entry_eq]
  generalize (lg_sl ([.ref b]) ++ List.replicate (4 - (lg_sl ([.ref b])).length) Slot.unset).toArray = ls at hl ⊢
  have hl : lv_has ls 4 [(0, .ref b)] := hl
  refine va_new (ci := 0) (fs := [.null, .null, .null, .null, .null, .int 0, .int 0, .int 0, .int 0, .int 0, .int 0, .int 0]) (C := "WideMachine") (T := ff_0) (N := 12) hx hb hts ul0 ft_0 fo_0 hown (hts _ wx_6) (hts _ wx_0) (hts _ wx_7) hK hP hD hS hA rfl (fun j hj => by revert hj; revert j; decide) (Nat.le_of_ble_eq_true rfl) (Nat.le_of_ble_eq_true rfl) (show decode code 0 = .ok (.new 7, 3) by decide +kernel) (fun q0 H hP hD hS => ?_)
  have hP : va_P D vw_cl [(q0, .inr (0, [.null, .null, .null, .null, .null, .int 0, .int 0, .int 0, .int 0, .int 0, .int 0, .int 0]))] H := hP
  have hD : va_D A [(q0, .inr (0, [.null, .null, .null, .null, .null, .int 0, .int 0, .int 0, .int 0, .int 0, .int 0, .int 0]))] := hD
  refine lv_dup hx hb (show decode code 3 = .ok (.dup, 1) by decide +kernel) rfl ?_
  refine lv_aload_n hx hb (show decode code 4 = .ok (.aload_n 0, 1) by decide +kernel) rfl (lv_at hl 0 rfl) ?_
  refine lv_iconst (v := 0) hx hb (show decode code 5 = .ok (.iconst 0, 1) by decide +kernel) (by decide) ?_
  refine vp_callSi (W.runS (As := [.ref b, .int 0]) (rest := [.ref q0, .ref q0]) ⟨hx, hb, hml, hown, hts⟩ (c_cell l b Ln xs 0 (by decide) hL) ⟨callB_of 2 hts hGc rfl rfl rfl (hts _ wx_8) (hts _ wx_9) ⟨by decide +kernel, by decide +kernel, by decide +kernel⟩ ⟨Nat.le_of_ble_eq_true rfl, Nat.le_of_ble_eq_true rfl⟩, hts _ wx_10⟩ ⟨fun a U g mk q => ⟨q.1, va_X.moved (u := U) (U := U.calling g mk a) (Vm.Alike.refl U.vm) q.2⟩, fun U hU hW => ⟨rfl, by show va_X b Ln xs U U.heap; rw [hU]; exact (hX.kept (hS.2.1 b hbl hbA)).moved hW.alike⟩⟩ rfl rfl hl.1 rfl (lv_room (Nat.le_of_ble_eq_true rfl)) (show decode code 6 = .ok (.invokestatic 9, 3) by decide +kernel) ⟨Nat.le_of_ble_eq_true rfl, Nat.le_of_ble_eq_true rfl⟩) (fun r6 e6 => ?_)
  subst e6
  refine lv_aload_n hx hb (show decode code 9 = .ok (.aload_n 0, 1) by decide +kernel) rfl (lv_at hl 0 rfl) ?_
  refine lv_iconst (v := 1) hx hb (show decode code 10 = .ok (.iconst 1, 1) by decide +kernel) (by decide) ?_
  refine vp_callSi (W.runS (As := [.ref b, .int 1]) (rest := [.int (ml_cell Ln xs 0), .ref q0, .ref q0]) ⟨hx, hb, hml, hown, hts⟩ (c_cell l b Ln xs 1 (by decide) hL) ⟨callB_of 2 hts hGc rfl rfl rfl (hts _ wx_8) (hts _ wx_9) ⟨by decide +kernel, by decide +kernel, by decide +kernel⟩ ⟨Nat.le_of_ble_eq_true rfl, Nat.le_of_ble_eq_true rfl⟩, hts _ wx_10⟩ ⟨fun a U g mk q => ⟨q.1, va_X.moved (u := U) (U := U.calling g mk a) (Vm.Alike.refl U.vm) q.2⟩, fun U hU hW => ⟨rfl, by show va_X b Ln xs U U.heap; rw [hU]; exact (hX.kept (hS.2.1 b hbl hbA)).moved hW.alike⟩⟩ rfl rfl hl.1 rfl (lv_room (Nat.le_of_ble_eq_true rfl)) (show decode code 11 = .ok (.invokestatic 9, 3) by decide +kernel) ⟨Nat.le_of_ble_eq_true rfl, Nat.le_of_ble_eq_true rfl⟩) (fun r11 e11 => ?_)
  subst e11
  obtain ⟨a1, ha1⟩ : ∃ z, z = ml_cell Ln xs 0 := ⟨_, rfl⟩
  obtain ⟨a2, ha2⟩ : ∃ z, z = ml_cell Ln xs 1 := ⟨_, rfl⟩
  rw [← ha1, ← ha2]
  have hFc := va_free (wc := [(q0, .inr (0, [.null, .null, .null, .null, .null, .int 0, .int 0, .int 0, .int 0, .int 0, .int 0, .int 0]))]) hD hS hA [0] rfl
  have hN25 : va_Nw (.methodLinkNest "WideMachine" 25 y_xq_init "WideMachine") s := va_Nw.of rfl (hts _ wx_11)
  have hN32 : va_Nw (.methodLinkNest "WideMachine" 32 y_xb_init "WideMachine") s := va_Nw.of rfl (hts _ wx_12)
  refine va_callv (va_runI (As := [.int a1, .int a2]) (rest := [.ref q0]) ⟨hx, hb, hml, hown, hts⟩ (ci_xm_init l D cA q0 H.size a1 a2) (cwI 2 hts (ml_tblX wx_13) rfl rfl rfl (hts _ wx_7) (hts _ wx_14) (hts _ wx_15) rfl ⟨by decide +kernel, by decide +kernel, by decide +kernel⟩ ⟨Nat.le_of_ble_eq_true rfl, Nat.le_of_ble_eq_true rfl⟩) ⟨fun a U g mk q => by obtain ⟨q0, q1, qP, qK, qD, qN, qM⟩ := q; exact ⟨q0, q1, qP, va_K.moved (u := U) (U := U.calling g mk a) (Vm.Alike.refl U.vm) qK, qD, va_Nw.same (u := U) (U := U.calling g mk a) rfl rfl qN, va_Nw.same (u := U) (U := U.calling g mk a) rfl rfl qM⟩, fun U hU hW => ⟨rfl, by rw [hU], by rw [hU]; exact hP, va_K.moved hW.alike hK, hD.weaken (fun _ _ _ _ => trivial), va_Nw.warmM hW hN25, va_Nw.warmM hW hN32⟩⟩ rfl rfl hl.1 rfl (lv_room (Nat.le_of_ble_eq_true rfl)) (show decode code 14 = .ok (.invokespecial 15, 3) by decide +kernel) ⟨Nat.le_of_ble_eq_true rfl, Nat.le_of_ble_eq_true rfl⟩) hS (fun q _ h => hFc q h) hFc (fun u t H1 locs ht hvm hpost hB hz1 hk1 hS => ?_)
  obtain ⟨ad1, n1, n2⟩ := u
  obtain ⟨g0, g1, g2⟩ := hpost
  obtain ⟨hP1, hDa⟩ := hB
  rw [ht] at hP1
  dsimp only at g0 g1 g2 hP1 hDa
  have hD1' : va_D A (mx_w ad1 cA mx_0 0 (kx n1 n2)) := hDa.weaken (fun _ q _ h => hFc q.1 h)
  generalize H1 = H at hP1 hS ⊢
  clear hP hD hDa hFc hk1 hz1 ht
  subst g0
  refine lv_astore_n (lv' := [(1, .ref (ad1 0)), (0, .ref b)]) hx hb (show decode code 17 = .ok (.astore_n 1, 1) by decide +kernel) rfl hl (by decide) rfl (fun ls hl => ?_)
  refine va_new (ci := 3) (fs := [.int 0, .int 0, .int 0, .null, .null, .null, .int 0, .int 0, .int 0, .int 0, .int 0, .int 0, .int 0, .int 0, .null, .null, .null, .int 0, .null, .null, .int 0, .null, .null]) (C := "WideMachineModel") (T := ff_3) (N := 23) hx hb hts ul3 ft_3 fo_3 hown (hts _ wx_16) (hts _ wx_3) (hts _ wx_17) hK hP1 hD1' hS hA rfl (fun j hj => by revert hj; revert j; decide) (Nat.le_of_ble_eq_true rfl) (Nat.le_of_ble_eq_true rfl) (show decode code 18 = .ok (.new 18, 3) by decide +kernel) (fun q1 H hP hD hS => ?_)
  refine lv_dup hx hb (show decode code 21 = .ok (.dup, 1) by decide +kernel) rfl ?_
  refine lv_aload_n hx hb (show decode code 22 = .ok (.aload_n 0, 1) by decide +kernel) rfl (lv_at hl 1 rfl) ?_
  refine lv_iconst (v := 0) hx hb (show decode code 23 = .ok (.iconst 0, 1) by decide +kernel) (by decide) ?_
  refine vp_callSi (W.runS (As := [.ref b, .int 0]) (rest := [.ref q1, .ref q1]) ⟨hx, hb, hml, hown, hts⟩ (c_cell l b Ln xs 0 (by decide) hL) ⟨callB_of 2 hts hGc rfl rfl rfl (hts _ wx_8) (hts _ wx_9) ⟨by decide +kernel, by decide +kernel, by decide +kernel⟩ ⟨Nat.le_of_ble_eq_true rfl, Nat.le_of_ble_eq_true rfl⟩, hts _ wx_10⟩ ⟨fun a U g mk q => ⟨q.1, va_X.moved (u := U) (U := U.calling g mk a) (Vm.Alike.refl U.vm) q.2⟩, fun U hU hW => ⟨rfl, by show va_X b Ln xs U U.heap; rw [hU]; exact (hX.kept (hS.2.1 b hbl hbA)).moved hW.alike⟩⟩ rfl rfl hl.1 rfl (lv_room (Nat.le_of_ble_eq_true rfl)) (show decode code 24 = .ok (.invokestatic 9, 3) by decide +kernel) ⟨Nat.le_of_ble_eq_true rfl, Nat.le_of_ble_eq_true rfl⟩) (fun r24 e24 => ?_)
  subst e24
  refine lv_aload_n hx hb (show decode code 27 = .ok (.aload_n 0, 1) by decide +kernel) rfl (lv_at hl 1 rfl) ?_
  refine lv_iconst (v := 1) hx hb (show decode code 28 = .ok (.iconst 1, 1) by decide +kernel) (by decide) ?_
  refine vp_callSi (W.runS (As := [.ref b, .int 1]) (rest := [.int (ml_cell Ln xs 0), .ref q1, .ref q1]) ⟨hx, hb, hml, hown, hts⟩ (c_cell l b Ln xs 1 (by decide) hL) ⟨callB_of 2 hts hGc rfl rfl rfl (hts _ wx_8) (hts _ wx_9) ⟨by decide +kernel, by decide +kernel, by decide +kernel⟩ ⟨Nat.le_of_ble_eq_true rfl, Nat.le_of_ble_eq_true rfl⟩, hts _ wx_10⟩ ⟨fun a U g mk q => ⟨q.1, va_X.moved (u := U) (U := U.calling g mk a) (Vm.Alike.refl U.vm) q.2⟩, fun U hU hW => ⟨rfl, by show va_X b Ln xs U U.heap; rw [hU]; exact (hX.kept (hS.2.1 b hbl hbA)).moved hW.alike⟩⟩ rfl rfl hl.1 rfl (lv_room (Nat.le_of_ble_eq_true rfl)) (show decode code 29 = .ok (.invokestatic 9, 3) by decide +kernel) ⟨Nat.le_of_ble_eq_true rfl, Nat.le_of_ble_eq_true rfl⟩) (fun r29 e29 => ?_)
  subst e29
  rw [← ha1, ← ha2]
  have hPc : va_P D vw_cl [(q1, .inr (3, [.int 0, .int 0, .int 0, .null, .null, .null, .int 0, .int 0, .int 0, .int 0, .int 0, .int 0, .int 0, .int 0, .null, .null, .null, .int 0, .null, .null, .int 0, .null, .null]))] H := ml_sub2 hP
  have hDc : va_D A [(q1, .inr (3, [.int 0, .int 0, .int 0, .null, .null, .null, .int 0, .int 0, .int 0, .int 0, .int 0, .int 0, .int 0, .int 0, .null, .null, .null, .int 0, .null, .null, .int 0, .null, .null]))] := ml_dsub2 hD
  have hFc := va_free (wc := [(q1, .inr (3, [.int 0, .int 0, .int 0, .null, .null, .null, .int 0, .int 0, .int 0, .int 0, .int 0, .int 0, .int 0, .int 0, .null, .null, .null, .int 0, .null, .null, .int 0, .null, .null]))]) hDc hS hA [0] rfl
  refine va_callv (va_runI (As := [.int a1, .int a2]) (rest := [.ref q1]) ⟨hx, hb, hml, hown, hts⟩ (ci_mm_init l D cA q1 H.size a1 a2) (cwI 2 hts (ml_tblX wx_18) rfl rfl rfl (hts _ wx_17) (hts _ wx_19) (hts _ wx_20) rfl ⟨by decide +kernel, by decide +kernel, by decide +kernel⟩ ⟨Nat.le_of_ble_eq_true rfl, Nat.le_of_ble_eq_true rfl⟩) ⟨fun a U g mk q => by obtain ⟨q0, q1, qP, qK, qD⟩ := q; exact ⟨q0, q1, qP, va_K.moved (u := U) (U := U.calling g mk a) (Vm.Alike.refl U.vm) qK, qD⟩, fun U hU hW => ⟨rfl, by rw [hU], by rw [hU]; exact hPc, va_K.moved hW.alike hK, hDc.weaken (fun _ _ _ _ => trivial)⟩⟩ rfl rfl hl.1 rfl (lv_room (Nat.le_of_ble_eq_true rfl)) (show decode code 32 = .ok (.invokespecial 20, 3) by decide +kernel) ⟨Nat.le_of_ble_eq_true rfl, Nat.le_of_ble_eq_true rfl⟩) hS (fun q _ h => hFc q h) hFc (fun u t H1 locs ht hvm hpost hB hz1 hk1 hS => ?_)
  obtain ⟨ad2, w1, w2⟩ := u
  obtain ⟨e0, e1, e2⟩ := hpost
  obtain ⟨hP2, hDb⟩ := hB
  rw [ht] at hP2
  dsimp only at e0 e1 e2 hP2 hDb
  obtain ⟨m1, m2, m3⟩ := ml_isn g1
  obtain ⟨m4, m5, m6⟩ := ml_isn g2
  rw [e1, e2, m3, m6] at hP2 hDb
  have hP1k : va_P D vw_cl (mx_w ad1 cA mx_0 0 (kx n1 n2)) H1 := by
    refine ml_kept (ml_sub1 hP) hk1 (fun k q hq hF => ?_)
    rcases hF with ⟨j, ej, hj⟩ | h
    · match j, hj with
      | 0, hj =>
        cases hj
        exact ml_apart hD hq (j := 0) rfl rfl
      | j + 1, hj => cases hj
    · have := ((ml_sub1 hP) k q hq).lt
      omega
  have hapart : ∀ (i j : Nat) (x y : Nat × va_E), (mx_w ad1 cA mx_0 0 (kx n1 n2))[i]? = some x → (mx_w ad2 cA (mx_sf (mx_sf mx_0 0 1 (nI n1)) 0 2 (nI n2)) 0 km)[j]? = some y → x.1 ≠ y.1 := by
    intro i j x y hi hj exy
    have hlt := ((ml_sub1 hP) i x hi).lt
    rcases hDb.2 j y hj with ⟨k, ek, hk⟩ | h
    · match k, hk with
      | 0, hk =>
        have hk' : (q1, Sum.inr (3, [.int 0, .int 0, .int 0, .null, .null, .null, .int 0, .int 0, .int 0, .int 0, .int 0, .int 0, .int 0, .int 0, .null, .null, .null, .int 0, .null, .null, .int 0, .null, .null])) = (y.1, ek) := Option.some.inj hk
        exact ml_apart hD hi (j := 0) (y := (q1, Sum.inr (3, [.int 0, .int 0, .int 0, .null, .null, .null, .int 0, .int 0, .int 0, .int 0, .int 0, .int 0, .int 0, .int 0, .null, .null, .null, .int 0, .null, .null, .int 0, .null, .null]))) rfl (exy.trans (congrArg Prod.fst hk').symm)
      | k + 1, hk => cases hk
    · omega
  have hDD : va_D A (mx_w ad1 cA mx_0 0 (kx n1 n2) ++ mx_w ad2 cA (mx_sf (mx_sf mx_0 0 1 (nI n1)) 0 2 (nI n2)) 0 km) := (ml_dsub1 hD).app (hDb.weaken (fun _ q _ h => hFc q.1 h)) hapart
  have hPP : va_P D vw_cl (mx_w ad1 cA mx_0 0 (kx n1 n2) ++ mx_w ad2 cA (mx_sf (mx_sf mx_0 0 1 (nI n1)) 0 2 (nI n2)) 0 km) H1 := hP1k.app hP2
  generalize H1 = H at hPP hS ⊢
  obtain ⟨ad, had1, had2, hadb⟩ : ∃ ad : Nat → Nat, (∀ k, k < 11 → ad k = ad1 k) ∧ (∀ k, k < 11 → ad (k + 11) = ad2 k) ∧ ad 22 = b := by
    refine ⟨fun k => if k < 11 then ad1 k else if k < 22 then ad2 (k - 11) else b, fun k hk => if_pos hk, fun k hk => ?_, rfl⟩
    show (if k + 11 < 11 then _ else _) = _
    rw [if_neg (by omega), if_pos (by omega), Nat.add_sub_cancel]
  have ew : mx_w ad1 cA mx_0 0 (kx n1 n2) ++ mx_w ad2 cA (mx_sf (mx_sf mx_0 0 1 (nI n1)) 0 2 (nI n2)) 0 km = ml_wd n1 n2 ad cA (mx_0, mx_sf (mx_sf mx_0 0 1 (nI n1)) 0 2 (nI n2)) := by
    unfold ml_wd
    rw [ml_wcongr ad1 ad cA mx_0 (kx n1 n2) (fun k hk => (had1 k hk).symm) rfl rfl, ml_wcongr ad2 (fun k => ad (k + 11)) cA _ km (fun k hk => (had2 k hk).symm) rfl rfl]
  rw [ew] at hPP hDD
  obtain ⟨Rl, hSim, hR⟩ := hpure n1 n2 m1 m2 m4 m5
  refine lv_astore_n (lv' := [(2, .ref (ad2 0)), (1, .ref (ad1 0)), (0, .ref b)]) hx hb (show decode code 35 = .ok (.astore_n 2, 1) by decide +kernel) rfl hl (by decide) (by rw [e0]; rfl) (fun ls hl => ?_)
  refine lv_iconst (v := nI 2) hx hb (show decode code 36 = .ok (.iconst 2, 1) by decide +kernel) (by decide) ?_
  refine lv_istore_n (lv' := [(3, .int (nI 2)), (2, .ref (ad2 0)), (1, .ref (ad1 0)), (0, .ref b)]) hx hb (show decode code 37 = .ok (.istore_n 3, 1) by decide +kernel) rfl hl (by decide) rfl (fun ls hl => ?_)
  have hge : ∀ k, k < 22 → s.heap.size ≤ ad k := by
    intro k hk
    by_cases h11 : k < 11
    · rw [had1 k h11]
      obtain ⟨z, hz⟩ := ml_inA (ad := ad1) (cA := cA) (u := mx_0) (sk := kx n1 n2) (k := k) h11
      exact hA2 _ ((ml_dsub1 hD).2 k _ hz)
    · have h12 : k - 11 < 11 := by omega
      have e9 : ad k = ad2 (k - 11) := by
        have := had2 (k - 11) h12
        rwa [Nat.sub_add_cancel (by omega)] at this
      rw [e9]
      obtain ⟨z, hz⟩ := ml_inA (ad := ad2) (cA := cA) (u := mx_sf (mx_sf mx_0 0 1 (nI n1)) 0 2 (nI n2)) (sk := km) (k := k - 11) h12
      exact hA2 _ (hFc _ (hDb.2 (k - 11) _ hz))
  refine W.widen (k := 22) (n := 2035) (Nat.le_of_ble_eq_true rfl) (Nat.le_of_ble_eq_true rfl) ?_
  have hG : ml_G Ln xs s ad := ⟨by rw [hadb]; exact hX, by rw [hadb]; exact hbl, hge⟩
  have hCx : mx_Cx (ml_G Ln xs) room_1 22 2035 code 4 "WideMachineLaw" (some .boolean) (vw_L ++ vw_T) vw_cl p s m #[Value.ref b] meth c D cA ad := ⟨hx, hb, hml, hown, fun w hw => hts w ((List.mem_append.mp hw).elim (vw_L_in w) (vw_T_in w)), hK, ⟨Nat.le_of_ble_eq_true rfl, Nat.le_of_ble_eq_true rfl⟩, hG⟩
  have hE : mx_EndG (ml_wd n1 n2) 22 l room_1 22 2035 code (some .boolean) vw_cl p e s m #[Value.ref b] below meth c D cA ad (lw_Z below #[Value.ref b] s) (fun v _ => v = some (.inl 1)) := by
    intro pc v u ls H locs hk hv hP hS
    subst hv
    rcases hk with ⟨hdg, x, hxv, -⟩ | ⟨-, hn, -⟩
    · refine va_forget (fun q hq => ?_) ?_
      · rcases hS.2.2 q hq with ⟨k, hk, ek⟩ | h
        · rw [ek]; exact hge k hk
        · exact h
      · exact W.widen (k := 600000) (n := 7302250) (Nat.le_of_ble_eq_true rfl) (Nat.le_of_ble_eq_true rfl) (lw_ret hx hb hr hlk hdg)
    · cases hn
  have key := mx_run (ok_law l n1 n2 Ln xs) hCx hE (ml_loop n1 n2 Ln xs hL Rl hSim mx_0 _ hR)
  refine key ls H locs ?_ hPP (hDD.weaken (fun _ q _ h => Or.inr (hA2 _ h))) (ml_Xmono (fun q h => Or.inr (hA2 q h)) hS)
  refine lv_sub hl [0, 3, 2, 1] ?_
  show [(3, Value.int (nI 2)), (0, .ref b), (1, .ref (ad1 0)), (2, .ref (ad2 0))] = [(3, .int (nI 2)), (0, .ref (ad 22)), (1, .ref (ad 0)), (2, .ref (ad 11))]
  rw [hadb, had1 0 (by decide), had2 0 (by decide)]
