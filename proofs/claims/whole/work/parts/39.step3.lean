/-! the packet's step keeps pk_I -/
theorem pk_step {np nd k n e : Nat} {x0 x m : mx_S} {v : Int32} (hI : pk_I np nd k n x0 x m v) (hn : n < 8) (hlt : k + n < e) (he : e ≤ np) (hil : ¬ pr_ill (x0.2 1 (k + n))) (hbey : ¬ pr_bey nd (x0.2 1 (k + n)) x0) (hk1 : pr_kc x0 k 1 (n + 1) ≤ 2) :
    ∃ x' m' v', pk_I np nd k (n + 1) x0 x' m' v' ∧ (∀ f, px_to np nd e (k + n) f x x') ∧ (∀ f, pm_to e (k + n) f v v' m m') := by
  obtain ⟨⟨hSz, hfr, ⟨hA1, hA2, hA3⟩, x6, m7, hsc, hFl, hv⟩, hW, hB, hS⟩ := hI
  obtain ⟨z1, z2, z3, z4, z5, z6⟩ := hSz
  have hnp : np ≤ 256 := z2
  have hwx : x.2 1 (k + n) = x0.2 1 (k + n) := hfr 1 (by omega) _
  have hwm : m.2 1 (k + n) = x0.2 1 (k + n) := (hA1 _ (by omega)).symm.trans hwx
  have h03 : ∀ i, i < 32 → x0.2 3 i = m.2 3 i := fun i hi => (hfr 3 (by omega) i).symm.trans (hA3 i hi)
  generalize hwd : x0.2 1 (k + n) = w at hwx hwm hil hbey
  have hc5 := pr_ill_c hil
  have ho := pr_ill_o hil
  have k0 := pr_flt w 5 2
  have dx : pr_done w x ↔ pr_done w m := pr_done_eq w hA3
  have d0 : pr_done w x0 ↔ pr_done w m := pr_done_eq w h03
  have hv01 : v = 0 ∨ v = 1 := hv.elim (fun q => Or.inl q.1) (fun q => Or.inr q.1)
  have PX := fun f => px_step (nd := nd) hwx (show k + n < np by omega) hnp hlt he hc5 f
  have PM := fun f => pm_step hwm hlt (show e ≤ 256 by omega) hc5 hv01 f
  have eS := pf_second w x m hA3
  by_cases g : pr_done w m
  · have gx := dx.mpr g
    have g0 := d0.mpr g
    by_cases hct : pr_f w 5 2 = 1 ∧ 7 ≤ pr_f w 8 4
    · obtain ⟨hk, h7⟩ := hct
      have h11 : pr_f w 8 4 ≤ 11 := by rw [hk] at ho; exact ho
      have hno : ¬ (pr_isSt (x0.2 1 (k + n)) ∧ pr_done (x0.2 1 (k + n)) x0) := fun q => by have := q.1.1; rw [hwd] at this; omega
      have eo : mm_operation w = nI (pr_f w 8 4) := pf_op w
      by_cases h9 : pr_f w 8 4 ≤ 9
      · -- a branch
        obtain ⟨b, c1, c2, c3, c4⟩ := pk_B_add (k := k) (n := n) hB (if pr_f w 8 4 = 7 then xw_target w else if pr_f w 8 4 = 8 then mm_second w m else m.1 0 10) (if pr_f w 8 4 = 9 then 1 else m.1 0 11) (by rw [hwd]; exact hk) hk1
        obtain ⟨e1, q1⟩ := pw_br np nd hk rfl h7 h9 c1 c3
        have hl : m.1 0 11 = 0 ∨ m.1 0 11 = 1 := by rw [← hsc.2.2.2.2]; exact hFl.1
        obtain ⟨e2, q2⟩ := pa_mc eo h7 h9 c2 c3 hl
        rw [eS, hsc.2.2.1] at e1
        refine ⟨xm_doWord np nd w x, mm_controls w m, if pr_f w 8 4 = 11 then 1 else v, ?_, fun f => (PX f).2 gx q1, fun f => (PM f).2.1 g hk h7 h11 q2⟩
        rw [e2, e1, if_neg (show ¬ pr_f w 8 4 = 11 by omega)]
        generalize (if pr_f w 8 4 = 7 then xw_target w else if pr_f w 8 4 = 8 then mm_second w m else m.1 0 10) = tg at c4 ⊢
        by_cases g9 : pr_f w 8 4 = 9
        · rw [if_pos g9] at c4 ⊢
          rw [if_pos g9]
          exact ⟨⟨⟨z1, z2, z3, z4, z5, z6⟩, pk_fr hfr (fun _ => rfl) (fun _ => rfl) (fun _ => rfl), ⟨hA1, hA2, hA3⟩, x6, m7, ⟨hsc.1, hsc.2.1, hsc.2.2.1, hsc.2.2.2.1, rfl⟩, ⟨Or.inr rfl, hFl.2⟩, hv⟩, pk_W_mv (pk_W_no hW) rfl rfl rfl (fun _ => ⟨rfl, rfl, rfl⟩) (fun _ => ⟨rfl, rfl, rfl⟩), pk_B_mv c4 rfl rfl rfl (fun _ => ⟨rfl, rfl⟩) (fun _ => ⟨rfl, rfl⟩), pk_S_mv (pk_S_no hno hS) rfl (fun _ => rfl) (fun _ => ⟨rfl, rfl⟩)⟩
        · rw [if_neg g9] at c4 ⊢
          rw [if_neg g9]
          exact ⟨⟨⟨z1, z2, z3, z4, z5, z6⟩, pk_fr hfr (fun _ => rfl) (fun _ => rfl) (fun _ => rfl), ⟨hA1, hA2, hA3⟩, x6, m7, ⟨hsc.1, hsc.2.1, hsc.2.2.1, hsc.2.2.2.1, hsc.2.2.2.2⟩, hFl, hv⟩, pk_W_mv (pk_W_no hW) rfl rfl rfl (fun _ => ⟨rfl, rfl, rfl⟩) (fun _ => ⟨rfl, rfl, rfl⟩), c4, pk_S_mv (pk_S_no hno hS) rfl (fun _ => rfl) (fun _ => ⟨rfl, rfl⟩)⟩
      · by_cases h10 : pr_f w 8 4 = 10
        · -- WAIT
          obtain ⟨e1, q1⟩ := pw_wait np nd hk h10 (x := x)
          obtain ⟨e2, q2⟩ := pa_wait (m := m) (w := w) (by rw [eo, h10])
          have ew : mx_gf x 0 8 = mx_gf m 0 9 := hsc.2.1
          rw [eS, ew] at e1
          refine ⟨xm_doWord np nd w x, mm_controls w m, if pr_f w 8 4 = 11 then 1 else v, ?_, fun f => (PX f).2 gx q1, fun f => (PM f).2.1 g hk h7 h11 q2⟩
          rw [e2, e1, if_neg (show ¬ pr_f w 8 4 = 11 by omega)]
          exact ⟨⟨⟨z1, z2, z3, z4, z5, z6⟩, hfr, ⟨hA1, hA2, hA3⟩, x6, m7, ⟨hsc.1, rfl, hsc.2.2.1, hsc.2.2.2.1, hsc.2.2.2.2⟩, hFl, hv⟩, pk_W_mv (pk_W_no hW) rfl rfl rfl (fun _ => ⟨rfl, rfl, rfl⟩) (fun _ => ⟨rfl, rfl, rfl⟩), pk_B_mv (pk_B_no hB) rfl rfl rfl (fun _ => ⟨rfl, rfl⟩) (fun _ => ⟨rfl, rfl⟩), pk_S_mv (pk_S_no hno hS) rfl (fun _ => rfl) (fun _ => ⟨rfl, rfl⟩)⟩
        · -- HALT
          have h11' : pr_f w 8 4 = 11 := by omega
          obtain ⟨e1, q1⟩ := pw_halt np nd hk h11' (x := x)
          obtain ⟨e2, q2⟩ := pa_halt (m := m) (w := w) (by rw [eo, h11'])
          refine ⟨xm_doWord np nd w x, mm_controls w m, if pr_f w 8 4 = 11 then 1 else v, ?_, fun f => (PX f).2 gx q1, fun f => (PM f).2.1 g hk h7 h11 q2⟩
          rw [e2, e1, if_pos h11']
          exact ⟨⟨⟨z1, z2, z3, z4, z5, z6⟩, hfr, ⟨hA1, hA2, hA3⟩, x6, m7, hsc, hFl, Or.inr ⟨rfl, rfl⟩⟩, pk_W_mv (pk_W_no hW) rfl rfl rfl (fun _ => ⟨rfl, rfl, rfl⟩) (fun _ => ⟨rfl, rfl, rfl⟩), pk_B_mv (pk_B_no hB) rfl rfl rfl (fun _ => ⟨rfl, rfl⟩) (fun _ => ⟨rfl, rfl⟩), pk_S_no hno hS⟩
    · have hct' : ¬ (pr_f w 5 2 = 1 ∧ 7 ≤ pr_f w 8 4 ∧ pr_f w 8 4 ≤ 11) := fun q => hct ⟨q.1, q.2.1⟩
      have ed : xw_d w = nI (pr_f w 12 5) := pf_d w
      have ed2 : mm_d w = nI (pr_f w 12 5) := pf_d w
      have dd := pr_flt w 12 5
      by_cases hk3 : pr_f w 5 2 = 3 ∧ 2 ≤ pr_f w 8 4
      · have ho3 : pr_f w 8 4 ≤ 3 := by rw [hk3.1] at ho; exact ho
        have hout0 : ¬ pr_out nd (xm_dataAddress w x0) := fun q => hbey ⟨⟨hk3.1, by omega⟩, g0, q⟩
        have eda : xm_dataAddress w x = xm_dataAddress w x0 := (pr_da w hA3).trans (pr_da w h03).symm
        have eo : mm_operation w = nI (pr_f w 8 4) := pf_op w
        by_cases h2 : pr_f w 8 4 = 2
        · -- LOAD
          obtain ⟨j, hj, ej, ev, qv⟩ := pv_load (np := np) z4 hA2 hA3 ⟨hk3.1, h2⟩ (by rw [eda]; exact hout0)
          obtain ⟨wn, c1, c2, c3, c4⟩ := pk_W_add (k := k) (n := n) hW hn (d := pr_f w 12 5) (T := 5) (mx_ga m 2 j) dd (Or.inr (Or.inr ⟨rfl, by rw [hwd]; exact hk3.1⟩))
          have hnst : ¬ pr_isSt w := fun q => by have := q.2; omega
          obtain ⟨e1, q1⟩ := pw_write np nd hct' hnst qv c1 c3
          have et : xw_timeOfWrite w = nI 5 := by rw [pv_time, if_pos ⟨hk3.1, h2⟩]; rfl
          rw [ed, ev, et] at e1
          obtain ⟨e2, q2⟩ := pa_mwrite c2 c3 (mm_d w) (mx_ga m 2 j) 5
          have y2 : mm_operation w = 2 := by rw [eo, h2]; rfl
          have ejc : (nI j).toNatClampNeg = j := nI_clamp (by omega)
          have em : mm_meets w m = pa_mw m wn (nI (pr_f w 12 5)) (mx_ga m 2 j) (nI 5) := by
            rw [mm_meets_eq]
            unfold mm_meets_b
            rw [if_pos y2, ej, ejc, e2, ed2]
            rfl
          have qm : q_mm_meets w m := by
            unfold q_mm_meets
            rw [ej, ejc]
            exact ⟨fun q => absurd y2 q, fun _ => ⟨vp_in_nI (by omega) (by omega), q2⟩⟩
          have hno : ¬ (pr_isSt (x0.2 1 (k + n)) ∧ pr_done (x0.2 1 (k + n)) x0) := fun q => hnst (by have := q.1; rw [hwd] at this; exact this)
          refine ⟨xm_doWord np nd w x, mm_meets w m, v, ?_, fun f => (PX f).2 gx q1, fun f => (PM f).2.2.1 g hk3.1 hk3.2 qm⟩
          rw [em, e1]
          exact ⟨⟨⟨z1, z2, z3, z4, z5, z6⟩, pk_fr hfr (fun _ => rfl) (fun _ => rfl) (fun _ => rfl), ⟨hA1, hA2, hA3⟩, x6, m7, hsc, hFl, hv⟩, c4, pk_B_mv (pk_B_no hB) rfl rfl rfl (fun _ => ⟨rfl, rfl⟩) (fun _ => ⟨rfl, rfl⟩), pk_S_mv (pk_S_no hno hS) rfl (fun _ => rfl) (fun _ => ⟨rfl, rfl⟩)⟩
        · -- STORE
          have hst : pr_isSt w := ⟨hk3.1, by omega⟩
          have hin' : ¬ xm_dataAddress w x0 < 0 ∧ xm_dataAddress w x0 < nI nd := Classical.byContradiction (fun q => hout0 q)
          obtain ⟨j, hj, ej⟩ := pr_ix (by omega) hin'.1 hin'.2
          obtain ⟨s, c1, c2, c3⟩ := pk_S_add (k := k) (n := n) (by rw [hwd]; exact ⟨hst, g0⟩) hS hj z4 (by rw [hwd]; exact ej)
          rw [hwd] at c3
          obtain ⟨e1, q1⟩ := pw_store np nd hst (x := x)
          have n2 : ¬ mm_operation w = 2 := by
            rw [eo, show pr_f w 8 4 = 3 from hst.2]; decide
          have hg : mx_gf m 0 20 = nI s := c1
          have hgc : (nI s).toNatClampNeg = s := nI_clamp (by omega)
          have a0 := pr_flt w 17 5
          have ea2 : mm_a w = nI (pr_f w 17 5) := pf_a w
          have eadr : (mx_ga m 3 (mm_a w).toNatClampNeg + mm_second w m) = nI j := by
            rw [ea2, nI_clamp (by omega), ← ej, pr_da w h03]
            rfl
          have ereg : mx_ga m 3 (mm_d w).toNatClampNeg = x0.2 3 (pr_f w 12 5) := by
            rw [ed2, nI_clamp (by omega), h03 _ dd]
            rfl
          have em : mm_meets w m = pa_ms m s (nI j) (x0.2 3 (pr_f w 12 5)) := by
            rw [mm_meets_eq]
            unfold mm_meets_b
            rw [if_neg n2, eadr]
            show mx_sf (mx_sa (mx_sa m 9 (mx_gf m 0 20).toNatClampNeg (nI j)) 10 (mx_gf m 0 20).toNatClampNeg (mx_ga m 3 (mm_d w).toNatClampNeg)) 0 20 (mx_gf m 0 20 + 1) = _
            rw [hg, hgc, ereg, nI_1]
            rfl
          have hvin : vp_in (mx_gf m 0 20) 8 := by rw [hg]; exact vp_in_nI (by omega) (by omega)
          have qm : q_mm_meets w m := ⟨fun _ => ⟨hvin, hvin⟩, fun q => absurd q n2⟩
          refine ⟨xm_doWord np nd w x, mm_meets w m, v, ?_, fun f => (PX f).2 gx q1, fun f => (PM f).2.2.1 g hk3.1 hk3.2 qm⟩
          rw [em, e1]
          exact ⟨⟨⟨z1, z2, z3, z4, z5, z6⟩, hfr, ⟨hA1, hA2, hA3⟩, x6, m7, hsc, hFl, hv⟩, pk_W_mv (pk_W_no hW) rfl rfl rfl (fun _ => ⟨rfl, rfl, rfl⟩) (fun _ => ⟨rfl, rfl, rfl⟩), pk_B_mv (pk_B_no hB) rfl rfl rfl (fun _ => ⟨rfl, rfl⟩) (fun _ => ⟨rfl, rfl⟩), c3⟩
      · -- a write
        have hnst : ¬ pr_isSt w := fun q => hk3 ⟨q.1, by have := q.2; omega⟩
        obtain ⟨ev, qv, qw⟩ := pv_val (np := np) (nd := nd) hA3 hil hct hk3
        have et : xw_timeOfWrite w = nI (if pr_f w 5 2 = 2 then 2 else 1) := by
          rw [pv_time, if_neg (fun q => hk3 ⟨q.1, by omega⟩)]
          split <;> rfl
        have et2 : (if pr_f w 5 2 = 2 then (2 : Int32) else 1) = nI (if pr_f w 5 2 = 2 then 2 else 1) := by split <;> rfl
        obtain ⟨wn, c1, c2, c3, c4⟩ := pk_W_add (k := k) (n := n) hW hn (d := pr_f w 12 5) (T := if pr_f w 5 2 = 2 then 2 else 1) (mm_works w m) dd (by
          by_cases h2 : pr_f w 5 2 = 2
          · rw [if_pos h2, hwd]; exact Or.inr (Or.inl ⟨rfl, h2⟩)
          · rw [if_neg h2]; exact Or.inl rfl)
        obtain ⟨e1, q1⟩ := pw_write np nd hct' hnst qv c1 c3
        rw [ed, ev, et] at e1
        obtain ⟨e2, q2⟩ := pa_mwrite c2 c3 (mm_d w) (mm_works w m) (if pr_f w 5 2 = 2 then 2 else 1)
        have hno : ¬ (pr_isSt (x0.2 1 (k + n)) ∧ pr_done (x0.2 1 (k + n)) x0) := fun q => hnst (by have := q.1; rw [hwd] at this; exact this)
        refine ⟨xm_doWord np nd w x, mm_write (mm_d w) (mm_works w m) (if pr_f w 5 2 = 2 then 2 else 1) m, v, ?_, fun f => (PX f).2 gx q1, fun f => (PM f).2.2.2 g hct' hk3 qw q2⟩
        rw [e2, e1, ed2, et2]
        exact ⟨⟨⟨z1, z2, z3, z4, z5, z6⟩, pk_fr hfr (fun _ => rfl) (fun _ => rfl) (fun _ => rfl), ⟨hA1, hA2, hA3⟩, x6, m7, hsc, hFl, hv⟩, c4, pk_B_mv (pk_B_no hB) rfl rfl rfl (fun _ => ⟨rfl, rfl⟩) (fun _ => ⟨rfl, rfl⟩), pk_S_mv (pk_S_no hno hS) rfl (fun _ => rfl) (fun _ => ⟨rfl, rfl⟩)⟩
  · have hno : ¬ (pr_isSt (x0.2 1 (k + n)) ∧ pr_done (x0.2 1 (k + n)) x0) := fun q => g (d0.mp (by have := q.2; rw [hwd] at this; exact this))
    exact ⟨x, m, v, ⟨⟨⟨z1, z2, z3, z4, z5, z6⟩, hfr, ⟨hA1, hA2, hA3⟩, x6, m7, hsc, hFl, hv⟩, pk_W_no hW, pk_B_no hB, pk_S_no hno hS⟩, fun f => (PX f).1 (fun q => g (dx.mp q)), fun f => (PM f).1 g⟩
