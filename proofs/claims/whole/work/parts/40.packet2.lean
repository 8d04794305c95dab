/-! the packet's loops -/
theorem pkt_loop {np nd k N e : Nat} {x0 : mx_S} (hN : N ≤ 8) (hkN : e = k + N) (he : e ≤ np) (hok : pr_ok nd k e x0) : ∀ (f n : Nat) (x m : mx_S) (v : Int32), n ≤ N → N < n + f → pk_I np nd k n x0 x m v →
    ∃ x' m' v', pk_I np nd k N x0 x' m' v' ∧ xm_doPacket_l5 np nd (nI e) f (nI (k + n)) x = xm_doStores np nd (nI e) x' ∧ (q_xm_doStores np nd (nI e) x' → q_xm_doPacket_l5 np nd (nI e) f (nI (k + n)) x) ∧ mm_packet_l12 (nI e) f v (nI (k + n)) m = mm_packet_l139 (nI e) 20 v' 0 m' ∧ (q_mm_packet_l139 (nI e) 20 v' 0 m' → q_mm_packet_l12 (nI e) f v (nI (k + n)) m) := by
  intro f
  induction f with
  | zero => intro n x m v h1 h2; omega
  | succ f ih =>
    intro n x m v h1 h2 hI
    have hnp : np ≤ 256 := hI.1.1.2.1
    by_cases h : n = N
    · subst h
      have hle : nI e ≤ nI (k + n) := by rw [hkN]; exact Int32.le_refl _
      refine ⟨x, m, v, hI, ?_, ?_, ?_, ?_⟩
      · rw [xm_doPacket_l5.eq_2, if_pos hle]
      · intro hq
        rw [q_xm_doPacket_l5.eq_2]
        exact ⟨fun _ => hq, fun q => absurd hle q⟩
      · rw [mm_packet_l12.eq_2, if_pos hle]
      · intro hq
        rw [q_mm_packet_l12.eq_2]
        exact ⟨fun _ => hq, fun q => absurd hle q⟩
    · obtain ⟨o1, o2, o3⟩ := hok
      obtain ⟨x', m', v', i1, i2, i3⟩ := pk_step hI (by omega) (e := e) (by omega) he (o1 _ (by omega) (by omega)) (o3 _ (by omega) (by omega)) (pr_kc2 (by omega) (fun a j a1 a2 => o2 _ _ (by omega) (by omega) (by omega) (by omega)))
      obtain ⟨x'', m'', v'', j1, j2, j3, j4, j5⟩ := ih (n + 1) x' m' v' (by omega) (by omega) i1
      have ea : k + (n + 1) = k + n + 1 := by omega
      rw [ea] at j2 j3 j4 j5
      exact ⟨x'', m'', v'', j1, (i2 f).1.trans j2, fun q => (i2 f).2 (j3 q), (i3 f).1.trans j4, fun q => (i3 f).2 (j5 q)⟩
theorem xd_loop {np nd k N e : Nat} {x0 x' : mx_S} (hkN : e = k + N) (he : e ≤ np) (hn : np ≤ 256) (hd : nd ≤ 256) (hok : pr_ok nd k e x0) (h1 : ∀ j, x'.2 1 j = x0.2 1 j) (h3 : ∀ j, x'.2 3 j = x0.2 3 j) : ∀ (f n : Nat) (u : mx_S), n ≤ N → N < n + f → u.1 = x'.1 → (∀ a j, ¬ a = 2 → u.2 a j = x'.2 a j) → (∀ j, u.2 2 j = pr_dat x0 k n j) →
    (xm_doStores_l5 np nd (nI e) f (nI (k + n)) u).1 = x'.1 ∧ (∀ a j, ¬ a = 2 → (xm_doStores_l5 np nd (nI e) f (nI (k + n)) u).2 a j = x'.2 a j) ∧ (∀ j, (xm_doStores_l5 np nd (nI e) f (nI (k + n)) u).2 2 j = pr_dat x0 k N j) ∧ q_xm_doStores_l5 np nd (nI e) f (nI (k + n)) u := by
  intro f
  induction f with
  | zero => intro n u g1 g2; omega
  | succ f ih =>
    intro n u g1 g2 u1 u2 u3
    by_cases h : n = N
    · subst h
      have hle : nI e ≤ nI (k + n) := by rw [hkN]; exact Int32.le_refl _
      rw [xm_doStores_l5.eq_2, q_xm_doStores_l5.eq_2, if_pos hle]
      exact ⟨u1, u2, u3, fun _ => trivial, fun q => absurd hle q⟩
    · have hle : ¬ nI e ≤ nI (k + n) := fun q => by have := (nI_leI (by omega) (by omega)).mp q; omega
      have hin : vp_in (nI (k + n)) np := vp_in_nI (by omega) (by omega)
      have ei : (nI (k + n)).toNatClampNeg = k + n := nI_clamp (by omega)
      have ew : mx_ga u 1 (k + n) = x0.2 1 (k + n) := (u2 1 _ (by omega)).trans (h1 _)
      obtain ⟨o1, o2, o3⟩ := hok
      have hil := o1 (k + n) (by omega) (by omega)
      have hbey := o3 (k + n) (by omega) (by omega)
      have r3 : ∀ i, i < 32 → u.2 3 i = x0.2 3 i := fun i _ => (u2 3 i (by omega)).trans (h3 i)
      have hs : ∀ j, pr_dat x0 k (n + 1) j = @ite Int32 ((pr_isSt (x0.2 1 (k + n)) ∧ pr_done (x0.2 1 (k + n)) x0) ∧ j = (xm_dataAddress (x0.2 1 (k + n)) x0).toNatClampNeg) (Classical.propDecidable _) (x0.2 3 (pr_f (x0.2 1 (k + n)) 12 5)) (pr_dat x0 k n j) := fun _ => rfl
      rw [xm_doStores_l5.eq_2, q_xm_doStores_l5.eq_2, if_neg hle, ei, ew, nI_1, Nat.add_assoc k n 1]
      generalize x0.2 1 (k + n) = w at hil hbey hs
      obtain ⟨d1, d2⟩ := xf_done np nd w u (pr_ill_c hil)
      have dd : pr_done w u ↔ pr_done w x0 := pr_done_eq w r3
      by_cases g : pr_isSt w
      · have c51 := (xf_c51 w).mpr g
        rw [if_pos c51]
        by_cases gd : pr_done w x0
        · have gt : ¬ xm_isConditionTrue w u = 0 := fun q => d1.mp q (dd.mpr gd)
          rw [if_neg gt]
          have eda : xm_dataAddress w u = xm_dataAddress w x0 := (pr_da w r3).trans (pr_da w (fun i _ => rfl)).symm
          have hout0 : ¬ pr_out nd (xm_dataAddress w x0) := fun q => hbey ⟨⟨g.1, Or.inr g.2⟩, gd, q⟩
          have hin' : ¬ xm_dataAddress w x0 < 0 ∧ xm_dataAddress w x0 < nI nd := Classical.byContradiction (fun q => hout0 q)
          obtain ⟨j, hj, ej⟩ := pr_ix (by omega) hin'.1 hin'.2
          have ejc : (nI j).toNatClampNeg = j := nI_clamp (by omega)
          have ed : xw_d w = nI (pr_f w 12 5) := pf_d w
          have dlt := pr_flt w 12 5
          have hnz : ¬ xm_isInData np nd (nI j) = 0 := fun q => (pr_ind hd).mp q (by rw [← ej]; exact hin')
          have ep : xm_poke_s np nd (xm_dataAddress w u) (mx_ga u 3 (xw_d w).toNatClampNeg) u = mx_sa u 2 j (x0.2 3 (pr_f w 12 5)) := by
            rw [eda, ej, ed, nI_clamp (show pr_f w 12 5 < 2 ^ 31 by omega), xm_poke_s_eq]
            unfold xm_poke_b
            rw [if_neg hnz, ejc]
            show mx_sa u 2 j (u.2 3 (pr_f w 12 5)) = _
            rw [r3 _ dlt]
          have qp : q_xm_poke np nd (xm_dataAddress w u) (mx_ga u 3 (xw_d w).toNatClampNeg) u := by
            rw [eda, ej]
            exact ⟨fun _ => vp_in_nI hj (by omega), fun _ => trivial⟩
          rw [ep]
          obtain ⟨k1, k2, k3, k4⟩ := ih (n + 1) (mx_sa u 2 j (x0.2 3 (pr_f w 12 5))) (by omega) (by omega) u1 (fun a b hab => (if_neg hab).trans (u2 a b hab)) (fun b => by
            rw [hs, ej, ejc]
            show (if b = j then x0.2 3 (pr_f w 12 5) else u.2 2 b) = _
            by_cases gb : b = j
            · rw [if_pos gb, if_pos ⟨⟨g, gd⟩, gb⟩]
            · rw [if_neg gb, if_neg (fun q => gb q.2), u3 b])
          exact ⟨k1, k2, k3, fun q => absurd q hle, fun _ => ⟨hin, fun q => absurd c51 q, fun _ => ⟨d2, fun q => absurd q gt, fun _ => ⟨qp, k4⟩⟩⟩⟩
        · have gt : xm_isConditionTrue w u = 0 := d1.mpr (fun q => gd (dd.mp q))
          rw [if_pos gt]
          obtain ⟨k1, k2, k3, k4⟩ := ih (n + 1) u (by omega) (by omega) u1 u2 (fun b => by rw [hs, if_neg (fun q => gd q.1.2), u3 b])
          exact ⟨k1, k2, k3, fun q => absurd q hle, fun _ => ⟨hin, fun q => absurd c51 q, fun _ => ⟨d2, fun _ => k4, fun q => absurd gt q⟩⟩⟩
      · have c51 : ¬ xw_code w = 51 := fun q => g ((xf_c51 w).mp q)
        rw [if_neg c51]
        obtain ⟨k1, k2, k3, k4⟩ := ih (n + 1) u (by omega) (by omega) u1 u2 (fun b => by rw [hs, if_neg (fun q => g q.1.1), u3 b])
        exact ⟨k1, k2, k3, fun q => absurd q hle, fun _ => ⟨hin, fun _ => k4, fun q => absurd q c51⟩⟩
theorem md_loop {nd s e : Nat} {m' : mx_S} {v : Int32} (hs8 : s ≤ 8) (hd : nd ≤ 256) (h20 : m'.1 0 20 = nI s) (h9 : ∀ t, t < s → ∃ q, q < nd ∧ m'.2 9 t = nI q) : ∀ (f t : Nat) (u : mx_S), t ≤ s → s < t + f → u.1 = m'.1 → (∀ a j, ¬ a = 2 → u.2 a j = m'.2 a j) → (∀ j, u.2 2 j = pr_app m' t j) →
    (mm_packet_l139 (nI e) f v (nI t) u).1 = (mx_sf (mx_sf m' 0 7 (nI e)) 0 6 (if v = 0 then 0 else 9)).1 ∧ (∀ a j, ¬ a = 2 → (mm_packet_l139 (nI e) f v (nI t) u).2 a j = m'.2 a j) ∧ (∀ j, (mm_packet_l139 (nI e) f v (nI t) u).2 2 j = pr_app m' s j) ∧ q_mm_packet_l139 (nI e) f v (nI t) u := by
  intro f
  induction f with
  | zero => intro t u g1 g2; omega
  | succ f ih =>
    intro t u g1 g2 u1 u2 u3
    have hg : mx_gf u 0 20 = nI s := by
      show u.1 0 20 = _
      rw [u1]; exact h20
    rw [mm_packet_l139.eq_2, q_mm_packet_l139.eq_2, hg, nI_1]
    by_cases h : t = s
    · subst h
      have hle : nI t ≤ nI t := Int32.le_refl _
      rw [if_pos hle]
      refine ⟨?_, ?_, ?_, fun _ => trivial, fun q => absurd hle q⟩
      · by_cases gv : v = 0
        · rw [if_pos gv, if_pos gv]
          show (mx_sf (mx_sf u 0 7 (nI e)) 0 6 0).1 = _
          unfold mx_sf
          rw [u1]
        · rw [if_neg gv, if_neg gv]
          unfold mx_sf
          rw [u1]
      · by_cases gv : v = 0
        · rw [if_pos gv]; exact u2
        · rw [if_neg gv]; exact u2
      · by_cases gv : v = 0
        · rw [if_pos gv]; exact u3
        · rw [if_neg gv]; exact u3
    · have hle : ¬ nI s ≤ nI t := fun q => by have := (nI_leI (by omega) (by omega)).mp q; omega
      have hin : vp_in (nI t) 8 := vp_in_nI (by omega) (by omega)
      have ei : (nI t).toNatClampNeg = t := nI_clamp (by omega)
      obtain ⟨q, hq, eq⟩ := h9 t (by omega)
      have e9 : mx_ga u 9 t = m'.2 9 t := u2 9 t (by omega)
      have e10 : mx_ga u 10 t = m'.2 10 t := u2 10 t (by omega)
      rw [if_neg hle, ei, e9, e10]
      obtain ⟨k1, k2, k3, k4⟩ := ih (t + 1) (mx_sa u 2 (m'.2 9 t).toNatClampNeg (m'.2 10 t)) (by omega) (by omega) u1 (fun a b hab => (if_neg hab).trans (u2 a b hab)) (fun b => by
        show (if b = (m'.2 9 t).toNatClampNeg then m'.2 10 t else u.2 2 b) = (if b = (m'.2 9 t).toNatClampNeg then m'.2 10 t else pr_app m' t b)
        rw [u3 b])
      exact ⟨k1, k2, k3, fun q => absurd q hle, fun _ => ⟨hin, hin, by rw [eq]; exact vp_in_nI (by omega) (by omega), k4⟩⟩
