/-! one cycle, and run -/
theorem pr_R2_flt {np nd : Nat} {x m : mx_S} (hR : pr_R2 np nd x m) (s : Int32) : pr_Rel np nd (mx_sf x 0 5 s) (mx_sf m 0 6 s) := by
  obtain ⟨hSz, ⟨s1, s2, s3, s4, s5, s6, s7⟩, hFl, hA, ⟨w, tm, w1, hWr, w3, w4, w5, w6⟩, ⟨b, bt, hBc, hBr, hb5⟩, h0⟩ := hR
  have hb := pr_b10 hb5
  exact ⟨hSz, ⟨rfl, s2, s3, s4, s5, s6, s7⟩, hFl, hA, ⟨w, tm, by omega, hWr, fun _ => ⟨fun j hj => ⟨(w3 j hj).1, by have := (w3 j hj).2; omega⟩, by rw [pr_cnt0 (fun j hj => by have := (w3 j hj).2; omega)]; exact Nat.zero_le _, w4, w5, by omega⟩⟩, ⟨b, by omega, hBc, fun _ => ⟨bt, hBr, fun i hi => ⟨(hb5.1 i hi).1, by have := (hb5.1 i hi).2; omega⟩, hb5.2.1, hb5.2.2⟩⟩⟩
theorem pr_R2_wait {np nd : Nat} {x m : mx_S} (hR : pr_R2 np nd x m) (s : Int32) : pr_Rel np nd (mx_sf x 0 8 s) (mx_sf m 0 9 s) := by
  obtain ⟨hSz, ⟨s1, s2, s3, s4, s5, s6, s7⟩, hFl, hA, ⟨w, tm, w1, hWr, w3, w4, w5, w6⟩, ⟨b, bt, hBc, hBr, hb5⟩, h0⟩ := hR
  have hb := pr_b10 hb5
  exact ⟨hSz, ⟨s1, s2, s3, rfl, s5, s6, s7⟩, hFl, hA, ⟨w, tm, by omega, hWr, fun _ => ⟨fun j hj => ⟨(w3 j hj).1, by have := (w3 j hj).2; omega⟩, by rw [pr_cnt0 (fun j hj => by have := (w3 j hj).2; omega)]; exact Nat.zero_le _, w4, w5, by omega⟩⟩, ⟨b, by omega, hBc, fun _ => ⟨bt, hBr, fun i hi => ⟨(hb5.1 i hi).1, by have := (hb5.1 i hi).2; omega⟩, hb5.2.1, hb5.2.2⟩⟩⟩
theorem sim_cycle {np nd : Nat} {x m : mx_S} (hR : pr_Rel np nd x m) (h0 : x.1 0 5 = 0) : q_xm_doCycle np nd x ∧ q_mm_cycle (mx_sf m 0 8 (mx_gf m 0 8 + 1)) ∧ pr_Rel np nd (xm_doCycle np nd x) (mm_cycle (mx_sf m 0 8 (mx_gf m 0 8 + 1))) := by
  obtain ⟨a1, a2, a3⟩ := ph_land hR h0
  rw [xm_doCycle_eq, mm_cycle_eq]
  unfold xm_doCycle_b mm_cycle_b q_xm_doCycle q_mm_cycle
  generalize mx_sf x 0 7 (mx_gf x 0 7 + 1) = x1 at a1 a3 ⊢
  generalize mx_sf m 0 8 (mx_gf m 0 8 + 1) = m1 at a2 a3 ⊢
  rcases a3 with ⟨e1, R1⟩ | ⟨e1, e2, R1⟩
  · rw [e1]
    generalize xm_landWrites x1 = x2 at R1 ⊢
    generalize mx_sf (mm_lands_s m1) 0 6 0 = m2 at R1 ⊢
    have x20 : mx_gf x2 0 5 = 0 := R1.2.2.2.2.2.2
    have m20 : mx_gf m2 0 6 = 0 := R1.2.1.1.symm.trans x20
    obtain ⟨b1, b2, b3⟩ := ph_branch R1
    rw [if_pos x20, if_pos m20]
    rcases b3 with ⟨f1, R2⟩ | ⟨f1, f2, R2⟩
    · rw [f1]
      generalize xm_takeBranch x2 = x3 at R2 ⊢
      generalize mx_sf (mm_arrives_s m2) 0 6 0 = m3 at R2 ⊢
      have x30 : mx_gf x3 0 5 = 0 := R2.2.2.2.2.2.2
      have m30 : mx_gf m3 0 6 = 0 := R2.2.1.1.symm.trans x30
      have ew : mx_gf m3 0 9 = mx_gf x3 0 8 := R2.2.1.2.2.2.1.symm
      rw [if_pos x30, if_pos m30, ew]
      by_cases gw : mx_gf x3 0 8 ≤ 0
      · rw [if_pos gw, if_pos gw]
        obtain ⟨c1, c2, R3⟩ := ph_inter R2
        generalize xm_takeInterrupt x3 = x4 at R3 ⊢
        generalize mm_interrupts m3 = m4 at R3 ⊢
        have hA := R3.2.2.2.1
        have hSz := R3.1
        obtain ⟨d1, d2⟩ := ph_end (nd := nd) hSz.2.1 hA.1 hSz.2.2.2.2.1 R3.2.1.2.1
        have QX : ∀ (P : Prop), P → q_xm_landWrites np nd x1 ∧ ((¬ mx_gf x2 0 5 = 0 → True) ∧ (mx_gf x2 0 5 = 0 → q_xm_takeBranch np nd x2 ∧ ((mx_gf x3 0 5 = 0 → (mx_gf x3 0 8 ≤ 0 → q_xm_takeInterrupt np nd x3 ∧ P) ∧ (¬ mx_gf x3 0 8 ≤ 0 → True)) ∧ (¬ mx_gf x3 0 5 = 0 → True)))) := fun P h => ⟨a1, fun _ => trivial, fun _ => ⟨b1, fun _ => ⟨fun _ => ⟨c1, h⟩, fun _ => trivial⟩, fun _ => trivial⟩⟩
        have QM : ∀ (P : Prop), P → q_mm_lands m1 ∧ ((mx_gf m2 0 6 = 0 → q_mm_arrives m2 ∧ ((mx_gf m3 0 6 = 0 → (mx_gf x3 0 8 ≤ 0 → q_mm_interrupts m3 ∧ P) ∧ (¬ mx_gf x3 0 8 ≤ 0 → True)) ∧ (¬ mx_gf m3 0 6 = 0 → True))) ∧ (¬ mx_gf m2 0 6 = 0 → True)) := fun P h => ⟨a2, fun _ => ⟨b2, fun _ => ⟨fun _ => ⟨c2, h⟩, fun _ => trivial⟩, fun _ => trivial⟩, fun _ => trivial⟩
        rcases d2 with ⟨k, e, k1, k2, k3, k4, k5, k6, k7⟩ | ⟨s, hs, k1, k2, k3, k4, k5⟩
        · obtain ⟨w1, w2, w3, w4⟩ := ph_wrong (nd := nd) hSz.2.1 hSz.2.2.2.1 k2 k3 k4 k1 (R3.2.1.2.1.symm.trans k1) hSz.2.2.2.2.2 hA.1 hA.2.2
          rw [k6, k5, w3]
          by_cases gf : mm_wrong (nI e) m4 = 0
          · obtain ⟨p1, p2, p3⟩ := ph_packet R3 k1 k2 k3 k4 (w4 gf)
            have ef : pr_fin m4 e = mm_packet (nI e) (mx_sf m4 0 6 0) := by
              unfold pr_fin
              rw [gf, if_pos rfl]
            have qf : pr_qfin m4 e := by
              refine ⟨w2, fun _ => ?_⟩
              rw [gf]; exact p2
            rw [ef, gf]
            have z : mx_gf (mx_sf x4 0 5 0) 0 5 = 0 := rfl
            rw [if_pos z]
            refine ⟨QX _ ⟨d1, w1, fun q => absurd z q, fun _ => p1⟩, QM _ (k7 qf), p3⟩
          · have ef : pr_fin m4 e = mx_sf m4 0 6 (mm_wrong (nI e) m4) := by
              unfold pr_fin
              rw [if_neg gf]
            have qf : pr_qfin m4 e := ⟨w2, fun q => absurd q gf⟩
            have z : ¬ mx_gf (mx_sf x4 0 5 (mm_wrong (nI e) m4)) 0 5 = 0 := gf
            rw [ef, if_neg z]
            refine ⟨QX _ ⟨d1, w1, fun _ => trivial, fun q => absurd q z⟩, QM _ (k7 qf), pr_R2_flt R3 _⟩
        · have sz : ¬ s = 0 := by
            rcases hs with q | q <;> rw [q] <;> decide
          have z : ¬ mx_gf (mx_sf x4 0 5 s) 0 5 = 0 := sz
          rw [k4, k1, k2, if_neg z]
          refine ⟨QX _ ⟨d1, k3, fun _ => trivial, fun q => absurd q z⟩, QM _ k5, pr_R2_flt R3 _⟩
      · rw [if_neg gw, if_neg gw]
        exact ⟨⟨a1, fun _ => trivial, fun _ => ⟨b1, fun _ => ⟨fun q => absurd q gw, fun _ => trivial⟩, fun _ => trivial⟩⟩, ⟨a2, fun _ => ⟨b2, fun _ => ⟨fun q => absurd q gw, fun _ => trivial⟩, fun _ => trivial⟩, fun _ => trivial⟩, pr_R2_wait R2 _⟩
    · rw [f1]
      generalize xm_takeBranch x2 = x3 at f2 R2 ⊢
      generalize hm3 : mx_sf (mm_arrives_s m2) 0 6 6 = m3 at R2 ⊢
      have x30 : ¬ mx_gf x3 0 5 = 0 := fun q => absurd (f2.symm.trans q) (by decide)
      have m30 : ¬ mx_gf m3 0 6 = 0 := fun q => x30 (R2.2.1.1.trans q)
      rw [if_neg x30, if_neg m30]
      exact ⟨⟨a1, fun _ => trivial, fun _ => ⟨b1, fun q => absurd q x30, fun _ => trivial⟩⟩, ⟨a2, fun _ => ⟨b2, fun q => absurd q m30, fun _ => trivial⟩, fun _ => trivial⟩, R2⟩
  · rw [e1]
    generalize xm_landWrites x1 = x2 at e2 R1 ⊢
    generalize mx_sf (mm_lands_s m1) 0 6 5 = m2 at R1 ⊢
    have x20 : ¬ mx_gf x2 0 5 = 0 := fun q => absurd (e2.symm.trans q) (by decide)
    have m20 : ¬ mx_gf m2 0 6 = 0 := fun q => x20 (R1.2.1.1.trans q)
    rw [if_neg x20, if_neg m20]
    exact ⟨⟨a1, fun _ => trivial, fun q => absurd q x20⟩, ⟨a2, fun q => absurd q m20, fun _ => trivial⟩, R1⟩
theorem sim_runL {np nd n : Nat} (hn : n ≤ 2000) : ∀ (f i : Nat) (x m : mx_S), i ≤ n → n < i + f → pr_Rel np nd x m →
    q_xm_run_l15 np nd (nI n) f (nI i) x ∧ q_mm_run_l20 (nI n) f (nI i) m ∧ (xm_run_l15 np nd (nI n) f (nI i) x).1 = (mm_run_l20 (nI n) f (nI i) m).1 ∧ pr_Rel np nd (xm_run_l15 np nd (nI n) f (nI i) x).2 (mm_run_l20 (nI n) f (nI i) m).2 := by
  intro f
  induction f with
  | zero => intro i x m h1 h2; omega
  | succ f ih =>
    intro i x m h1 h2 hR
    rw [xm_run_l15.eq_2, q_xm_run_l15.eq_2, mm_run_l20.eq_2, q_mm_run_l20.eq_2, nI_1]
    by_cases h : i = n
    · have hle : nI n ≤ nI i := by rw [h]; exact Int32.le_refl _
      rw [if_pos hle, if_pos hle]
      exact ⟨⟨fun _ => trivial, fun q => absurd hle q⟩, ⟨fun _ => trivial, fun q => absurd hle q⟩, rfl, hR⟩
    · have hle : ¬ nI n ≤ nI i := fun q => by have := (nI_leI (by omega) (by omega)).mp q; omega
      rw [if_neg hle, if_neg hle]
      have es : mx_gf m 0 6 = mx_gf x 0 5 := hR.2.1.1.symm
      rw [es]
      by_cases g : mx_gf x 0 5 = 0
      · rw [if_pos g, if_pos g]
        obtain ⟨c1, c2, c3⟩ := sim_cycle hR g
        obtain ⟨r1, r2, r3, r4⟩ := ih (i + 1) _ _ (by omega) (by omega) c3
        exact ⟨⟨fun q => absurd q hle, fun _ => ⟨fun q => absurd g q, fun _ => ⟨c1, r1⟩⟩⟩, ⟨fun q => absurd q hle, fun _ => ⟨fun q => absurd g q, fun _ => ⟨c2, r2⟩⟩⟩, r3, r4⟩
      · rw [if_neg g, if_neg g]
        exact ⟨⟨fun q => absurd q hle, fun _ => ⟨fun _ => trivial, fun q => absurd q g⟩⟩, ⟨fun q => absurd q hle, fun _ => ⟨fun _ => trivial, fun q => absurd q g⟩⟩, rfl, hR⟩
theorem sim_run {np nd : Nat} {x m : mx_S} (hR : pr_Rel np nd x m) : sm_run np nd (pr_Rel np nd) x m := by
  intro a1
  have hR0 : pr_Rel np nd x (mx_sf m 0 0 0) := hR
  rw [xm_run_eq, xm_run_s_eq, mm_run_eq, mm_run_s_eq]
  unfold xm_run_b mm_run_b q_xm_run q_mm_run
  by_cases h0 : a1 < 0
  · rw [if_pos h0, if_pos h0]
    exact ⟨⟨fun _ => trivial, fun q => absurd h0 q⟩, ⟨fun _ => trivial, fun q => absurd h0 q⟩, rfl, hR0⟩
  · rw [if_neg h0, if_neg h0]
    by_cases h1 : a1 ≤ 2000
    · rw [if_pos h1, if_pos h1]
      obtain ⟨n, hn, en⟩ := nI_of2 (M := 2000) (n := 2000) (by decide) h0 h1
      subst en
      obtain ⟨r1, r2, r3, r4⟩ := sim_runL (np := np) (nd := nd) hn 2002 0 x (mx_sf m 0 0 0) (Nat.zero_le _) (by omega) hR0
      exact ⟨⟨fun q => absurd q h0, fun _ => ⟨fun _ => r1, fun q => absurd h1 q⟩⟩, ⟨fun q => absurd q h0, fun _ => ⟨fun _ => r2, fun q => absurd h1 q⟩⟩, r3, r4⟩
    · rw [if_neg h1, if_neg h1]
      exact ⟨⟨fun q => absurd q h0, fun _ => ⟨fun q => absurd q h1, fun _ => trivial⟩⟩, ⟨fun q => absurd q h0, fun _ => ⟨fun q => absurd q h1, fun _ => trivial⟩⟩, rfl, hR0⟩
theorem pure_sim : ∀ np nd, 16 ≤ np → np ≤ 256 → 16 ≤ nd → nd ≤ 256 → ∃ Rl, lw_Sim np nd Rl ∧ Rl mx_0 (mx_sf (mx_sf mx_0 0 1 (nI np)) 0 2 (nI nd)) := by
  intro np nd h1 h2 h3 h4
  refine ⟨pr_Rel np nd, fun ux um hR => ⟨sim_word hR, sim_poke hR, sim_peek hR, sim_set hR, sim_get hR, sim_run hR, sim_about hR, sim_due hR, sim_raise hR, sim_letIn hR, sim_start hR⟩, ⟨h1, h2, h3, h4, rfl, rfl⟩, ⟨rfl, rfl, rfl, rfl, rfl, rfl, rfl⟩, ⟨Or.inl rfl, 0, by omega, rfl⟩, ⟨fun _ _ => rfl, fun _ _ => rfl, fun _ _ => rfl⟩, ⟨0, fun _ => 0, by omega, ⟨rfl, rfl, fun i hi => absurd hi (Nat.not_lt_zero i)⟩, fun _ => ⟨fun i hi => absurd hi (Nat.not_lt_zero i), by decide, by decide, by decide, by decide⟩⟩, ⟨0, by omega, ⟨rfl, rfl⟩, fun _ => ⟨fun _ => 0, fun i hi => absurd hi (Nat.not_lt_zero i), fun i hi => absurd hi (Nat.not_lt_zero i), fun i hi => absurd hi (Nat.not_lt_zero _), fun i hi => absurd hi (Nat.not_lt_zero _)⟩⟩⟩
