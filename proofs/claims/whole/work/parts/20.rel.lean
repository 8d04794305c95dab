/-! the relation between the class's state x and the Model's m, and the calls that need no cycle -/
def pr_cnt (f : Nat → Nat) (k : Nat) : Nat → Nat
  | 0 => 0
  | w + 1 => pr_cnt f k w + (if f w = k then 1 else 0)
def pr_tmOK (w : Nat) (tm : Nat → Nat) : Prop := (∀ i, i < w → 1 ≤ tm i ∧ tm i ≤ 5) ∧ pr_cnt tm 5 w ≤ 2 ∧ pr_cnt tm 4 w ≤ 2 ∧ pr_cnt tm 3 w ≤ 2 ∧ pr_cnt tm 2 w ≤ 4
def pr_btOK (b : Nat) (bt : Nat → Nat) : Prop := (∀ i, i < b → 1 ≤ bt i ∧ bt i ≤ 6) ∧ (∀ i, i + 1 < b → bt i ≤ bt (i + 1)) ∧ (∀ i, i + 2 < b → bt i < bt (i + 2))
def pr_Sz (np nd : Nat) (m : mx_S) : Prop := 16 ≤ np ∧ np ≤ 256 ∧ 16 ≤ nd ∧ nd ≤ 256 ∧ m.1 0 1 = nI np ∧ m.1 0 2 = nI nd
def pr_Sc (x m : mx_S) : Prop := x.1 0 5 = m.1 0 6 ∧ x.1 0 6 = m.1 0 7 ∧ x.1 0 7 = m.1 0 8 ∧ x.1 0 8 = m.1 0 9 ∧ x.1 0 9 = m.1 0 10 ∧ x.1 0 10 = m.1 0 12 ∧ x.1 0 11 = m.1 0 11
def pr_Fl (x : mx_S) : Prop := (x.1 0 11 = 0 ∨ x.1 0 11 = 1) ∧ ∃ r, r < 16 ∧ x.1 0 10 = nI r
def pr_Ar (np nd : Nat) (x m : mx_S) : Prop := (∀ i, i < np → x.2 1 i = m.2 1 i) ∧ (∀ i, i < nd → x.2 2 i = m.2 2 i) ∧ (∀ i, i < 32 → x.2 3 i = m.2 3 i)
def pr_Wr (x m : mx_S) (w : Nat) (tm : Nat → Nat) : Prop := x.1 4 3 = nI w ∧ m.1 0 13 = nI w ∧ ∀ i, i < w → (∃ t, t < 32 ∧ x.2 5 i = nI t) ∧ x.2 5 i = m.2 4 i ∧ x.2 6 i = m.2 5 i ∧ m.2 6 i = m.1 0 8 + x.2 7 i ∧ x.2 7 i = nI (tm i)
def pr_Br (x m : mx_S) (b : Nat) (bt : Nat → Nat) : Prop := ∀ i, i < b → x.2 9 i = m.2 7 i ∧ m.2 8 i = m.1 0 8 + x.2 10 i ∧ x.2 10 i = nI (bt i)
def pr_Bc (x m : mx_S) (b : Nat) : Prop := x.1 8 2 = nI b ∧ m.1 0 17 = nI b
def pr_Rel (np nd : Nat) (x m : mx_S) : Prop :=
  pr_Sz np nd m ∧ pr_Sc x m ∧ pr_Fl x ∧ pr_Ar np nd x m ∧ (∃ w tm, w ≤ 18 ∧ pr_Wr x m w tm ∧ (x.1 0 5 = 0 → pr_tmOK w tm)) ∧ (∃ b, b ≤ 12 ∧ pr_Bc x m b ∧ (x.1 0 5 = 0 → ∃ bt, pr_Br x m b bt ∧ pr_btOK b bt))
theorem pr_ix {a : Int32} {n : Nat} (hn : n < 2 ^ 31) (h0 : ¬ a < 0) (h1 : a < nI n) : ∃ j, j < n ∧ a = nI j := by
  rcases pk_ix a hn with h | h | h
  · exact absurd h h0
  · exact absurd h1 (Int32.not_lt.mpr h)
  · exact h
theorem pr_in {a : Int32} {n N : Nat} (hn : n ≤ N) (hN : N < 2 ^ 31) (h0 : ¬ a < 0) (h1 : a < nI n) : vp_in a N := by
  obtain ⟨j, hj, rfl⟩ := pr_ix (by omega) h0 h1
  exact vp_in_nI (by omega) hN
theorem pr_upd {f g : Nat → Int32} {n : Nat} (h : ∀ i, i < n → f i = g i) (k : Nat) (v : Int32) : ∀ i, i < n → (if i = k then v else f i) = (if i = k then v else g i) := by
  intro i hi
  by_cases e : i = k
  · rw [if_pos e, if_pos e]
  · rw [if_neg e, if_neg e, h i hi]
theorem sim_word {np nd : Nat} {x m : mx_S} (hR : pr_Rel np nd x m) : sm_word np nd (pr_Rel np nd) x m := by
  intro a1 a2
  obtain ⟨⟨z1, z2, z3, z4, z5, z6⟩, hSc, hF, ⟨hA1, hA2, hA3⟩, hW, hB⟩ := hR
  rw [xm_word_eq, xm_word_s_eq, mm_word_eq, mm_word_s_eq]
  unfold xm_word_b mm_word_b
  have e1 : mx_gf (mx_sf m 0 0 0) 0 1 = nI np := z5
  rw [e1]
  refine ⟨⟨fun _ => trivial, fun h0 => ⟨fun h1 => pr_in (Nat.le_refl _) (by omega) h0 h1, fun _ => trivial⟩⟩, ⟨fun _ => trivial, fun h0 => ⟨fun h1 => pr_in z2 (by omega) h0 (by rw [e1] at h1; exact h1), fun _ => trivial⟩⟩, ?_⟩
  by_cases h0 : a1 < 0
  · rw [if_pos h0, if_pos h0]
    exact ⟨rfl, ⟨z1, z2, z3, z4, z5, z6⟩, hSc, hF, ⟨hA1, hA2, hA3⟩, hW, hB⟩
  · rw [if_neg h0, if_neg h0]
    by_cases h1 : a1 < nI np
    · rw [if_pos h1, if_pos h1]
      exact ⟨rfl, ⟨z1, z2, z3, z4, z5, z6⟩, hSc, hF, ⟨pr_upd hA1 _ _, hA2, hA3⟩, hW, hB⟩
    · rw [if_neg h1, if_neg h1]
      exact ⟨rfl, ⟨z1, z2, z3, z4, z5, z6⟩, hSc, hF, ⟨hA1, hA2, hA3⟩, hW, hB⟩
theorem pr_ind {np nd : Nat} {a : Int32} (hd : nd ≤ 256) : (xm_isInData np nd a = 0 ↔ ¬ (¬ a < 0 ∧ a < nI nd)) := by
  rw [xm_isInData_eq]
  unfold xm_isInData_b
  by_cases h0 : a < 0
  · rw [if_pos h0]
    exact ⟨fun _ h => h.1 h0, fun _ => rfl⟩
  · rw [if_neg h0]
    by_cases h1 : nI nd ≤ a
    · rw [if_pos h1]
      exact ⟨fun _ h => absurd h.2 (Int32.not_lt.mpr h1), fun _ => rfl⟩
    · rw [if_neg h1]
      exact ⟨fun h => absurd h (by decide), fun h => absurd ⟨h0, Int32.not_le.mp h1⟩ h⟩
theorem sim_poke {np nd : Nat} {x m : mx_S} (hR : pr_Rel np nd x m) : sm_poke np nd (pr_Rel np nd) x m := by
  intro a1 a2
  obtain ⟨⟨z1, z2, z3, z4, z5, z6⟩, hSc, hF, ⟨hA1, hA2, hA3⟩, hW, hB⟩ := hR
  rw [xm_poke_eq, xm_poke_s_eq, mm_poke_eq, mm_poke_s_eq]
  unfold xm_poke_b mm_poke_b
  have e1 : mx_gf (mx_sf m 0 0 0) 0 2 = nI nd := z6
  rw [e1]
  refine ⟨⟨fun h => ?_, fun _ => trivial⟩, ⟨fun _ => trivial, fun h0 => ⟨fun h1 => pr_in z4 (by omega) h0 (by rw [e1] at h1; exact h1), fun _ => trivial⟩⟩, ?_⟩
  · have h2 : ¬ a1 < 0 ∧ a1 < nI nd := Classical.byContradiction (fun q => h ((pr_ind z4).mpr q))
    exact pr_in (Nat.le_refl _) (by omega) h2.1 h2.2
  by_cases h0 : a1 < 0
  · rw [if_pos ((pr_ind z4).mpr (fun q => q.1 h0)), if_pos h0]
    exact ⟨rfl, ⟨z1, z2, z3, z4, z5, z6⟩, hSc, hF, ⟨hA1, hA2, hA3⟩, hW, hB⟩
  · rw [if_neg h0]
    by_cases h1 : a1 < nI nd
    · rw [if_neg (fun q => (pr_ind z4).mp q ⟨h0, h1⟩), if_pos h1]
      exact ⟨rfl, ⟨z1, z2, z3, z4, z5, z6⟩, hSc, hF, ⟨hA1, pr_upd hA2 _ _, hA3⟩, hW, hB⟩
    · rw [if_pos ((pr_ind z4).mpr (fun q => h1 q.2)), if_neg h1]
      exact ⟨rfl, ⟨z1, z2, z3, z4, z5, z6⟩, hSc, hF, ⟨hA1, hA2, hA3⟩, hW, hB⟩
theorem sim_peek {np nd : Nat} {x m : mx_S} (hR : pr_Rel np nd x m) : sm_peek np nd (pr_Rel np nd) x m := by
  intro a1
  obtain ⟨⟨z1, z2, z3, z4, z5, z6⟩, hSc, hF, ⟨hA1, hA2, hA3⟩, hW, hB⟩ := hR
  rw [xm_peek_eq, mm_peek_eq, mm_peek_s_eq]
  unfold xm_peek_b mm_peek_b
  have e1 : mx_gf (mx_sf m 0 0 0) 0 2 = nI nd := z6
  rw [e1]
  refine ⟨⟨fun _ => trivial, fun h => ?_⟩, ⟨fun _ => trivial, fun h0 => ⟨fun h1 => pr_in z4 (by omega) h0 (by rw [e1] at h1; exact h1), fun _ => trivial⟩⟩, ?_⟩
  · have h2 : ¬ a1 < 0 ∧ a1 < nI nd := Classical.byContradiction (fun q => h ((pr_ind z4).mpr q))
    exact pr_in (Nat.le_refl _) (by omega) h2.1 h2.2
  by_cases h0 : a1 < 0
  · rw [if_pos ((pr_ind z4).mpr (fun q => q.1 h0)), if_pos h0]
    exact ⟨rfl, ⟨z1, z2, z3, z4, z5, z6⟩, hSc, hF, ⟨hA1, hA2, hA3⟩, hW, hB⟩
  · rw [if_neg h0]
    by_cases h1 : a1 < nI nd
    · rw [if_neg (fun q => (pr_ind z4).mp q ⟨h0, h1⟩), if_pos h1]
      obtain ⟨j, hj, rfl⟩ := pr_ix (by omega) h0 h1
      refine ⟨?_, ⟨z1, z2, z3, z4, z5, z6⟩, hSc, hF, ⟨hA1, hA2, hA3⟩, hW, hB⟩
      show x.2 2 (nI j).toNatClampNeg = m.2 2 (nI j).toNatClampNeg
      rw [nI_clamp (by omega)]
      exact hA2 j hj
    · rw [if_pos ((pr_ind z4).mpr (fun q => h1 q.2)), if_neg h1]
      exact ⟨rfl, ⟨z1, z2, z3, z4, z5, z6⟩, hSc, hF, ⟨hA1, hA2, hA3⟩, hW, hB⟩
theorem pr_32 (a : Int32) : a ≤ 31 ↔ a < 32 := by
  rw [Int32.le_iff_toInt_le, Int32.lt_iff_toInt_lt, show (31 : Int32).toInt = 31 from by decide, show (32 : Int32).toInt = 32 from by decide]
  omega
theorem sim_set {np nd : Nat} {x m : mx_S} (hR : pr_Rel np nd x m) : sm_set np nd (pr_Rel np nd) x m := by
  intro a1 a2
  obtain ⟨hZ, hSc, hF, ⟨hA1, hA2, hA3⟩, hW, hB⟩ := hR
  rw [xm_set_eq, xm_set_s_eq, mm_set_eq, mm_set_s_eq]
  unfold xm_set_b mm_set_b
  refine ⟨⟨fun _ => trivial, fun h0 => ⟨fun h1 => pr_in (n := 32) (Nat.le_refl _) (by omega) h0 h1, fun _ => trivial⟩⟩, ⟨fun _ => trivial, fun h0 => ⟨fun h1 => pr_in (n := 32) (Nat.le_refl _) (by omega) h0 ((pr_32 a1).mp h1), fun _ => trivial⟩⟩, ?_⟩
  by_cases h0 : a1 < 0
  · rw [if_pos h0, if_pos h0]
    exact ⟨rfl, hZ, hSc, hF, ⟨hA1, hA2, hA3⟩, hW, hB⟩
  · rw [if_neg h0, if_neg h0]
    by_cases h1 : a1 < 32
    · rw [if_pos h1, if_pos ((pr_32 a1).mpr h1)]
      exact ⟨rfl, hZ, hSc, hF, ⟨hA1, hA2, pr_upd hA3 _ _⟩, hW, hB⟩
    · rw [if_neg h1, if_neg (fun q => h1 ((pr_32 a1).mp q))]
      exact ⟨rfl, hZ, hSc, hF, ⟨hA1, hA2, hA3⟩, hW, hB⟩
theorem sim_get {np nd : Nat} {x m : mx_S} (hR : pr_Rel np nd x m) : sm_get np nd (pr_Rel np nd) x m := by
  intro a1
  obtain ⟨hZ, hSc, hF, ⟨hA1, hA2, hA3⟩, hW, hB⟩ := hR
  rw [xm_get_eq, mm_get_eq, mm_get_s_eq]
  unfold xm_get_b mm_get_b
  refine ⟨⟨fun _ => trivial, fun h0 => ⟨fun h1 => pr_in (n := 32) (Nat.le_refl _) (by omega) h0 h1, fun _ => trivial⟩⟩, ⟨fun _ => trivial, fun h0 => ⟨fun h1 => pr_in (n := 32) (Nat.le_refl _) (by omega) h0 ((pr_32 a1).mp h1), fun _ => trivial⟩⟩, ?_⟩
  by_cases h0 : a1 < 0
  · rw [if_pos h0, if_pos h0]
    exact ⟨rfl, hZ, hSc, hF, ⟨hA1, hA2, hA3⟩, hW, hB⟩
  · rw [if_neg h0, if_neg h0]
    by_cases h1 : a1 < 32
    · rw [if_pos h1, if_pos ((pr_32 a1).mpr h1)]
      obtain ⟨j, hj, rfl⟩ := pr_ix (n := 32) (by omega) h0 h1
      refine ⟨?_, hZ, hSc, hF, ⟨hA1, hA2, hA3⟩, hW, hB⟩
      show x.2 3 (nI j).toNatClampNeg = m.2 3 (nI j).toNatClampNeg
      rw [nI_clamp (by omega)]
      exact hA3 j hj
    · rw [if_neg h1, if_neg (fun q => h1 ((pr_32 a1).mp q))]
      exact ⟨rfl, hZ, hSc, hF, ⟨hA1, hA2, hA3⟩, hW, hB⟩
theorem sim_letIn {np nd : Nat} {x m : mx_S} (hR : pr_Rel np nd x m) : sm_letIn np nd (pr_Rel np nd) x m := by
  intro a1 ha
  obtain ⟨hZ, ⟨s1, s2, s3, s4, s5, s6, s7⟩, ⟨f1, f2⟩, hA, hW, hB⟩ := hR
  exact ⟨ha, ha, trivial, hZ, ⟨s1, s2, s3, s4, s5, s6, rfl⟩, ⟨ha, f2⟩, hA, hW, hB⟩
theorem sim_start {np nd : Nat} {x m : mx_S} (hR : pr_Rel np nd x m) : sm_start np nd (pr_Rel np nd) x m := by
  intro a1
  obtain ⟨⟨z1, z2, z3, z4, z5, z6⟩, ⟨s1, s2, s3, s4, s5, s6, s7⟩, hF, hA, hW, hB⟩ := hR
  rw [xm_start_eq, xm_start_s_eq, mm_start_eq, mm_start_s_eq]
  unfold xm_start_b mm_start_b
  have e1 : mx_gf (mx_sf m 0 0 0) 0 1 = nI np := z5
  rw [e1]
  refine ⟨trivial, trivial, ?_⟩
  by_cases h0 : a1 < 0
  · rw [if_pos h0, if_pos h0]
    exact ⟨rfl, ⟨z1, z2, z3, z4, z5, z6⟩, ⟨s1, s2, s3, s4, s5, s6, s7⟩, hF, hA, hW, hB⟩
  · rw [if_neg h0, if_neg h0]
    by_cases h1 : a1 < nI np
    · rw [if_pos h1, if_pos h1]
      refine ⟨rfl, ⟨z1, z2, z3, z4, z5, z6⟩, ⟨rfl, rfl, s3, rfl, s5, s6, s7⟩, hF, hA, ⟨0, fun _ => 0, by omega, ⟨rfl, rfl, fun i hi => absurd hi (Nat.not_lt_zero i)⟩, fun _ => ⟨fun i hi => absurd hi (Nat.not_lt_zero i), by decide, by decide, by decide, by decide⟩⟩, ⟨0, by omega, ⟨rfl, rfl⟩, fun _ => ⟨fun _ => 0, fun i hi => absurd hi (Nat.not_lt_zero i), fun i hi => absurd hi (Nat.not_lt_zero i), fun i hi => absurd hi (Nat.not_lt_zero _), fun i hi => absurd hi (Nat.not_lt_zero _)⟩⟩⟩
    · rw [if_neg h1, if_neg h1]
      exact ⟨rfl, ⟨z1, z2, z3, z4, z5, z6⟩, ⟨s1, s2, s3, s4, s5, s6, s7⟩, hF, hA, hW, hB⟩
theorem sim_about {np nd : Nat} {x m : mx_S} (hR : pr_Rel np nd x m) : sm_about np nd (pr_Rel np nd) x m := by
  intro a1
  have hR0 := hR
  obtain ⟨hZ, ⟨s1, s2, s3, s4, s5, s6, s7⟩, hF, hA, ⟨w, tm, w1, ⟨w2, w3, w4⟩, w5⟩, ⟨b, b1, ⟨b2, b3⟩, b4⟩⟩ := hR
  rw [xm_about_eq, mm_about_eq, mm_about_s_eq]
  have hm : pr_Rel np nd x (mx_sf m 0 0 0) := hR0
  unfold xm_about_b mm_about_b
  refine ⟨trivial, trivial, ?_⟩
  by_cases h0 : a1 = 0
  · rw [if_pos h0, if_pos h0]; exact ⟨s1, hm⟩
  rw [if_neg h0, if_neg h0]
  by_cases h1 : a1 = 1
  · rw [if_pos h1, if_pos h1]; exact ⟨s2, hm⟩
  rw [if_neg h1, if_neg h1]
  by_cases h2 : a1 = 2
  · rw [if_pos h2, if_pos h2]; exact ⟨s3, hm⟩
  rw [if_neg h2, if_neg h2]
  by_cases h3 : a1 = 3
  · rw [if_pos h3, if_pos h3]; exact ⟨w2.trans w3.symm, hm⟩
  rw [if_neg h3, if_neg h3]
  by_cases h4 : a1 = 4
  · rw [if_pos h4, if_pos h4]; exact ⟨b2.trans b3.symm, hm⟩
  rw [if_neg h4, if_neg h4]
  by_cases h5 : a1 = 5
  · rw [if_pos h5, if_pos h5]; exact ⟨s4, hm⟩
  rw [if_neg h5, if_neg h5]
  by_cases h6 : a1 = 6
  · rw [if_pos h6, if_pos h6]; exact ⟨s5, hm⟩
  rw [if_neg h6, if_neg h6]
  by_cases h7 : a1 = 7
  · rw [if_pos h7, if_pos h7]
    have e7 : mx_gf (mx_sf m 0 0 0) 0 11 = mx_gf x 0 11 := s7.symm
    rw [e7]
    by_cases g : mx_gf x 0 11 = 0
    · rw [if_pos g, if_pos g]; exact ⟨rfl, hm⟩
    · rw [if_neg g, if_neg g]; exact ⟨rfl, hm⟩
  rw [if_neg h7, if_neg h7]
  by_cases h8 : a1 = 8
  · rw [if_pos h8, if_pos h8]; exact ⟨s6, hm⟩
  rw [if_neg h8, if_neg h8]
  exact ⟨rfl, hm⟩
theorem sim_due {np nd : Nat} {x m : mx_S} (hR : pr_Rel np nd x m) : sm_due np nd (pr_Rel np nd) x m := by
  intro a1 a2
  have hR0 := hR
  obtain ⟨hZ, hSc, hF, hA, ⟨w, tm, w1, ⟨w2, w3, w4⟩, w5⟩, hB⟩ := hR
  rw [xm_due_eq, mm_due_eq, mm_due_s_eq]
  have hm : pr_Rel np nd x (mx_sf m 0 0 0) := hR0
  have e1 : mx_gf x 4 3 = nI w := w2
  have e2 : mx_gf (mx_sf m 0 0 0) 0 13 = nI w := w3
  unfold xm_due_b mm_due_b q_xm_due q_mm_due
  rw [e1, e2]
  have hi18 : ¬ a1 < 0 → a1 < nI w → vp_in a1 18 := fun h0 h1 => pr_in w1 (by omega) h0 h1
  have hi64 : ¬ a1 < 0 → a1 < nI w → vp_in a1 64 := fun h0 h1 => pr_in (by omega) (by omega) h0 h1
  refine ⟨⟨fun _ => trivial, fun h0 => ⟨fun h1 => ⟨fun _ => hi18 h0 h1, fun _ => ⟨fun _ => hi18 h0 h1, fun _ => ⟨fun _ => hi18 h0 h1, fun _ => trivial⟩⟩⟩, fun _ => trivial⟩⟩, ⟨fun _ => trivial, fun h0 => ⟨fun h1 => ⟨fun _ => ⟨fun _ => ⟨fun _ => trivial, fun _ => hi64 h0 h1⟩, fun _ => hi64 h0 h1⟩, fun _ => hi64 h0 h1⟩, fun _ => trivial⟩⟩, ?_⟩
  by_cases h0 : a1 < 0
  · rw [if_pos h0, if_pos h0]; exact ⟨rfl, hm⟩
  rw [if_neg h0, if_neg h0]
  by_cases h1 : a1 < nI w
  · rw [if_pos h1, if_pos h1]
    obtain ⟨j, hj, rfl⟩ := pr_ix (by omega) h0 h1
    obtain ⟨-, g1, g2, g3, -⟩ := w4 j hj
    have ec : (nI j).toNatClampNeg = j := nI_clamp (by omega)
    by_cases k0 : a2 = 0
    · rw [if_pos k0, if_pos k0, ec]; exact ⟨g1, hm⟩
    rw [if_neg k0, if_neg k0]
    by_cases k1 : a2 = 1
    · rw [if_pos k1, if_pos k1, ec]; exact ⟨g2, hm⟩
    rw [if_neg k1, if_neg k1]
    by_cases k2 : a2 = 2
    · rw [if_pos k2, if_pos k2, ec]
      refine ⟨?_, hm⟩
      show x.2 7 j = m.2 6 j - m.1 0 8
      rw [g3, Int32.add_comm, Int32.add_sub_cancel]
    rw [if_neg k2, if_neg k2]
    exact ⟨rfl, hm⟩
  · rw [if_neg h1, if_neg h1]; exact ⟨rfl, hm⟩
