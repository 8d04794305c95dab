/-! what is wrong with a packet: the class's loops -/
section FX
variable {np nd k e : Nat} {x : mx_S}
theorem fx_ill (hn : np ≤ 256) (he : e ≤ np) : ∀ (n i : Nat), i ≤ e → e < i + n → (xm_hasIllFormed_l5 (nI e) x n (nI i) = 0 ↔ ∀ j, i ≤ j → j < e → ¬ pr_ill (x.2 1 j)) ∧ q_xm_hasIllFormed_l5 np nd (nI e) x n (nI i) := by
  intro n
  induction n with
  | zero => intro i h1 h2; omega
  | succ n ih =>
    intro i h1 h2
    have ei : (nI i).toNatClampNeg = i := nI_clamp (by omega)
    unfold xm_hasIllFormed_l5 q_xm_hasIllFormed_l5
    rw [ei, nI_1]
    by_cases h : e ≤ i
    · have hle : nI e ≤ nI i := (nI_leI (by omega) (by omega)).mpr h
      rw [if_pos hle]
      exact ⟨⟨fun _ j _ _ => by omega, fun _ => rfl⟩, fun _ => trivial, fun q => absurd hle q⟩
    · have hle : ¬ nI e ≤ nI i := fun q => h ((nI_leI (by omega) (by omega)).mp q)
      rw [if_neg hle]
      have hin : vp_in (nI i) np := vp_in_nI (by omega) (by omega)
      obtain ⟨r1, r2⟩ := ih (i + 1) (by omega) (by omega)
      have hx := xf_ill (mx_ga x 1 i)
      by_cases g : xw_isIllFormed (mx_ga x 1 i) = 0
      · rw [if_pos g]
        refine ⟨r1.trans ⟨fun q j j1 j2 => ?_, fun q j j1 j2 => q j (by omega) j2⟩, fun q => absurd q hle, fun _ => ⟨hin, fun _ => r2, fun q => absurd g q⟩⟩
        by_cases ej : j = i
        · rw [ej]; exact hx.mp g
        · exact q j (by omega) j2
      · rw [if_neg g]
        exact ⟨⟨fun q => absurd q (by decide), fun q => absurd (hx.mpr (q i (by omega) (by omega))) g⟩, fun q => absurd q hle, fun _ => ⟨hin, fun q => absurd q g, fun _ => trivial⟩⟩
theorem fx_unit (hn : np ≤ 256) (he : e ≤ np) : ∀ (n i : Nat) (v : Int32), k ≤ i → i ≤ e → e < i + n → (∀ b, b < 32 → (v.toBitVec.getLsbD b = true ↔ ∃ j, k ≤ j ∧ j < i ∧ pr_f (x.2 1 j) 5 3 = b)) →
    (xm_hasUnitTwice_l7 (nI e) x n v (nI i) = 0 ↔ ∀ a j, i ≤ a → a < e → k ≤ j → j < a → ¬ pr_f (x.2 1 a) 5 3 = pr_f (x.2 1 j) 5 3) ∧ q_xm_hasUnitTwice_l7 np nd (nI e) x n v (nI i) := by
  intro n
  induction n with
  | zero => intro i v h0 h1 h2; omega
  | succ n ih =>
    intro i v h0 h1 h2 hv
    have ei : (nI i).toNatClampNeg = i := nI_clamp (by omega)
    have eu : xw_unit (mx_ga x 1 i) = nI (pr_f (x.2 1 i) 5 3) := pf_unit (x.2 1 i)
    have ul : pr_f (x.2 1 i) 5 3 < 32 := Nat.lt_trans (pr_flt _ 5 3) (by decide)
    unfold xm_hasUnitTwice_l7 q_xm_hasUnitTwice_l7
    rw [ei, nI_1, eu]
    by_cases h : e ≤ i
    · have hle : nI e ≤ nI i := (nI_leI (by omega) (by omega)).mpr h
      rw [if_pos hle]
      exact ⟨⟨fun _ a j a1 a2 => by omega, fun _ => rfl⟩, fun _ => trivial, fun q => absurd hle q⟩
    · have hle : ¬ nI e ≤ nI i := fun q => h ((nI_leI (by omega) (by omega)).mp q)
      rw [if_neg hle]
      have hin : vp_in (nI i) np := vp_in_nI (by omega) (by omega)
      by_cases g : (v &&& ((1 : Int32) <<< (nI (pr_f (x.2 1 i) 5 3) &&& 31))) = 0
      · rw [if_pos g]
        have hno : ¬ ∃ j, k ≤ j ∧ j < i ∧ pr_f (x.2 1 j) 5 3 = pr_f (x.2 1 i) 5 3 := fun q => by
          have := (hv _ ul).mpr q
          rw [(pr_mask0 v ul).mp g] at this
          cases this
        obtain ⟨r1, r2⟩ := ih (i + 1) (v ||| ((1 : Int32) <<< (nI (pr_f (x.2 1 i) 5 3) &&& 31))) (by omega) (by omega) (by omega) (fun b hb => by
          rw [pr_mask1 v ul b, Bool.or_eq_true, hv b hb]
          constructor
          · rintro (⟨j, j0, j1, j2⟩ | q)
            · exact ⟨j, j0, by omega, j2⟩
            · simp only [Bool.and_eq_true, decide_eq_true_eq] at q
              exact ⟨i, h0, by omega, q.2⟩
          · rintro ⟨j, j0, j1, j2⟩
            by_cases hj : j = i
            · subst hj
              right
              simp [hb, j2]
            · exact Or.inl ⟨j, j0, by omega, j2⟩)
        refine ⟨r1.trans ⟨fun q a j a1 a2 a3 a4 => ?_, fun q a j a1 a2 a3 a4 => q a j (by omega) a2 a3 a4⟩, fun q => absurd q hle, fun _ => ⟨hin, fun _ => r2, fun q => absurd g q⟩⟩
        by_cases ea : a = i
        · rw [ea] at a4 ⊢
          exact fun z => hno ⟨j, a3, a4, z.symm⟩
        · exact q a j (by omega) a2 a3 a4
      · rw [if_neg g]
        refine ⟨⟨fun q => absurd q (by decide), fun q => ?_⟩, fun q => absurd q hle, fun _ => ⟨hin, fun q => absurd q g, fun _ => trivial⟩⟩
        exfalso
        have hb : v.toBitVec.getLsbD (pr_f (x.2 1 i) 5 3) = true := by
          cases hx : v.toBitVec.getLsbD (pr_f (x.2 1 i) 5 3) with
          | true => rfl
          | false => exact absurd ((pr_mask0 v ul).mpr hx) g
        obtain ⟨j, j0, j1, j2⟩ := (hv _ ul).mp hb
        exact q i j (by omega) (by omega) j0 j1 j2.symm
theorem fx_cross (hn : np ≤ 256) (he : e ≤ np) : ∀ (n i : Nat) (v : Int32), k ≤ i → i ≤ e → e < i + n → (∀ b, b < 32 → (v.toBitVec.getLsbD b = true ↔ ∃ j, k ≤ j ∧ j < i ∧ pr_cross (x.2 1 j) ∧ pr_f (x.2 1 j) 7 1 = b)) →
    (xm_hasCrossedTwice_l7 (nI e) x n v (nI i) = 0 ↔ ∀ a j, i ≤ a → a < e → k ≤ j → j < a → ¬ (pr_cross (x.2 1 a) ∧ pr_cross (x.2 1 j) ∧ pr_f (x.2 1 a) 7 1 = pr_f (x.2 1 j) 7 1)) ∧ q_xm_hasCrossedTwice_l7 np nd (nI e) x n v (nI i) := by
  intro n
  induction n with
  | zero => intro i v h0 h1 h2; omega
  | succ n ih =>
    intro i v h0 h1 h2 hv
    have ei : (nI i).toNatClampNeg = i := nI_clamp (by omega)
    have eu : xw_side (mx_ga x 1 i) = nI (pr_f (x.2 1 i) 7 1) := pf_side (x.2 1 i)
    have ul : pr_f (x.2 1 i) 7 1 < 32 := Nat.lt_trans (pr_flt _ 7 1) (by decide)
    unfold xm_hasCrossedTwice_l7 q_xm_hasCrossedTwice_l7
    rw [ei, nI_1, eu]
    by_cases h : e ≤ i
    · have hle : nI e ≤ nI i := (nI_leI (by omega) (by omega)).mpr h
      rw [if_pos hle]
      exact ⟨⟨fun _ a j a1 a2 => by omega, fun _ => rfl⟩, fun _ => trivial, fun q => absurd hle q⟩
    · have hle : ¬ nI e ≤ nI i := fun q => h ((nI_leI (by omega) (by omega)).mp q)
      rw [if_neg hle]
      have hin : vp_in (nI i) np := vp_in_nI (by omega) (by omega)
      have hx : xw_crosses (mx_ga x 1 i) = 0 ↔ ¬ pr_cross (x.2 1 i) := xf_cross (x.2 1 i)
      by_cases g0 : xw_crosses (mx_ga x 1 i) = 0
      · rw [if_pos g0]
        have g0' := hx.mp g0
        obtain ⟨r1, r2⟩ := ih (i + 1) v (by omega) (by omega) (by omega) (fun b hb => by
          rw [hv b hb]
          constructor
          · rintro ⟨j, j0, j1, j2⟩
            exact ⟨j, j0, by omega, j2⟩
          · rintro ⟨j, j0, j1, j2⟩
            by_cases hj : j = i
            · subst hj; exact absurd j2.1 g0'
            · exact ⟨j, j0, by omega, j2⟩)
        refine ⟨r1.trans ⟨fun q a j a1 a2 a3 a4 => ?_, fun q a j a1 a2 a3 a4 => q a j (by omega) a2 a3 a4⟩, fun q => absurd q hle, fun _ => ⟨hin, fun _ => r2, fun q => absurd g0 q⟩⟩
        by_cases ea : a = i
        · rw [ea]; exact fun z => g0' z.1
        · exact q a j (by omega) a2 a3 a4
      · rw [if_neg g0]
        have g0' : pr_cross (x.2 1 i) := Classical.byContradiction (fun q => g0 (hx.mpr q))
        by_cases g : (v &&& ((1 : Int32) <<< (nI (pr_f (x.2 1 i) 7 1) &&& 31))) = 0
        · rw [if_pos g]
          have hno : ¬ ∃ j, k ≤ j ∧ j < i ∧ pr_cross (x.2 1 j) ∧ pr_f (x.2 1 j) 7 1 = pr_f (x.2 1 i) 7 1 := fun q => by
            have := (hv _ ul).mpr q
            rw [(pr_mask0 v ul).mp g] at this
            cases this
          obtain ⟨r1, r2⟩ := ih (i + 1) (v ||| ((1 : Int32) <<< (nI (pr_f (x.2 1 i) 7 1) &&& 31))) (by omega) (by omega) (by omega) (fun b hb => by
            rw [pr_mask1 v ul b, Bool.or_eq_true, hv b hb]
            constructor
            · rintro (⟨j, j0, j1, j2⟩ | q)
              · exact ⟨j, j0, by omega, j2⟩
              · simp only [Bool.and_eq_true, decide_eq_true_eq] at q
                exact ⟨i, h0, by omega, g0', q.2⟩
            · rintro ⟨j, j0, j1, j2⟩
              by_cases hj : j = i
              · subst hj
                right
                simp [hb, j2.2]
              · exact Or.inl ⟨j, j0, by omega, j2⟩)
          refine ⟨r1.trans ⟨fun q a j a1 a2 a3 a4 => ?_, fun q a j a1 a2 a3 a4 => q a j (by omega) a2 a3 a4⟩, fun q => absurd q hle, fun _ => ⟨hin, fun q => absurd q g0, fun _ => ⟨hin, fun _ => r2, fun q => absurd g q⟩⟩⟩
          by_cases ea : a = i
          · rw [ea] at a4 ⊢
            exact fun z => hno ⟨j, a3, a4, z.2.1, z.2.2.symm⟩
          · exact q a j (by omega) a2 a3 a4
        · rw [if_neg g]
          refine ⟨⟨fun q => absurd q (by decide), fun q => ?_⟩, fun q => absurd q hle, fun _ => ⟨hin, fun q => absurd q g0, fun _ => ⟨hin, fun q => absurd q g, fun _ => trivial⟩⟩⟩
          exfalso
          have hb : v.toBitVec.getLsbD (pr_f (x.2 1 i) 7 1) = true := by
            cases hx : v.toBitVec.getLsbD (pr_f (x.2 1 i) 7 1) with
            | true => rfl
            | false => exact absurd ((pr_mask0 v ul).mpr hx) g
          obtain ⟨j, j0, j1, j2, j3⟩ := (hv _ ul).mp hb
          exact q i j (by omega) (by omega) j0 j1 ⟨g0', j2, j3.symm⟩
/-- a word on data whose address lies beyond them -/
def pr_out (nd : Nat) (a : Int32) : Prop := ¬ (¬ a < 0 ∧ a < nI nd)
def pr_bey (nd : Nat) (w : Int32) (x : mx_S) : Prop := (pr_f w 5 2 = 3 ∧ (pr_f w 8 4 = 2 ∨ pr_f w 8 4 = 3)) ∧ pr_done w x ∧ pr_out nd (xm_dataAddress w x)
theorem xf_c50 (w : Int32) : xw_code w = 50 ↔ (pr_f w 5 2 = 3 ∧ pr_f w 8 4 = 2) := by
  have k1 := pr_flt w 5 2
  have o1 := pr_flt w 8 4
  rw [pf_code]
  exact (nI_eq (b := 50) (by omega) (by omega)).trans (by omega)
theorem xf_c51 (w : Int32) : xw_code w = 51 ↔ (pr_f w 5 2 = 3 ∧ pr_f w 8 4 = 3) := by
  have k1 := pr_flt w 5 2
  have o1 := pr_flt w 8 4
  rw [pf_code]
  exact (nI_eq (b := 51) (by omega) (by omega)).trans (by omega)
theorem fx_bey (hn : np ≤ 256) (hd : nd ≤ 256) (he : e ≤ np) (hc : ∀ j, k ≤ j → j < e → pr_f (x.2 1 j) 1 3 ≤ 5) : ∀ (n i : Nat), k ≤ i → i ≤ e → e < i + n → (xm_goesBeyondData_l5 np nd (nI e) x n (nI i) = 0 ↔ ∀ j, i ≤ j → j < e → ¬ pr_bey nd (x.2 1 j) x) ∧ q_xm_goesBeyondData_l5 np nd (nI e) x n (nI i) := by
  intro n
  induction n with
  | zero => intro i h0 h1 h2; omega
  | succ n ih =>
    intro i h0 h1 h2
    have ei : (nI i).toNatClampNeg = i := nI_clamp (by omega)
    unfold xm_goesBeyondData_l5 q_xm_goesBeyondData_l5
    rw [ei, nI_1]
    by_cases h : e ≤ i
    · have hle : nI e ≤ nI i := (nI_leI (by omega) (by omega)).mpr h
      rw [if_pos hle]
      exact ⟨⟨fun _ j _ _ => by omega, fun _ => rfl⟩, fun _ => trivial, fun q => absurd hle q⟩
    · have hle : ¬ nI e ≤ nI i := fun q => h ((nI_leI (by omega) (by omega)).mp q)
      rw [if_neg hle]
      have hin : vp_in (nI i) np := vp_in_nI (by omega) (by omega)
      obtain ⟨r1, r2⟩ := ih (i + 1) (by omega) (by omega) (by omega)
      obtain ⟨d1, d2⟩ := xf_done np nd (x.2 1 i) x (hc i h0 (by omega))
      have hi := pr_ind (np := np) (nd := nd) (a := xm_dataAddress (x.2 1 i) x) hd
      have c50 := xf_c50 (x.2 1 i)
      have c51 := xf_c51 (x.2 1 i)
      have hgo : (¬ pr_bey nd (x.2 1 i) x) → (xm_goesBeyondData_l5 np nd (nI e) x n (nI (i + 1)) = 0 ↔ ∀ j, i ≤ j → j < e → ¬ pr_bey nd (x.2 1 j) x) := fun hb => r1.trans ⟨fun q j j1 j2 => by
        by_cases ej : j = i
        · rw [ej]; exact hb
        · exact q j (by omega) j2, fun q j j1 j2 => q j (by omega) j2⟩
      have hst : pr_bey nd (x.2 1 i) x → ((1 : Int32) = 0 ↔ ∀ j, i ≤ j → j < e → ¬ pr_bey nd (x.2 1 j) x) := fun hb => ⟨fun q => absurd q (by decide), fun q => absurd hb (q i (by omega) (by omega))⟩
      have ew : mx_ga x 1 i = x.2 1 i := rfl
      rw [ew]
      by_cases g1 : xw_code (x.2 1 i) = 50
      · rw [if_pos g1]
        have k1 := c50.mp g1
        have g2 : ¬ xw_code (x.2 1 i) = 51 := fun q => by have := c51.mp q; omega
        by_cases g3 : xm_isConditionTrue (x.2 1 i) x = 0
        · rw [if_pos g3]
          exact ⟨hgo (fun z => d1.mp g3 z.2.1), fun q => absurd q hle, fun _ => ⟨hin, fun _ => ⟨d2, fun _ => r2, fun q => absurd g3 q⟩, fun q => absurd g1 q⟩⟩
        · rw [if_neg g3]
          have g3' : pr_done (x.2 1 i) x := Classical.byContradiction (fun q => g3 (d1.mpr q))
          by_cases g4 : xm_isInData np nd (xm_dataAddress (x.2 1 i) x) = 0
          · rw [if_pos g4]
            exact ⟨hst ⟨⟨k1.1, Or.inl k1.2⟩, g3', hi.mp g4⟩, fun q => absurd q hle, fun _ => ⟨hin, fun _ => ⟨d2, fun q => absurd q g3, fun _ => ⟨fun q => absurd g4 q, fun _ => trivial⟩⟩, fun q => absurd g1 q⟩⟩
          · rw [if_neg g4]
            exact ⟨hgo (fun z => g4 (hi.mpr z.2.2)), fun q => absurd q hle, fun _ => ⟨hin, fun _ => ⟨d2, fun q => absurd q g3, fun _ => ⟨fun _ => r2, fun q => absurd q g4⟩⟩, fun q => absurd g1 q⟩⟩
      · rw [if_neg g1]
        by_cases g2 : xw_code (x.2 1 i) = 51
        · rw [if_pos g2]
          have k1 := c51.mp g2
          by_cases g3 : xm_isConditionTrue (x.2 1 i) x = 0
          · rw [if_pos g3]
            exact ⟨hgo (fun z => d1.mp g3 z.2.1), fun q => absurd q hle, fun _ => ⟨hin, fun q => absurd q g1, fun _ => ⟨fun q => absurd g2 q, fun _ => ⟨d2, fun _ => r2, fun q => absurd g3 q⟩⟩⟩⟩
          · rw [if_neg g3]
            have g3' : pr_done (x.2 1 i) x := Classical.byContradiction (fun q => g3 (d1.mpr q))
            by_cases g4 : xm_isInData np nd (xm_dataAddress (x.2 1 i) x) = 0
            · rw [if_pos g4]
              exact ⟨hst ⟨⟨k1.1, Or.inr k1.2⟩, g3', hi.mp g4⟩, fun q => absurd q hle, fun _ => ⟨hin, fun q => absurd q g1, fun _ => ⟨fun q => absurd g2 q, fun _ => ⟨d2, fun q => absurd q g3, fun _ => ⟨fun q => absurd g4 q, fun _ => trivial⟩⟩⟩⟩⟩
            · rw [if_neg g4]
              exact ⟨hgo (fun z => g4 (hi.mpr z.2.2)), fun q => absurd q hle, fun _ => ⟨hin, fun q => absurd q g1, fun _ => ⟨fun q => absurd g2 q, fun _ => ⟨d2, fun q => absurd q g3, fun _ => ⟨fun _ => r2, fun q => absurd q g4⟩⟩⟩⟩⟩
        · rw [if_neg g2]
          exact ⟨hgo (fun z => z.1.2.elim (fun y => g1 (c50.mpr ⟨z.1.1, y⟩)) (fun y => g2 (c51.mpr ⟨z.1.1, y⟩))), fun q => absurd q hle, fun _ => ⟨hin, fun q => absurd q g1, fun _ => ⟨fun _ => r2, fun q => absurd q g2⟩⟩⟩
end FX
