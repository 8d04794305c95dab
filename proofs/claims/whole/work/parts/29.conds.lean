/-! a word's condition -/
def pr_cr (c : Nat) : Nat := if c = 1 then 16 else if c = 2 then 17 else if c = 3 then 18 else if c = 4 then 1 else 2
theorem pr_crlt (c : Nat) : pr_cr c < 32 := by
  unfold pr_cr
  split
  · omega
  · split
    · omega
    · split
      · omega
      · split <;> omega
def pr_done (w : Int32) (x : mx_S) : Prop := pr_f w 1 3 = 0 ∨ ((x.2 3 (pr_cr (pr_f w 1 3)) = 0) ↔ ¬ pr_f w 4 1 = 0)
theorem pt_creg : ∀ c, c < 6 → ¬ c = 0 → (if nI c = 1 then (16 : Int32) else if nI c = 2 then 17 else if nI c = 3 then 18 else if nI c = 4 then 1 else if nI c = 5 then 2 else (-1)) = nI (pr_cr c) := by decide
theorem xf_creg (w : Int32) (hc : pr_f w 1 3 ≤ 5) : xw_conditionRegister w = if pr_f w 1 3 = 0 then (-1) else nI (pr_cr (pr_f w 1 3)) := by
  rw [xw_conditionRegister_eq]
  unfold xw_conditionRegister_b
  have e : ((w >>> ((1 : Int32) &&& 31)) &&& (7 : Int32)) = nI (pr_f w 1 3) := pf_cond w
  rw [e]
  by_cases g : pr_f w 1 3 = 0
  · rw [if_pos g, g]; decide
  · rw [if_neg g]; exact pt_creg _ (by omega) g
theorem xf_done (np nd : Nat) (w : Int32) (x : mx_S) (hc : pr_f w 1 3 ≤ 5) : (xm_isConditionTrue w x = 0 ↔ ¬ pr_done w x) ∧ q_xm_isConditionTrue np nd w x := by
  rw [xm_isConditionTrue_eq]
  unfold xm_isConditionTrue_b q_xm_isConditionTrue pr_done
  rw [xf_creg w hc]
  have z := xf_onz w
  have z1 := pr_flt w 4 1
  have zz : xw_isOnZero w = 0 ∨ xw_isOnZero w = 1 := by
    rw [xw_isOnZero_eq]
    unfold xw_isOnZero_b
    split
    · exact Or.inl rfl
    · exact Or.inr rfl
  by_cases g : pr_f w 1 3 = 0
  · rw [if_pos g, if_pos rfl]
    refine ⟨⟨fun q => absurd q (by decide), fun q => absurd (Or.inl g) q⟩, ?_⟩
    first | exact ⟨fun _ => trivial, fun q => absurd rfl q⟩ | exact ⟨fun q => absurd rfl q, fun _ => trivial⟩
  · have hr := pr_crlt (pr_f w 1 3)
    have hne : ¬ nI (pr_cr (pr_f w 1 3)) = (-1 : Int32) := fun q => nI_pos (n := pr_cr (pr_f w 1 3)) (by omega) (by rw [q]; decide)
    rw [if_neg g, if_neg hne, nI_clamp (by omega)]
    refine ⟨?_, ?_⟩
    · by_cases g2 : mx_ga x 3 (pr_cr (pr_f w 1 3)) = 0
      · have g2' : x.2 3 (pr_cr (pr_f w 1 3)) = 0 := g2
        rw [if_pos g2]
        rcases zz with e | e
        · rw [e, if_neg (by decide)]
          have := z.mp e
          exact ⟨fun _ q => q.elim g (fun y => (y.mp g2') this), fun _ => rfl⟩
        · rw [e, if_pos rfl]
          have hz : ¬ pr_f w 4 1 = 0 := fun q => by have := z.mpr q; rw [e] at this; exact absurd this (by decide)
          exact ⟨fun q => absurd q (by decide), fun q => absurd (Or.inr ⟨fun _ => hz, fun _ => g2'⟩) q⟩
      · have g2' : ¬ x.2 3 (pr_cr (pr_f w 1 3)) = 0 := g2
        rw [if_neg g2]
        rcases zz with e | e
        · rw [e, if_pos rfl]
          have := z.mp e
          exact ⟨fun q => absurd q (by decide), fun q => absurd (Or.inr ⟨fun y => absurd y g2', fun y => absurd this y⟩) q⟩
        · rw [e, if_neg (by decide)]
          have hz : ¬ pr_f w 4 1 = 0 := fun q => by have := z.mpr q; rw [e] at this; exact absurd this (by decide)
          exact ⟨fun _ q => q.elim g (fun y => g2' (y.mpr hz)), fun _ => rfl⟩
    · have hv : vp_in (nI (pr_cr (pr_f w 1 3))) 32 := vp_in_nI hr (by omega)
      first | exact ⟨fun q => absurd q hne, fun _ => hv⟩ | exact ⟨fun _ => hv, fun q => absurd q hne⟩
theorem pt_c3 : ∀ c, c < 6 → 4 ≤ c → (nI c - (3 : Int32)).toNatClampNeg = pr_cr c ∧ (nI c - (3 : Int32)) = nI (c - 3) := by decide
theorem mf_done (w : Int32) (m : mx_S) (hc : pr_f w 1 3 ≤ 5) : (mm_isDone w m = 0 ↔ ¬ pr_done w m) ∧ q_mm_isDone w m := by
  rw [mm_isDone_eq]
  unfold mm_isDone_b q_mm_isDone pr_done
  rw [pf_cond, pf_z]
  have z1 := pr_flt w 4 1
  have hz : nI (pr_f w 4 1) = 1 ↔ ¬ pr_f w 4 1 = 0 := (nI_eq (b := 1) (by omega) (by omega)).trans (by omega)
  generalize pr_f w 1 3 = c at hc ⊢
  have d10 : ¬ (1 : Int32) = 0 := by decide
  rcases (show c = 0 ∨ c = 1 ∨ c = 2 ∨ c = 3 ∨ c = 4 ∨ c = 5 by omega) with e | e | e | e | e | e <;> subst e
  · have e1 : ¬ (nI 0 : Int32) = 1 := by decide
    have e2 : ¬ (nI 0 : Int32) = 2 := by decide
    have e3 : ¬ (nI 0 : Int32) = 3 := by decide
    have e0 : (nI 0 : Int32) = 0 := by decide
    simp only [e1, e2, e3, e0, if_true, if_false]
    simp
  · have e1 : (nI 1 : Int32) = 1 := by decide
    have e0 : ¬ (nI 1 : Int32) = 0 := by decide
    have i1 : ((16 : Int32)).toNatClampNeg = 16 := by decide
    have i2 : pr_cr 1 = 16 := by decide
    simp only [e1, d10, i1, i2, if_true, if_false]
    have hv : vp_in (16 : Int32) 32 := vp_in_nI (n := 16) (by omega) (by omega)
    show _ ∧ _
    simp only [mx_ga]
    grind
  · have e1 : ¬ (nI 2 : Int32) = 1 := by decide
    have e2 : (nI 2 : Int32) = 2 := by decide
    have e0 : ¬ (2 : Int32) = 0 := by decide
    have e3 : ¬ (2 : Int32) = 1 := by decide
    have i1 : ((17 : Int32)).toNatClampNeg = 17 := by decide
    have i2 : pr_cr 2 = 17 := by decide
    simp only [e2, e3, e0, i1, i2, if_true, if_false]
    have hv : vp_in (17 : Int32) 32 := vp_in_nI (n := 17) (by omega) (by omega)
    simp only [mx_ga]
    grind
  · have e2 : (nI 3 : Int32) = 3 := by decide
    have e0 : ¬ (3 : Int32) = 0 := by decide
    have e3 : ¬ (3 : Int32) = 1 := by decide
    have e4 : ¬ (3 : Int32) = 2 := by decide
    have i1 : ((18 : Int32)).toNatClampNeg = 18 := by decide
    have i2 : pr_cr 3 = 18 := by decide
    simp only [e2, e3, e4, e0, i1, i2, if_true, if_false]
    have hv : vp_in (18 : Int32) 32 := vp_in_nI (n := 18) (by omega) (by omega)
    simp only [mx_ga]
    grind
  · have e2 : (nI 4 : Int32) = 4 := by decide
    have e0 : ¬ (4 : Int32) = 0 := by decide
    have e3 : ¬ (4 : Int32) = 1 := by decide
    have e4 : ¬ (4 : Int32) = 2 := by decide
    have e5 : ¬ (4 : Int32) = 3 := by decide
    have i0 : (4 - 3 : Int32) = 1 := by decide
    have i1 : ((1 : Int32)).toNatClampNeg = 1 := by decide
    have i2 : pr_cr 4 = 1 := by decide
    simp only [e2, e3, e4, e5, e0, i0, i1, i2, if_true, if_false]
    have hv : vp_in (1 : Int32) 32 := vp_in_nI (n := 1) (by omega) (by omega)
    simp only [mx_ga]
    grind
  · have e2 : (nI 5 : Int32) = 5 := by decide
    have e0 : ¬ (5 : Int32) = 0 := by decide
    have e3 : ¬ (5 : Int32) = 1 := by decide
    have e4 : ¬ (5 : Int32) = 2 := by decide
    have e5 : ¬ (5 : Int32) = 3 := by decide
    have i0 : (5 - 3 : Int32) = 2 := by decide
    have i1 : ((2 : Int32)).toNatClampNeg = 2 := by decide
    have i2 : pr_cr 5 = 2 := by decide
    simp only [e2, e3, e4, e5, e0, i0, i1, i2, if_true, if_false]
    have hv : vp_in (2 : Int32) 32 := vp_in_nI (n := 2) (by omega) (by omega)
    simp only [mx_ga]
    grind
theorem pr_done_eq (w : Int32) {x m : mx_S} (h3 : ∀ i, i < 32 → x.2 3 i = m.2 3 i) : pr_done w x ↔ pr_done w m := by
  unfold pr_done
  rw [h3 _ (pr_crlt _)]
