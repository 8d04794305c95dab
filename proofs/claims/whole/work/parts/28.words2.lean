/-! the Model's readings of a word -/
set_option maxHeartbeats 8000000 in
theorem mf_ill (w : Int32) : mm_isIll w = 0 ↔ ¬ pr_ill w := by
  rw [mm_isIll_eq]
  unfold mm_isIll_b pr_ill
  have ed := pf_d w
  have ea := pf_a w
  have ek := pf_kind w
  have eo := pf_op w
  have ec := pf_cond w
  have ez := pf_z w
  have c0 := pr_flt w 1 3
  have k0 := pr_flt w 5 2
  have o0 := pr_flt w 8 4
  have z0 := pr_flt w 4 1
  have h1 : (5 : Int32) < nI (pr_f w 1 3) ↔ 5 < pr_f w 1 3 := nI_ltI (a := 5) (by omega) (by omega)
  have h2 : nI (pr_f w 1 3) = 0 ↔ pr_f w 1 3 = 0 := nI_eq (b := 0) (by omega) (by omega)
  have h3 : nI (pr_f w 4 1) = 1 ↔ ¬ pr_f w 4 1 = 0 := (nI_eq (b := 1) (by omega) (by omega)).trans (by omega)
  have h4 : nI (pr_f w 5 2) = 0 ↔ pr_f w 5 2 = 0 := nI_eq (b := 0) (by omega) (by omega)
  have h4b : nI (pr_f w 5 2) = 1 ↔ pr_f w 5 2 = 1 := nI_eq (b := 1) (by omega) (by omega)
  have h5 : (9 : Int32) < nI (pr_f w 8 4) ↔ 9 < pr_f w 8 4 := nI_ltI (a := 9) (by omega) (by omega)
  have h5b : (11 : Int32) < nI (pr_f w 8 4) ↔ 11 < pr_f w 8 4 := nI_ltI (a := 11) (by omega) (by omega)
  have h5c : (3 : Int32) < nI (pr_f w 8 4) ↔ 3 < pr_f w 8 4 := nI_ltI (a := 3) (by omega) (by omega)
  have h6 := mf_hasD w
  have h7 := mf_hasA w
  have h8 := mf_other w (pr_f w 12 5) (pr_flt w 12 5)
  have h9 := mf_other w (pr_f w 17 5) (pr_flt w 17 5)
  have h10 : mm_isS w 5 7 = 0 ↔ ¬ (pr_f w 5 2 = 1 ∧ 5 ≤ pr_f w 8 4 ∧ pr_f w 8 4 ≤ 7) := (pf_isS w 5 7 (by omega) (by omega)).1
  rw [ed, ea, ek, eo, ec, ez]
  generalize (w.toUInt32 >>> ((28 : Int32).toUInt32 &&& Int32.toUInt32 31)).toInt32 = odd
  have hP4 : ((if pr_f w 5 2 = 0 then 9 else if pr_f w 5 2 = 1 then 11 else 3) < pr_f w 8 4) ↔ ((pr_f w 5 2 = 0 ∧ 9 < pr_f w 8 4) ∨ (¬ pr_f w 5 2 = 0 ∧ pr_f w 5 2 = 1 ∧ 11 < pr_f w 8 4) ∨ (¬ pr_f w 5 2 = 0 ∧ ¬ pr_f w 5 2 = 1 ∧ 3 < pr_f w 8 4)) := by
    by_cases g : pr_f w 5 2 = 0
    · simp [g]
    · by_cases g1 : pr_f w 5 2 = 1
      · simp [g1]
      · simp [g, g1]
  rw [hP4]
  clear hP4
  generalize hP5 : (pr_f w 5 2 = 1 ∧ 7 ≤ pr_f w 8 4 ∧ pr_f w 8 4 ≤ 11) = P5 at h6 ⊢
  generalize hP6 : ((pr_f w 5 2 = 1 ∧ 5 ≤ pr_f w 8 4 ∧ pr_f w 8 4 ≤ 11) ∨ (pr_f w 5 2 = 0 ∧ pr_f w 8 4 = 9)) = P6 at h7 ⊢
  generalize hP7 : (pr_f w 5 2 = 1 ∧ 5 ≤ pr_f w 8 4 ∧ pr_f w 8 4 ≤ 7) = P7 at h10 ⊢
  generalize hP8 : (pr_f w 12 5 / 16 = pr_f w 7 1) = P8 at h8 ⊢
  generalize hP9 : (pr_f w 17 5 / 16 = pr_f w 7 1) = P9 at h9 ⊢
  generalize hR1 : (9 < pr_f w 8 4) = R1 at h5 ⊢
  generalize hR2 : (11 < pr_f w 8 4) = R2 at h5b ⊢
  generalize hR3 : (3 < pr_f w 8 4) = R3 at h5c ⊢
  generalize hR4 : (pr_f w 5 2 = 0) = R4 at h4 ⊢
  generalize hR5 : (pr_f w 5 2 = 1) = R5 at h4b ⊢
  generalize mm_hasD w = v5 at h6 ⊢
  generalize mm_hasA w = v6 at h7 ⊢
  generalize mm_isS w 5 7 = v7 at h10 ⊢
  generalize mm_isOther (nI (pr_f w 12 5)) w = v8 at h8 ⊢
  generalize mm_isOther (nI (pr_f w 17 5)) w = v9 at h9 ⊢
  generalize hQ1 : (5 < pr_f w 1 3) = Q1 at h1 ⊢
  generalize hQ2 : (pr_f w 1 3 = 0) = Q2 at h2 ⊢
  generalize hQ3 : (pr_f w 4 1 = 0) = Q3 at h3 ⊢
  generalize nI (pr_f w 1 3) = vc at h1 h2 ⊢
  generalize nI (pr_f w 4 1) = vz at h3 ⊢
  generalize nI (pr_f w 5 2) = vk at h4 h4b ⊢
  generalize nI (pr_f w 8 4) = vo at h5 h5b h5c ⊢
  clear ed ea ek eo ec ez c0 k0 o0 z0 hP5 hP6 hP7 hP8 hP9 hQ1 hQ2 hQ3 hR1 hR2 hR3 hR4 hR5
  have d10 : ¬ (1 : Int32) = 0 := by decide
  grind (splits := 40)
/-! a word has a register b of the other side -/
theorem pt_hasB : ∀ k, k < 4 → ∀ o, o < 16 → xw_hasLongNumber_b (nI (16 * k + o)) = 0 → (if nI (16 * k + o) = 25 then (0 : Int32) else if nI (16 * k + o) = 27 then 0 else 1) = if k = 1 ∧ (o = 9 ∨ o = 11) then 0 else 1 := by decide
theorem xf_hasB (w : Int32) : xw_hasB (xw_code w) = 0 ↔ (pr_f w 5 2 = 1 ∧ ((5 ≤ pr_f w 8 4 ∧ pr_f w 8 4 ≤ 7) ∨ pr_f w 8 4 = 9 ∨ pr_f w 8 4 = 11)) := by
  rw [xw_hasB_eq]
  unfold xw_hasB_b
  have hl := pf_long w
  by_cases g : xw_hasLongNumber (xw_code w) = 0
  · rw [if_pos g]
    have g2 := g
    rw [xw_hasLongNumber_eq, pf_code] at g2
    rw [pf_code, pt_hasB _ (pr_flt w 5 2) _ (pr_flt w 8 4) g2]
    have g3 := hl.mp g
    by_cases g4 : pr_f w 5 2 = 1 ∧ (pr_f w 8 4 = 9 ∨ pr_f w 8 4 = 11)
    · rw [if_pos g4]; exact ⟨fun _ => ⟨g4.1, Or.inr g4.2⟩, fun _ => rfl⟩
    · rw [if_neg g4]; exact ⟨fun q => absurd q (by decide), fun q => by omega⟩
  · rw [if_neg g]
    have g3 : (pr_f w 5 2 = 1 ∧ 5 ≤ pr_f w 8 4 ∧ pr_f w 8 4 ≤ 7) := Classical.byContradiction (fun q => g (hl.mpr q))
    exact ⟨fun _ => ⟨g3.1, Or.inl g3.2⟩, fun _ => rfl⟩
theorem mf_hasB (w : Int32) : mm_hasB w = 0 ↔ (pr_f w 5 2 = 1 ∧ ((5 ≤ pr_f w 8 4 ∧ pr_f w 8 4 ≤ 7) ∨ pr_f w 8 4 = 9 ∨ pr_f w 8 4 = 11)) := by
  rw [mm_hasB_eq]
  unfold mm_hasB_b
  have h1 : mm_isS w 5 7 = 0 ↔ _ := (pf_isS w 5 7 (by omega) (by omega)).1
  have h2 : mm_isS w 9 9 = 0 ↔ _ := (pf_isS w 9 9 (by omega) (by omega)).1
  have h3 : mm_isS w 11 11 = 0 ↔ _ := (pf_isS w 11 11 (by omega) (by omega)).1
  by_cases g1 : mm_isS w 5 7 = 0
  · rw [if_pos g1]
    have g1' := h1.mp g1
    by_cases g2 : mm_isS w 9 9 = 0
    · rw [if_pos g2]
      have g2' := h2.mp g2
      by_cases g3 : mm_isS w 11 11 = 0
      · rw [if_pos g3]
        have g3' := h3.mp g3
        exact ⟨fun q => absurd q (by decide), fun q => by omega⟩
      · rw [if_neg g3]
        have g3' := Classical.byContradiction (fun q => g3 (h3.mpr q))
        exact ⟨fun _ => ⟨g3'.1, Or.inr (Or.inr (by omega))⟩, fun _ => rfl⟩
    · rw [if_neg g2]
      have g2' := Classical.byContradiction (fun q => g2 (h2.mpr q))
      exact ⟨fun _ => ⟨g2'.1, Or.inr (Or.inl (by omega))⟩, fun _ => rfl⟩
  · rw [if_neg g1]
    have g1' := Classical.byContradiction (fun q => g1 (h1.mpr q))
    exact ⟨fun _ => ⟨g1'.1, Or.inl g1'.2⟩, fun _ => rfl⟩
theorem xf_isNum (w : Int32) : xw_isNumberB w = 0 ↔ pr_f w 27 1 = 0 := by
  rw [xw_isNumberB_eq]
  unfold xw_isNumberB_b
  have z1 := pr_flt w 27 1
  have c : nI (pr_f w 27 1) = 0 ↔ pr_f w 27 1 = 0 := nI_eq (b := 0) (by omega) (by omega)
  rw [pf_num]
  by_cases g : pr_f w 27 1 = 0
  · rw [if_pos (c.mpr g)]; exact ⟨fun _ => g, fun _ => rfl⟩
  · rw [if_neg (fun q => g (c.mp q))]; exact ⟨fun q => absurd q (by decide), fun q => absurd q g⟩
theorem mf_isNum (w : Int32) : mm_isNumber w = 0 ↔ pr_f w 27 1 = 0 := by
  rw [mm_isNumber_eq]
  unfold mm_isNumber_b
  have z1 := pr_flt w 27 1
  have c : nI (pr_f w 27 1) = 1 ↔ ¬ pr_f w 27 1 = 0 := (nI_eq (b := 1) (by omega) (by omega)).trans (by omega)
  rw [pf_num]
  by_cases g : pr_f w 27 1 = 0
  · rw [if_neg (fun q => (c.mp q) g)]; exact ⟨fun _ => g, fun _ => rfl⟩
  · rw [if_pos (c.mpr g)]; exact ⟨fun q => absurd q (by decide), fun q => absurd q g⟩
def pr_cross (w : Int32) : Prop := ¬ (pr_f w 5 2 = 1 ∧ ((5 ≤ pr_f w 8 4 ∧ pr_f w 8 4 ≤ 7) ∨ pr_f w 8 4 = 9 ∨ pr_f w 8 4 = 11)) ∧ pr_f w 27 1 = 0 ∧ ¬ pr_f w 22 5 / 16 = pr_f w 7 1
theorem xf_cross (w : Int32) : xw_crosses w = 0 ↔ ¬ pr_cross w := by
  rw [xw_crosses_eq]
  unfold xw_crosses_b pr_cross
  have h1 := xf_hasB w
  have h2 := xf_isNum w
  have eb : xw_b w = nI (pr_f w 22 5) := pf_b w
  have h3 := xf_same w (pr_f w 22 5) (pr_flt w 22 5)
  rw [eb]
  generalize hP1 : (pr_f w 5 2 = 1 ∧ ((5 ≤ pr_f w 8 4 ∧ pr_f w 8 4 ≤ 7) ∨ pr_f w 8 4 = 9 ∨ pr_f w 8 4 = 11)) = P1 at h1 ⊢
  generalize hP2 : (pr_f w 27 1 = 0) = P2 at h2 ⊢
  generalize hP3 : (pr_f w 22 5 / 16 = pr_f w 7 1) = P3 at h3 ⊢
  have d10 : ¬ (1 : Int32) = 0 := by decide
  clear hP1 hP2 hP3 eb
  grind
/-! the second operand, as a number in the word -/
theorem pt_num : ∀ b, b < 32 → (if nI b ≤ 15 then (nI b - (0 : Int32)) else (nI b - (32 : Int32))) = if b ≤ 15 then nI b else nI b - 32 := by decide
theorem pf_numB (w : Int32) : (xw_numberB w).toInt = if pr_f w 22 5 ≤ 15 then (pr_f w 22 5 : Int) else (pr_f w 22 5 : Int) - 32 := by
  unfold xw_numberB
  rw [pk_shr _ _ 27 (by decide)]
  have hsh := pk_shl w ((5 : Int32) &&& 31) 5 (by decide)
  have h1 : (w <<< ((5 : Int32) &&& 31)).toInt = (w <<< ((5 : Int32) &&& 31)).toBitVec.toInt := rfl
  rw [h1, BitVec.toInt_eq_toNat_cond, hsh, Int.shiftRight_eq_div_pow]
  have hw : (w.toBitVec.toNat : Int) = w.toInt ∨ (w.toBitVec.toNat : Int) = w.toInt + 4294967296 := by
    have h2 : w.toInt = w.toBitVec.toInt := rfl
    rw [h2, BitVec.toInt_eq_toNat_cond]
    split <;> omega
  unfold pr_f
  split <;> split <;> omega
theorem pf_second (w : Int32) (x m : mx_S) (h3 : ∀ i, i < 32 → x.2 3 i = m.2 3 i) : xm_operandB w x = mm_second w m := by
  rw [xm_operandB_eq, mm_second_eq]
  unfold xm_operandB_b mm_second_b
  have b1 := pr_flt w 22 5
  have eb : xw_b w = nI (pr_f w 22 5) := pf_b w
  have eb2 : mm_b w = nI (pr_f w 22 5) := pf_b w
  rw [eb, eb2, nI_clamp (by omega)]
  by_cases g : pr_f w 27 1 = 0
  · rw [if_pos ((xf_isNum w).mpr g), if_pos ((mf_isNum w).mpr g)]
    exact h3 _ b1
  · rw [if_neg (fun q => g ((xf_isNum w).mp q)), if_neg (fun q => g ((mf_isNum w).mp q)), pt_num _ b1]
    apply Int32.toInt_inj.mp
    rw [pf_numB]
    by_cases g2 : pr_f w 22 5 ≤ 15
    · rw [if_pos g2, if_pos g2, nI_toInt (by omega)]
    · rw [if_neg g2, if_neg g2, show (32 : Int32) = nI 32 from rfl, pk_sub_toInt (by omega) (by omega)]
      rfl
