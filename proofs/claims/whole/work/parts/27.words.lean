/-! the word and its fields, as numbers; what both sides read of them -/
def pr_f (w : Int32) (s k : Nat) : Nat := (w.toInt / 2 ^ s % 2 ^ k).toNat
theorem pr_low (x : Int32) (k : Nat) (hk : k ≤ 32) : x.toBitVec.toNat % 2 ^ k = (x.toInt % 2 ^ k).toNat := by
  have h1 : x.toInt = x.toBitVec.toInt := rfl
  rw [h1, BitVec.toInt_eq_toNat_cond]
  have hd : (2 ^ k : Nat) ∣ 2 ^ 32 := Nat.pow_dvd_pow 2 hk
  obtain ⟨q, hq⟩ := hd
  have hlt : x.toBitVec.toNat < 2 ^ 32 := x.toBitVec.isLt
  split
  · norm_cast
  · have e : ((x.toBitVec.toNat : Int) - ((2 ^ 32 : Nat) : Int)) % (2 ^ k : Int) = ((x.toBitVec.toNat % 2 ^ k : Nat) : Int) := by
      rw [hq]
      push_cast
      rw [Int.sub_mul_emod_self_left]
    rw [e]
    rfl
theorem pr_fld (w : Int32) {s : Int32} (n k : Nat) {m : Int32} (hs : (s.toBitVec.smod 32).toNat = n) (hm : m.toBitVec.toNat = 2 ^ k - 1) (hk : k ≤ 32) : (w >>> s) &&& m = nI (pr_f w n k) := by
  rw [pk_and _ k hm, pr_low _ k hk, pk_shr w s n hs]
  unfold pr_f
  rw [Int.shiftRight_eq_div_pow]
  norm_cast
theorem pr_flt (w : Int32) (s k : Nat) : pr_f w s k < 2 ^ k := by
  unfold pr_f
  have h : (0 : Int) < 2 ^ k := Int.pow_pos (by decide)
  have h1 := Int.emod_nonneg (w.toInt / 2 ^ s) (Int.ne_of_gt h)
  have h2 := Int.emod_lt_of_pos (w.toInt / 2 ^ s) h
  exact (Int.toNat_lt h1).mpr (by push_cast; exact h2)
theorem pf_cond (w : Int32) : mm_condition w = nI (pr_f w 1 3) := pr_fld w 1 3 (by decide) (by decide) (by decide)
theorem pf_z (w : Int32) : ((w >>> ((4 : Int32) &&& 31)) &&& (1 : Int32)) = nI (pr_f w 4 1) := pr_fld w 4 1 (by decide) (by decide) (by decide)
theorem pf_unit (w : Int32) : mm_unit w = nI (pr_f w 5 3) := pr_fld w 5 3 (by decide) (by decide) (by decide)
theorem pf_kind (w : Int32) : mm_kind w = nI (pr_f w 5 2) := pr_fld w 5 2 (by decide) (by decide) (by decide)
theorem pf_op (w : Int32) : mm_operation w = nI (pr_f w 8 4) := pr_fld w 8 4 (by decide) (by decide) (by decide)
theorem pf_side (w : Int32) : xw_side w = nI (pr_f w 7 1) := pr_fld w 7 1 (by decide) (by decide) (by decide)
theorem pf_d (w : Int32) : mm_d w = nI (pr_f w 12 5) := pr_fld w 12 5 (by decide) (by decide) (by decide)
theorem pf_a (w : Int32) : mm_a w = nI (pr_f w 17 5) := pr_fld w 17 5 (by decide) (by decide) (by decide)
theorem pf_b (w : Int32) : mm_b w = nI (pr_f w 22 5) := pr_fld w 22 5 (by decide) (by decide) (by decide)
theorem pf_num (w : Int32) : ((w >>> ((27 : Int32) &&& 31)) &&& (1 : Int32)) = nI (pr_f w 27 1) := pr_fld w 27 1 (by decide) (by decide) (by decide)
theorem pf_uk (w : Int32) : pr_f w 5 2 = pr_f w 5 3 % 4 := by unfold pr_f; omega
theorem pf_us (w : Int32) : pr_f w 7 1 = pr_f w 5 3 / 4 := by unfold pr_f; omega
theorem pf_codeT : ∀ k, k < 4 → ∀ o, o < 16 → ((nI k <<< ((4 : Int32) &&& 31)) ||| nI o) = nI (16 * k + o) := by decide
theorem pf_code (w : Int32) : xw_code w = nI (16 * pr_f w 5 2 + pr_f w 8 4) := by
  have h1 : ((w >>> ((5 : Int32) &&& 31)) &&& (3 : Int32)) = nI (pr_f w 5 2) := pf_kind w
  have h2 : ((w >>> ((8 : Int32) &&& 31)) &&& (15 : Int32)) = nI (pr_f w 8 4) := pf_op w
  unfold xw_code
  rw [h1, h2]
  exact pf_codeT _ (pr_flt w 5 2) _ (pr_flt w 8 4)
/-! what the code says -/
theorem pf_isS (w : Int32) (lo hi : Nat) (hl : lo < 16) (hh : hi < 16) : (mm_isS w (nI lo) (nI hi) = 0 ↔ ¬ (pr_f w 5 2 = 1 ∧ lo ≤ pr_f w 8 4 ∧ pr_f w 8 4 ≤ hi)) ∧ (mm_isS w (nI lo) (nI hi) = 0 ∨ mm_isS w (nI lo) (nI hi) = 1) := by
  rw [mm_isS_eq]
  unfold mm_isS_b
  rw [pf_kind, pf_op]
  have k1 := pr_flt w 5 2
  have o1 := pr_flt w 8 4
  have c1 : nI (pr_f w 5 2) = 1 ↔ pr_f w 5 2 = 1 := nI_eq (b := 1) (by omega) (by omega)
  have c2 : nI (pr_f w 8 4) < nI lo ↔ pr_f w 8 4 < lo := nI_ltI (by omega) (by omega)
  have c3 : nI hi < nI (pr_f w 8 4) ↔ hi < pr_f w 8 4 := nI_ltI (by omega) (by omega)
  by_cases g1 : pr_f w 5 2 = 1
  · rw [if_pos (c1.mpr g1)]
    by_cases g2 : pr_f w 8 4 < lo
    · rw [if_pos (c2.mpr g2)]
      exact ⟨⟨fun _ q => by omega, fun _ => rfl⟩, Or.inl rfl⟩
    · rw [if_neg (fun q => g2 (c2.mp q))]
      by_cases g3 : hi < pr_f w 8 4
      · rw [if_pos (c3.mpr g3)]
        exact ⟨⟨fun _ q => by omega, fun _ => rfl⟩, Or.inl rfl⟩
      · rw [if_neg (fun q => g3 (c3.mp q))]
        exact ⟨⟨fun q => absurd q (by decide), fun q => absurd ⟨g1, by omega, by omega⟩ q⟩, Or.inr rfl⟩
  · rw [if_neg (fun q => g1 (c1.mp q))]
    exact ⟨⟨fun _ q => g1 q.1, fun _ => rfl⟩, Or.inl rfl⟩
theorem pt_long : ∀ k, k < 4 → ∀ o, o < 16 → xw_hasLongNumber_b (nI (16 * k + o)) = if k = 1 ∧ 5 ≤ o ∧ o ≤ 7 then 1 else 0 := by decide
theorem pt_hasD : ∀ k, k < 4 → ∀ o, o < 16 → xw_hasD_b (nI (16 * k + o)) = if k = 1 ∧ 7 ≤ o ∧ o ≤ 11 then 0 else 1 := by decide
theorem pt_hasA : ∀ k, k < 4 → ∀ o, o < 16 → xw_hasA_b (nI (16 * k + o)) = if (k = 1 ∧ 5 ≤ o ∧ o ≤ 11) ∨ (k = 0 ∧ o = 9) then 0 else 1 := by decide
theorem pt_op : ∀ k, k < 4 → ∀ o, o < 16 → xw_isOperation_b (nI (16 * k + o)) = if (if k = 0 then 9 else if k = 1 then 11 else 3) < o then 0 else 1 := by decide
theorem pf_long (w : Int32) : xw_hasLongNumber (xw_code w) = 0 ↔ ¬ (pr_f w 5 2 = 1 ∧ 5 ≤ pr_f w 8 4 ∧ pr_f w 8 4 ≤ 7) := by
  rw [xw_hasLongNumber_eq, pf_code, pt_long _ (pr_flt w 5 2) _ (pr_flt w 8 4)]
  by_cases g : pr_f w 5 2 = 1 ∧ 5 ≤ pr_f w 8 4 ∧ pr_f w 8 4 ≤ 7
  · rw [if_pos g]; exact ⟨fun q => absurd q (by decide), fun q => absurd g q⟩
  · rw [if_neg g]; exact ⟨fun _ => g, fun _ => rfl⟩
theorem pf_hasD (w : Int32) : xw_hasD (xw_code w) = 0 ↔ (pr_f w 5 2 = 1 ∧ 7 ≤ pr_f w 8 4 ∧ pr_f w 8 4 ≤ 11) := by
  rw [xw_hasD_eq, pf_code, pt_hasD _ (pr_flt w 5 2) _ (pr_flt w 8 4)]
  by_cases g : pr_f w 5 2 = 1 ∧ 7 ≤ pr_f w 8 4 ∧ pr_f w 8 4 ≤ 11
  · rw [if_pos g]; exact ⟨fun _ => g, fun _ => rfl⟩
  · rw [if_neg g]; exact ⟨fun q => absurd q (by decide), fun q => absurd q g⟩
theorem pf_hasA (w : Int32) : xw_hasA (xw_code w) = 0 ↔ ((pr_f w 5 2 = 1 ∧ 5 ≤ pr_f w 8 4 ∧ pr_f w 8 4 ≤ 11) ∨ (pr_f w 5 2 = 0 ∧ pr_f w 8 4 = 9)) := by
  rw [xw_hasA_eq, pf_code, pt_hasA _ (pr_flt w 5 2) _ (pr_flt w 8 4)]
  by_cases g : (pr_f w 5 2 = 1 ∧ 5 ≤ pr_f w 8 4 ∧ pr_f w 8 4 ≤ 11) ∨ (pr_f w 5 2 = 0 ∧ pr_f w 8 4 = 9)
  · rw [if_pos g]; exact ⟨fun _ => g, fun _ => rfl⟩
  · rw [if_neg g]; exact ⟨fun q => absurd q (by decide), fun q => absurd q g⟩
theorem pf_oper (w : Int32) : xw_isOperation (xw_code w) = 0 ↔ (if pr_f w 5 2 = 0 then 9 else if pr_f w 5 2 = 1 then 11 else 3) < pr_f w 8 4 := by
  rw [xw_isOperation_eq, pf_code, pt_op _ (pr_flt w 5 2) _ (pr_flt w 8 4)]
  by_cases g : (if pr_f w 5 2 = 0 then 9 else if pr_f w 5 2 = 1 then 11 else 3) < pr_f w 8 4
  · rw [if_pos g]; exact ⟨fun _ => g, fun _ => rfl⟩
  · rw [if_neg g]; exact ⟨fun q => absurd q (by decide), fun q => absurd q g⟩
theorem mf_hasD (w : Int32) : mm_hasD w = 0 ↔ (pr_f w 5 2 = 1 ∧ 7 ≤ pr_f w 8 4 ∧ pr_f w 8 4 ≤ 11) := by
  obtain ⟨h1, h2⟩ := pf_isS w 7 11 (by omega) (by omega)
  rw [mm_hasD_eq]
  unfold mm_hasD_b
  have e : mm_isS w 7 11 = mm_isS w (nI 7) (nI 11) := rfl
  rw [e]
  by_cases g : mm_isS w (nI 7) (nI 11) = 0
  · rw [if_pos g]; exact ⟨fun q => absurd q (by decide), fun q => absurd q (h1.mp g)⟩
  · rw [if_neg g]; exact ⟨fun _ => Classical.byContradiction (fun q => g (h1.mpr q)), fun _ => rfl⟩
theorem mf_hasA (w : Int32) : mm_hasA w = 0 ↔ ((pr_f w 5 2 = 1 ∧ 5 ≤ pr_f w 8 4 ∧ pr_f w 8 4 ≤ 11) ∨ (pr_f w 5 2 = 0 ∧ pr_f w 8 4 = 9)) := by
  obtain ⟨h1, h2⟩ := pf_isS w 5 11 (by omega) (by omega)
  rw [mm_hasA_eq]
  unfold mm_hasA_b
  have e : mm_isS w 5 11 = mm_isS w (nI 5) (nI 11) := rfl
  rw [e, pf_kind, pf_op]
  have k1 := pr_flt w 5 2
  have o1 := pr_flt w 8 4
  have c1 : nI (pr_f w 5 2) = 0 ↔ pr_f w 5 2 = 0 := nI_eq (b := 0) (by omega) (by omega)
  have c2 : nI (pr_f w 8 4) = 9 ↔ pr_f w 8 4 = 9 := nI_eq (b := 9) (by omega) (by omega)
  by_cases g : mm_isS w (nI 5) (nI 11) = 0
  · rw [if_pos g]
    have g' := h1.mp g
    by_cases g1 : pr_f w 5 2 = 0
    · rw [if_pos (c1.mpr g1)]
      by_cases g2 : pr_f w 8 4 = 9
      · rw [if_pos (c2.mpr g2)]; exact ⟨fun _ => Or.inr ⟨g1, g2⟩, fun _ => rfl⟩
      · rw [if_neg (fun q => g2 (c2.mp q))]; exact ⟨fun q => absurd q (by decide), fun q => q.elim (fun z => absurd z g') (fun z => absurd z.2 g2)⟩
    · rw [if_neg (fun q => g1 (c1.mp q))]; exact ⟨fun q => absurd q (by decide), fun q => q.elim (fun z => absurd z g') (fun z => absurd z.1 g1)⟩
  · rw [if_neg g]; exact ⟨fun _ => Or.inl (Classical.byContradiction (fun q => g (h1.mpr q))), fun _ => rfl⟩
/-! sides -/
theorem pt_shr4 : ∀ r, r < 32 → nI r >>> ((4 : Int32) &&& 31) = nI (r / 16) := by decide
theorem pt_div16 : ∀ r, r < 32 → nI r / 16 = nI (r / 16) := by decide
theorem pt_div4 : ∀ r, r < 8 → nI r / 4 = nI (r / 4) := by decide
theorem mf_other (w : Int32) (r : Nat) (hr : r < 32) : mm_isOther (nI r) w = 0 ↔ r / 16 = pr_f w 7 1 := by
  rw [mm_isOther_eq]
  unfold mm_isOther_b
  have u1 := pr_flt w 5 3
  rw [pf_unit, pt_div16 r hr, pt_div4 _ u1, pf_us]
  have c : nI (r / 16) = nI (pr_f w 5 3 / 4) ↔ r / 16 = pr_f w 5 3 / 4 := nI_eq (by omega) (by omega)
  by_cases g : r / 16 = pr_f w 5 3 / 4
  · rw [if_pos (c.mpr g)]; exact ⟨fun _ => g, fun _ => rfl⟩
  · rw [if_neg (fun q => g (c.mp q))]; exact ⟨fun q => absurd q (by decide), fun q => absurd q g⟩
theorem xf_same (w : Int32) (r : Nat) (hr : r < 32) : (nI r >>> ((4 : Int32) &&& 31)) = (xw_side w) ↔ r / 16 = pr_f w 7 1 := by
  have s1 := pr_flt w 7 1
  rw [pt_shr4 r hr, pf_side]
  exact nI_eq (by omega) (by omega)
/-- ill formed, in numbers -/
def pr_ill (w : Int32) : Prop := 5 < pr_f w 1 3 ∨ (pr_f w 1 3 = 0 ∧ ¬ pr_f w 4 1 = 0) ∨ (if pr_f w 5 2 = 0 then 9 else if pr_f w 5 2 = 1 then 11 else 3) < pr_f w 8 4 ∨ (¬ (w.toUInt32 >>> ((28 : Int32).toUInt32 &&& Int32.toUInt32 31)).toInt32 = 0 ∧ ¬ (pr_f w 5 2 = 1 ∧ 5 ≤ pr_f w 8 4 ∧ pr_f w 8 4 ≤ 7)) ∨ (¬ (pr_f w 5 2 = 1 ∧ 7 ≤ pr_f w 8 4 ∧ pr_f w 8 4 ≤ 11) ∧ ¬ pr_f w 12 5 / 16 = pr_f w 7 1) ∨ (¬ ((pr_f w 5 2 = 1 ∧ 5 ≤ pr_f w 8 4 ∧ pr_f w 8 4 ≤ 11) ∨ (pr_f w 5 2 = 0 ∧ pr_f w 8 4 = 9)) ∧ ¬ pr_f w 17 5 / 16 = pr_f w 7 1)
theorem xf_onz (w : Int32) : xw_isOnZero w = 0 ↔ pr_f w 4 1 = 0 := by
  rw [xw_isOnZero_eq]
  unfold xw_isOnZero_b
  have z1 := pr_flt w 4 1
  have c : nI (pr_f w 4 1) = 0 ↔ pr_f w 4 1 = 0 := nI_eq (b := 0) (by omega) (by omega)
  rw [pf_z]
  by_cases g : pr_f w 4 1 = 0
  · rw [if_pos (c.mpr g)]; exact ⟨fun _ => g, fun _ => rfl⟩
  · rw [if_neg (fun q => g (c.mp q))]; exact ⟨fun q => absurd q (by decide), fun q => absurd q g⟩
set_option maxHeartbeats 4000000 in
theorem xf_ill (w : Int32) : xw_isIllFormed w = 0 ↔ ¬ pr_ill w := by
  rw [xw_isIllFormed_eq]
  unfold xw_isIllFormed_b pr_ill
  have hc : ((w >>> ((1 : Int32) &&& 31)) &&& (7 : Int32)) = nI (pr_f w 1 3) := pf_cond w
  have ed : xw_d w = nI (pr_f w 12 5) := pf_d w
  have ea : xw_a w = nI (pr_f w 17 5) := pf_a w
  have c0 := pr_flt w 1 3
  have h1 : (5 : Int32) < nI (pr_f w 1 3) ↔ 5 < pr_f w 1 3 := nI_ltI (a := 5) (by omega) (by omega)
  have h2 : nI (pr_f w 1 3) = 0 ↔ pr_f w 1 3 = 0 := nI_eq (b := 0) (by omega) (by omega)
  have h3 := xf_onz w
  have h4 := pf_oper w
  have h5 := pf_hasD w
  have h6 := pf_hasA w
  have h7 := pf_long w
  have h8 := xf_same w (pr_f w 12 5) (pr_flt w 12 5)
  have h9 := xf_same w (pr_f w 17 5) (pr_flt w 17 5)
  rw [hc, ed, ea]
  generalize (w.toUInt32 >>> ((28 : Int32).toUInt32 &&& Int32.toUInt32 31)).toInt32 = odd
  generalize hP4 : ((if pr_f w 5 2 = 0 then 9 else if pr_f w 5 2 = 1 then 11 else 3) < pr_f w 8 4) = P4 at h4 ⊢
  generalize hP5 : (pr_f w 5 2 = 1 ∧ 7 ≤ pr_f w 8 4 ∧ pr_f w 8 4 ≤ 11) = P5 at h5 ⊢
  generalize hP6 : ((pr_f w 5 2 = 1 ∧ 5 ≤ pr_f w 8 4 ∧ pr_f w 8 4 ≤ 11) ∨ (pr_f w 5 2 = 0 ∧ pr_f w 8 4 = 9)) = P6 at h6 ⊢
  generalize hP7 : (pr_f w 5 2 = 1 ∧ 5 ≤ pr_f w 8 4 ∧ pr_f w 8 4 ≤ 7) = P7 at h7 ⊢
  generalize hP8 : (pr_f w 12 5 / 16 = pr_f w 7 1) = P8 at h8 ⊢
  generalize hP9 : (pr_f w 17 5 / 16 = pr_f w 7 1) = P9 at h9 ⊢
  generalize xw_isOperation (xw_code w) = v4 at h4 ⊢
  generalize xw_hasD (xw_code w) = v5 at h5 ⊢
  generalize xw_hasA (xw_code w) = v6 at h6 ⊢
  generalize xw_hasLongNumber (xw_code w) = v7 at h7 ⊢
  generalize xw_isOnZero w = v3 at h3 ⊢
  generalize (nI (pr_f w 12 5) >>> ((4 : Int32) &&& 31)) = v8 at h8 ⊢
  generalize (nI (pr_f w 17 5) >>> ((4 : Int32) &&& 31)) = v9 at h9 ⊢
  generalize xw_side w = vs at h8 h9 ⊢
  generalize hQ1 : (5 < pr_f w 1 3) = Q1 at h1 ⊢
  generalize hQ2 : (pr_f w 1 3 = 0) = Q2 at h2 ⊢
  generalize hQ3 : (pr_f w 4 1 = 0) = Q3 at h3 ⊢
  generalize nI (pr_f w 1 3) = vc at h1 h2 ⊢
  clear hc ed ea c0 hP4 hP5 hP6 hP7 hP8 hP9 hQ1 hQ2 hQ3
  have d10 : ¬ (1 : Int32) = 0 := by decide
  grind
