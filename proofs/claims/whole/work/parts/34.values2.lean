/-! products, HIGH, LOAD; the value of any word that writes -/
theorem pv_rng (x : Int32) : -32768 ≤ x.toInt16.toInt32.toInt ∧ x.toInt16.toInt32.toInt ≤ 32767 := by
  rw [Int16.toInt_toInt32]
  have h1 := Int16.le_toInt x.toInt16
  have h2 := Int16.toInt_lt x.toInt16
  omega
theorem pv_mulB {x y : Int} (hx : -32768 ≤ x ∧ x ≤ 32767) (hy : -32768 ≤ y ∧ y ≤ 32767) : -1073741824 ≤ x * y ∧ x * y ≤ 1073741824 := by
  have h1 : x.natAbs ≤ 32768 := by omega
  have h2 : y.natAbs ≤ 32768 := by omega
  have h3 := Nat.mul_le_mul h1 h2
  rw [← Int.natAbs_mul] at h3
  omega
theorem pv_prod (a b : Int32) : -1073741824 ≤ (a.toInt16.toInt32 * b.toInt16.toInt32).toInt ∧ (a.toInt16.toInt32 * b.toInt16.toInt32).toInt ≤ 1073741824 := by
  have h := pv_mulB (pv_rng a) (pv_rng b)
  rw [Int32.toInt_mul, Int.bmod_eq_of_le (by omega) (by omega)]
  exact h
theorem pv_near (p : Int32) (h : -1073741824 ≤ p.toInt ∧ p.toInt ≤ 1073741824) : xv_nearestInt (2 * p.toInt64) = if p = 1073741824 then 2147483647 else (2 : Int32) * p := by
  rw [xv_nearestInt_eq]
  unfold xv_nearestInt_b
  have e : (2 * p.toInt64).toInt = 2 * p.toInt := by
    rw [Int64.toInt_mul, Int32.toInt_toInt64, show (2 : Int64).toInt = 2 from by decide, Int.bmod_eq_of_le (by omega) (by omega)]
  have c0 : p = 1073741824 ↔ p.toInt = 1073741824 := by
    rw [← Int32.toInt_inj, show (1073741824 : Int32).toInt = 1073741824 from by decide]
  have c1 : lg_cmp (2 * p.toInt64) 2147483647 ≤ 0 ↔ 2 * p.toInt ≤ 2147483647 := by
    rw [lg_cmp_le, Int64.le_iff_toInt_le, e, show (2147483647 : Int64).toInt = 2147483647 from by decide]
  have c2 : 0 ≤ lg_cmp (2 * p.toInt64) (-2147483648) ↔ -2147483648 ≤ 2 * p.toInt := by
    rw [lg_cmp_ge, Int64.le_iff_toInt_le, e, show (-2147483648 : Int64).toInt = -2147483648 from by decide]
  by_cases g : p = 1073741824
  · have := c0.mp g
    rw [if_pos g, if_neg (fun q => by have := c1.mp q; omega)]
  · have : ¬ p.toInt = 1073741824 := fun q => g (c0.mpr q)
    rw [if_neg g, if_pos (c1.mpr (by omega)), if_pos (c2.mpr (by omega))]
    apply Int32.toInt_inj.mp
    rw [Int64.toInt_toInt32, e, Int32.toInt_mul, show (2 : Int32).toInt = 2 from by decide]
theorem pv_M (a b : Int32) {o : Nat} (ho : o ≤ 3) : xv_ofM (nI (32 + o)) a b = mm_product (nI o) a b := by
  rw [xv_ofM_eq, mm_product_eq]
  unfold xv_ofM_b mm_product_b
  rw [pv_near _ (pv_prod a b)]
  rcases (show o = 0 ∨ o = 1 ∨ o = 2 ∨ o = 3 by omega) with e | e | e | e <;> subst e <;> simp (decide := true)
theorem pv_high (n : Int32) : n * (65536 : Int32) = n <<< ((16 : Int32) &&& 31) := by
  apply Int32.toBitVec_inj.mp
  apply BitVec.eq_of_toNat_eq
  rw [pk_shl n _ 16 (by decide), Int32.toBitVec_mul, BitVec.toNat_mul]
  rfl
theorem pv_val {np nd : Nat} {w : Int32} {x m : mx_S} (h3 : ∀ i, i < 32 → x.2 3 i = m.2 3 i) (hil : ¬ pr_ill w) (hc : ¬ (pr_f w 5 2 = 1 ∧ 7 ≤ pr_f w 8 4)) (hd : ¬ (pr_f w 5 2 = 3 ∧ 2 ≤ pr_f w 8 4)) :
    xm_valueOf np nd w x = mm_works w m ∧ q_xm_valueOf np nd w x ∧ q_mm_works w m := by
  have ho := pr_ill_o hil
  have k0 := pr_flt w 5 2
  have o0 := pr_flt w 8 4
  have ed : xw_d w = nI (pr_f w 12 5) := pf_d w
  have ea : xw_a w = nI (pr_f w 17 5) := pf_a w
  have d0 := pr_flt w 12 5
  have a0 := pr_flt w 17 5
  have ek : xw_kind w = nI (pr_f w 5 2) := pf_kind w
  have ek2 : mm_kind w = nI (pr_f w 5 2) := pf_kind w
  have eo : mm_operation w = nI (pr_f w 8 4) := pf_op w
  have ec := pf_code w
  have hB := mf_hasB w
  have eA : mx_ga x 3 (pr_f w 17 5) = mx_ga m 3 (pr_f w 17 5) := h3 _ a0
  have eD : mx_ga x 3 (pr_f w 12 5) = mx_ga m 3 (pr_f w 12 5) := h3 _ d0
  have ea2 : mm_a w = nI (pr_f w 17 5) := pf_a w
  have ed2 : mm_d w = nI (pr_f w 12 5) := pf_d w
  have eS := pf_second w x m h3
  rw [xm_valueOf_eq, mm_works_eq]
  unfold xm_valueOf_b mm_works_b q_xm_valueOf q_mm_works
  rw [ed, ea, ea2, nI_clamp (show pr_f w 12 5 < 2 ^ 31 by omega), nI_clamp (show pr_f w 17 5 < 2 ^ 31 by omega), ek, ek2, ec, eA, eD, eS]
  have cc : ∀ c, c < 64 → (nI (16 * pr_f w 5 2 + pr_f w 8 4) = nI c ↔ 16 * pr_f w 5 2 + pr_f w 8 4 = c) := fun c h => nI_eq (by omega) (by omega)
  have c21 : nI (16 * pr_f w 5 2 + pr_f w 8 4) = 21 ↔ 16 * pr_f w 5 2 + pr_f w 8 4 = 21 := cc 21 (by omega)
  have c22 : nI (16 * pr_f w 5 2 + pr_f w 8 4) = 22 ↔ 16 * pr_f w 5 2 + pr_f w 8 4 = 22 := cc 22 (by omega)
  have c50 : nI (16 * pr_f w 5 2 + pr_f w 8 4) = 50 ↔ 16 * pr_f w 5 2 + pr_f w 8 4 = 50 := cc 50 (by omega)
  have hk : pr_f w 5 2 = 0 ∨ pr_f w 5 2 = 1 ∨ pr_f w 5 2 = 2 ∨ pr_f w 5 2 = 3 := by omega
  rcases hk with hk | hk | hk | hk
  · rw [hk] at ho c21 c22 c50 ⊢
    rw [if_pos rfl] at ho
    have n21 : ¬ nI (16 * 0 + pr_f w 8 4) = 21 := fun q => by have := c21.mp q; omega
    have n22 : ¬ nI (16 * 0 + pr_f w 8 4) = 22 := fun q => by have := c22.mp q; omega
    have n50 : ¬ nI (16 * 0 + pr_f w 8 4) = 50 := fun q => by have := c50.mp q; omega
    have nB : ¬ mm_hasB w = 0 := fun q => by have := (hB.mp q).1; omega
    have e00 : nI 0 = 0 := rfl
    obtain ⟨l1, l2, l3⟩ := pv_L np nd x ho (mx_ga m 3 (pr_f w 17 5)) (mm_second w m)
    obtain ⟨-, -, l4⟩ := pv_L np nd m ho (mx_ga m 3 (pr_f w 17 5)) (mm_second w m)
    have z : 16 * 0 + pr_f w 8 4 = pr_f w 8 4 := by omega
    rw [if_neg n21, if_neg n22, if_neg n50, if_pos e00, if_neg nB, if_pos e00, eo, z]
    rw [z] at n21 n22 n50
    exact ⟨l1, ⟨fun q => absurd q n21, fun _ => ⟨fun q => absurd q n22, fun _ => ⟨fun q => absurd q n50, fun _ => ⟨fun _ => l2, fun q => absurd e00 q⟩⟩⟩⟩, ⟨fun q => absurd q nB, fun _ => ⟨fun q => absurd e00 q, fun _ => l4⟩⟩⟩
  · rw [hk] at ho c21 c22 c50 ⊢
    rw [if_neg (by omega), if_pos rfl] at ho
    have n50 : ¬ nI (16 * 1 + pr_f w 8 4) = 50 := fun q => by have := c50.mp q; omega
    have e00 : ¬ nI 1 = 0 := by decide
    have e11 : nI 1 = 1 := rfl
    rw [if_neg n50, if_neg e00, if_pos e11, if_neg e00, if_pos e11, if_neg e00, if_pos e11]
    refine ⟨?_, ⟨fun _ => trivial, fun _ => ⟨fun _ => trivial, fun _ => ⟨fun q => absurd q n50, fun _ => ⟨fun q => absurd q e00, fun _ => ⟨fun _ => trivial, fun q => absurd e11 q⟩⟩⟩⟩⟩, ⟨fun _ => ⟨fun _ => trivial, fun q => absurd q e00⟩, fun _ => ⟨fun _ => trivial, fun q => absurd q e00⟩⟩⟩
    have hsh : ∀ b, pr_f w 8 4 = 5 → mm_shift w (mx_ga m 3 (pr_f w 17 5)) b m = xw_number w := fun b q => by
      rw [mm_shift_eq]
      unfold mm_shift_b
      rw [eo, q]
      simp (decide := true)
      rfl
    have hsh2 : ∀ b, pr_f w 8 4 = 6 → mm_shift w (mx_ga m 3 (pr_f w 17 5)) b m = (((xw_number w) * (65536 : Int32)) ||| ((mx_ga m 3 (pr_f w 12 5)) &&& (65535 : Int32))) := fun b q => by
      rw [mm_shift_eq]
      unfold mm_shift_b
      rw [eo, q, ed2, nI_clamp (show pr_f w 12 5 < 2 ^ 31 by omega), pv_high]
      simp (decide := true)
      rfl
    by_cases g5 : pr_f w 8 4 = 5
    · rw [if_pos (c21.mpr (by omega)), hsh _ g5, hsh _ g5]
      split <;> rfl
    · rw [if_neg (fun q => g5 (by have := c21.mp q; omega))]
      by_cases g6 : pr_f w 8 4 = 6
      · rw [if_pos (c22.mpr (by omega)), hsh2 _ g6, hsh2 _ g6]
        split <;> rfl
      · rw [if_neg (fun q => g6 (by have := c22.mp q; omega))]
        have nB : ¬ mm_hasB w = 0 := fun q => by have := (hB.mp q).2; omega
        rw [if_neg nB]
        exact pv_S _ _ (by omega) w eo m
  · rw [hk] at ho c21 c22 c50 ⊢
    rw [if_neg (by omega), if_neg (by omega)] at ho
    have n21 : ¬ nI (16 * 2 + pr_f w 8 4) = 21 := fun q => by have := c21.mp q; omega
    have n22 : ¬ nI (16 * 2 + pr_f w 8 4) = 22 := fun q => by have := c22.mp q; omega
    have n50 : ¬ nI (16 * 2 + pr_f w 8 4) = 50 := fun q => by have := c50.mp q; omega
    have nB : ¬ mm_hasB w = 0 := fun q => by have := (hB.mp q).1; omega
    have e00 : ¬ nI 2 = 0 := by decide
    have e11 : ¬ nI 2 = 1 := by decide
    have e22 : nI 2 = 2 := rfl
    rw [if_neg n21, if_neg n22, if_neg n50, if_neg e00, if_neg e11, if_pos e22, if_neg nB, if_neg e00, if_neg e11, if_pos e22, eo]
    exact ⟨pv_M _ _ ho, ⟨fun _ => trivial, fun _ => ⟨fun _ => trivial, fun _ => ⟨fun q => absurd q n50, fun _ => ⟨fun q => absurd q e00, fun _ => ⟨fun _ => trivial, fun _ => ⟨fun _ => trivial, fun _ => trivial⟩⟩⟩⟩⟩⟩, ⟨fun q => absurd q nB, fun _ => ⟨fun _ => trivial, fun q => absurd q e00⟩⟩⟩
  · rw [hk] at ho c21 c22 c50 ⊢
    rw [if_neg (by omega), if_neg (by omega)] at ho
    have n21 : ¬ nI (16 * 3 + pr_f w 8 4) = 21 := fun q => by have := c21.mp q; omega
    have n22 : ¬ nI (16 * 3 + pr_f w 8 4) = 22 := fun q => by have := c22.mp q; omega
    have n50 : ¬ nI (16 * 3 + pr_f w 8 4) = 50 := fun q => by have := c50.mp q; omega
    have nB : ¬ mm_hasB w = 0 := fun q => by have := (hB.mp q).1; omega
    have e00 : ¬ nI 3 = 0 := by decide
    have e11 : ¬ nI 3 = 1 := by decide
    have e22 : ¬ nI 3 = 2 := by decide
    rw [if_neg n21, if_neg n22, if_neg n50, if_neg e00, if_neg e11, if_neg e22, if_neg nB, if_neg e00, if_neg e11, if_neg e22, eo, xv_ofD_eq]
    refine ⟨?_, ⟨fun _ => trivial, fun _ => ⟨fun _ => trivial, fun _ => ⟨fun q => absurd q n50, fun _ => ⟨fun q => absurd q e00, fun _ => ⟨fun _ => trivial, fun _ => ⟨fun _ => trivial, fun _ => trivial⟩⟩⟩⟩⟩⟩, ⟨fun q => absurd q nB, fun _ => ⟨fun _ => trivial, fun q => absurd q e00⟩⟩⟩
    unfold xv_ofD_b
    have h01 : pr_f w 8 4 = 0 ∨ pr_f w 8 4 = 1 := by omega
    rcases h01 with g | g <;> rw [g] <;> simp (decide := true)
theorem pv_time {w : Int32} : xw_timeOfWrite w = if (pr_f w 5 2 = 3 ∧ pr_f w 8 4 = 2) then 5 else if pr_f w 5 2 = 2 then 2 else 1 := by
  rw [xw_timeOfWrite_eq]
  unfold xw_timeOfWrite_b
  have ek : xw_kind w = nI (pr_f w 5 2) := pf_kind w
  have k0 := pr_flt w 5 2
  have c2 : nI (pr_f w 5 2) = 2 ↔ pr_f w 5 2 = 2 := nI_eq (b := 2) (by omega) (by omega)
  have c50 := xf_c50 w
  by_cases g : pr_f w 5 2 = 3 ∧ pr_f w 8 4 = 2
  · rw [if_pos (c50.mpr g), if_pos g]
  · rw [if_neg (fun q => g (c50.mp q)), if_neg g, ek]
    by_cases g2 : pr_f w 5 2 = 2
    · rw [if_pos (c2.mpr g2), if_pos g2]
    · rw [if_neg (fun q => g2 (c2.mp q)), if_neg g2]
theorem pv_load {np nd : Nat} {w : Int32} {x m : mx_S} (hnd : nd ≤ 256) (h2 : ∀ i, i < nd → x.2 2 i = m.2 2 i) (h3 : ∀ i, i < 32 → x.2 3 i = m.2 3 i) (hk : pr_f w 5 2 = 3 ∧ pr_f w 8 4 = 2) (hin : ¬ pr_out nd (xm_dataAddress w x)) :
    ∃ j, j < nd ∧ ((mx_ga m 3 (mm_a w).toNatClampNeg) + mm_second w m) = nI j ∧ xm_valueOf np nd w x = mx_ga m 2 j ∧ q_xm_valueOf np nd w x := by
  have hin' : ¬ xm_dataAddress w x < 0 ∧ xm_dataAddress w x < nI nd := Classical.byContradiction (fun q => hin q)
  obtain ⟨j, hj, ej⟩ := pr_ix (by omega) hin'.1 hin'.2
  have ea2 : mm_a w = nI (pr_f w 17 5) := pf_a w
  have a0 := pr_flt w 17 5
  have eda := pr_da w h3
  refine ⟨j, hj, ?_, ?_, ?_⟩
  · rw [ea2, nI_clamp (by omega), ← ej, eda]
    rfl
  · rw [xm_valueOf_eq]
    unfold xm_valueOf_b
    have n21 : ¬ xw_code w = 21 := fun q => by
      have e := (xf_c50 w).mpr hk
      rw [e] at q; exact absurd q (by decide)
    have n22 : ¬ xw_code w = 22 := fun q => by
      have e := (xf_c50 w).mpr hk
      rw [e] at q; exact absurd q (by decide)
    rw [if_neg n21, if_neg n22, if_pos ((xf_c50 w).mpr hk)]
    show xm_peek np nd (xm_dataAddress w x) x = _
    rw [ej, xm_peek_eq]
    unfold xm_peek_b
    rw [if_neg (fun q => (pr_ind hnd).mp q (by rw [← ej]; exact hin')), nI_clamp (by omega)]
    exact h2 j hj
  · unfold q_xm_valueOf
    refine ⟨fun _ => trivial, fun _ => ⟨fun _ => trivial, fun _ => ⟨fun _ => ?_, fun q => absurd ((xf_c50 w).mpr hk) q⟩⟩⟩
    show q_xm_peek np nd (xm_dataAddress w x) x
    rw [ej]
    exact ⟨fun _ => trivial, fun _ => vp_in_nI hj (by omega)⟩
