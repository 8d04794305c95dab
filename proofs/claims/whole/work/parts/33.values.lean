/-! what a word writes: both sides reckon the same value -/
theorem pv_us : ∀ i, i < 31 → (((nI (30 - i)).toUInt32 &&& Int32.toUInt32 31).toBitVec % 32).toNat = 30 - i := by decide
theorem pv_ss : ∀ i, i < 31 → ((((30 : Int32) - nI i) &&& 31).toBitVec.smod 32).toNat = 30 - i := by decide
theorem pv_bit (a : Int32) {i : Nat} (hi : i < 31) : ((a.toUInt32 >>> ((nI (30 - i)).toUInt32 &&& Int32.toUInt32 31)).toInt32 &&& (1 : Int32)) = ((a >>> (((30 : Int32) - nI i) &&& 31)) &&& (1 : Int32)) := by
  rw [pk_and _ 1 (by decide), pk_and _ 1 (by decide), pk_ushr a _ (30 - i) (pv_us i hi), pr_low _ 1 (by decide), pk_shr a _ (30 - i) (pv_ss i hi), Int.shiftRight_eq_div_pow]
  congr 1
  have h1 : a.toInt = a.toBitVec.toInt := rfl
  rw [h1, BitVec.toInt_eq_toNat_cond]
  have hlt : a.toBitVec.toNat < 2 ^ 32 := a.toBitVec.isLt
  split
  · norm_cast
  · have hd : (2 ^ 32 : Nat) = 2 ^ (30 - i) * (2 * 2 ^ (i + 1)) := by
      rw [← Nat.pow_succ', ← Nat.pow_add]
      congr 1
      omega
    have hp : ((2 ^ (30 - i) : Nat) : Int) ≠ 0 := by
      have := Nat.two_pow_pos (30 - i)
      omega
    have e : ((a.toBitVec.toNat : Int) - ((2 ^ 32 : Nat) : Int)) / ((2 ^ (30 - i) : Nat) : Int) = ((a.toBitVec.toNat / 2 ^ (30 - i) : Nat) : Int) - 2 * (2 ^ (i + 1) : Nat) := by
      rw [hd]
      push_cast
      rw [Int.sub_ediv_of_dvd _ ⟨_, rfl⟩, Int.mul_ediv_cancel_left _ (by exact_mod_cast hp)]
    rw [e]
    omega
theorem pv_norm (np nd : Nat) (a : Int32) (u : mx_S) (o1 o2 : Int32) : ∀ (n i : Nat), i ≤ 31 → 31 < i + n →
    xv_bitsLikeHighest_l10 a n (a.toUInt32 >>> ((31 : Int32).toUInt32 &&& Int32.toUInt32 31)).toInt32 (nI i) (nI 30 - nI i) = mm_logic_l142 o1 o2 a n (nI i) ∧ q_xv_bitsLikeHighest_l10 np nd a u n (a.toUInt32 >>> ((31 : Int32).toUInt32 &&& Int32.toUInt32 31)).toInt32 (nI i) (nI 30 - nI i) ∧ q_mm_logic_l142 o1 o2 a u n (nI i) := by
  intro n
  induction n with
  | zero => intro i h1 h2; omega
  | succ n ih =>
    intro i h1 h2
    unfold xv_bitsLikeHighest_l10 q_xv_bitsLikeHighest_l10 mm_logic_l142 q_mm_logic_l142
    by_cases h : i = 31
    · subst h
      have a1 : nI 30 - nI 31 < 0 := by decide
      have a2 : (31 : Int32) ≤ nI 31 := by decide
      rw [if_pos a1, if_pos a2]
      exact ⟨rfl, ⟨fun _ => trivial, fun q => absurd a1 q⟩, ⟨fun _ => trivial, fun q => absurd a2 q⟩⟩
    · have e0 : nI 30 - nI i = nI (30 - i) := pk_sub (by omega)
      have a1 : ¬ nI 30 - nI i < 0 := by rw [e0]; exact nI_pos (by omega)
      have a2 : ¬ (31 : Int32) ≤ nI i := fun q => h (by have := (nI_leI (a := 31) (by omega) (by omega)).mp q; omega)
      rw [if_neg a1, if_neg a2, e0, pv_bit a (by omega), nI_1]
      have e1 : nI (30 - i) + (-1) = nI 30 - nI (i + 1) := by
        rw [← e0, nI_succ i, Int32.sub_eq_add_neg, Int32.sub_eq_add_neg, Int32.neg_add, Int32.add_assoc, Int32.sub_eq_add_neg (a := -nI i)]
      rw [e1]
      obtain ⟨r1, r2, r3⟩ := ih (i + 1) (by omega) (by omega)
      rw [e0] at a1
      by_cases g : ((a >>> (((30 : Int32) - nI i) &&& 31)) &&& (1 : Int32)) = (a.toUInt32 >>> ((31 : Int32).toUInt32 &&& Int32.toUInt32 31)).toInt32
      · rw [if_pos g, if_pos g]
        exact ⟨r1, ⟨fun q => absurd q a1, fun _ => ⟨fun q => absurd g q, fun _ => r2⟩⟩, ⟨fun q => absurd q a2, fun _ => ⟨fun q => absurd g q, fun _ => r3⟩⟩⟩
      · rw [if_neg g, if_neg g]
        exact ⟨rfl, ⟨fun q => absurd q a1, fun _ => ⟨fun _ => trivial, fun q => absurd q g⟩⟩, ⟨fun q => absurd q a2, fun _ => ⟨fun _ => trivial, fun q => absurd q g⟩⟩⟩
theorem pv_L (np nd : Nat) (u : mx_S) {o : Nat} (ho : o ≤ 9) (a b : Int32) : xv_ofL (nI o) a b = mm_logic (nI o) a b ∧ q_xv_ofL np nd (nI o) a b u ∧ q_mm_logic (nI o) a b u := by
  rw [xv_ofL_eq, mm_logic_eq]
  unfold xv_ofL_b mm_logic_b q_xv_ofL q_mm_logic
  have hn := fun o1 => pv_norm np nd b u o1 a 33 0 (by omega) (by omega)
  rcases (show o = 0 ∨ o = 1 ∨ o = 2 ∨ o = 3 ∨ o = 4 ∨ o = 5 ∨ o = 6 ∨ o = 7 ∨ o = 8 ∨ o = 9 by omega) with e | e | e | e | e | e | e | e | e | e <;> subst e
  case' inr.inr.inr.inr.inr.inr.inr.inr.inr =>
    obtain ⟨n1, n2, n3⟩ := hn (nI 9)
    have e1 : xv_bitsLikeHighest b = mm_logic_l142 (nI 9) a b 33 0 := by rw [xv_bitsLikeHighest_eq]; exact n1
    have e2 : q_xv_bitsLikeHighest np nd b u := n2
    have e3 : q_mm_logic_l142 (nI 9) a b u 33 0 := n3
    rw [e1]
  case' inr.inr.inr.inr.inr.inr.inr.inr.inl =>
    rw [xv_nearestInt_eq]
    unfold xv_nearestInt_b
  all_goals simp (decide := true) [*]
theorem pv_S (a b : Int32) {o : Nat} (ho : o ≤ 4) (w : Int32) (hw : mm_operation w = nI o) (m : mx_S) : xv_ofS (nI (16 + o)) a b = mm_shift w a b m := by
  rw [xv_ofS_eq, mm_shift_eq]
  unfold xv_ofS_b mm_shift_b
  rw [hw]
  rcases (show o = 0 ∨ o = 1 ∨ o = 2 ∨ o = 3 ∨ o = 4 by omega) with e | e | e | e | e <;> subst e <;> simp (decide := true)
