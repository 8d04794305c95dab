/-! raise; an interrupt comes in -/
theorem pr_bit01 : ∀ r, r < 16 → ∀ j, j < 4 → ((nI r >>> (nI j &&& 31)) &&& (1 : Int32)) = 0 ∨ ((nI r >>> (nI j &&& 31)) &&& (1 : Int32)) = 1 := by decide
theorem pr_bitor : ∀ r, r < 16 → ∀ j, j < 4 → (nI r ||| ((1 : Int32) <<< (nI j &&& 31))) = nI (r ||| 2 ^ j) ∧ (r ||| 2 ^ j) < 16 := by decide
theorem pr_bitoff : ∀ r, r < 16 → ∀ j, j < 4 → (nI r &&& (((1 : Int32) <<< (nI j &&& 31)) ^^^ ((-1) : Int32))) = nI (r &&& (15 - 2 ^ j)) ∧ (r &&& (15 - 2 ^ j)) < 16 := by decide
theorem pr_bit0 : ∀ r, r < 16 → (∀ j, j < 4 → ((nI r >>> (nI j &&& 31)) &&& (1 : Int32)) = 0) → r = 0 := by decide
theorem pr_raised (x : mx_S) (a : Int32) : (xm_isRaised a x = 0 ↔ (((mx_gf x 0 10) >>> (a &&& 31)) &&& (1 : Int32)) = 0) := by
  rw [xm_isRaised_eq]
  unfold xm_isRaised_b
  by_cases h : (((mx_gf x 0 10) >>> (a &&& 31)) &&& (1 : Int32)) = 0
  · rw [if_pos h]; exact ⟨fun _ => h, fun _ => rfl⟩
  · rw [if_neg h]; exact ⟨fun q => absurd q (by decide), fun q => absurd q h⟩
theorem pr_43 (a : Int32) : 4 ≤ a ↔ 3 < a := by
  rw [Int32.le_iff_toInt_le, Int32.lt_iff_toInt_lt, show (4 : Int32).toInt = 4 from by decide, show (3 : Int32).toInt = 3 from by decide]
  omega
theorem sim_raise {np nd : Nat} {x m : mx_S} (hR : pr_Rel np nd x m) : sm_raise np nd (pr_Rel np nd) x m := by
  intro a1
  obtain ⟨hZ, ⟨s1, s2, s3, s4, s5, s6, s7⟩, ⟨f1, r, f2, f3⟩, hA, hW, hB⟩ := hR
  have hm : pr_Rel np nd x (mx_sf m 0 0 0) := ⟨hZ, ⟨s1, s2, s3, s4, s5, s6, s7⟩, ⟨f1, r, f2, f3⟩, hA, hW, hB⟩
  rw [xm_raise_eq, xm_raise_s_eq, mm_raise_eq, mm_raise_s_eq]
  unfold xm_raise_b mm_raise_b
  have ex : mx_gf x 0 10 = nI r := f3
  have em : mx_gf (mx_sf m 0 0 0) 0 12 = nI r := s6.symm.trans f3
  rw [ex, em]
  refine ⟨trivial, trivial, ?_⟩
  by_cases h0 : a1 < 0
  · rw [if_pos h0, if_pos h0]; exact ⟨rfl, hm⟩
  rw [if_neg h0, if_neg h0]
  by_cases h1 : 4 ≤ a1
  · rw [if_pos h1, if_pos ((pr_43 a1).mp h1)]; exact ⟨rfl, hm⟩
  rw [if_neg h1, if_neg (fun q => h1 ((pr_43 a1).mpr q))]
  obtain ⟨j, hj, rfl⟩ := pr_ix (n := 4) (by omega) h0 (Int32.not_le.mp h1)
  obtain ⟨o1, o2⟩ := pr_bitor r f2 j hj
  by_cases h2 : xm_isRaised (nI j) x = 0
  · have h3 := (pr_raised x (nI j)).mp h2
    rw [ex] at h3
    rw [if_pos h2, if_neg (by rw [h3]; decide)]
    refine ⟨rfl, hZ, ⟨s1, s2, s3, s4, s5, rfl, s7⟩, ⟨f1, r ||| 2 ^ j, o2, o1⟩, hA, hW, hB⟩
  · have h3 : ((nI r >>> (nI j &&& 31)) &&& (1 : Int32)) = 1 := (pr_bit01 r f2 j hj).resolve_left (fun q => h2 ((pr_raised x (nI j)).mpr (by rw [ex]; exact q)))
    rw [if_neg h2, if_pos h3]
    exact ⟨rfl, hm⟩
/-- the state with the line k come in -/
def pr_xi (x : mx_S) (k : Nat) : mx_S := (mx_sf (mx_sf (mx_sf (mx_sf x 0 10 ((mx_gf x 0 10) &&& (((1 : Int32) <<< (nI k &&& 31)) ^^^ ((-1) : Int32)))) 0 11 0) 0 9 (mx_gf x 0 6)) 0 6 (((8 : Int32) * nI k) + (8 : Int32)))
def pr_mi (m : mx_S) (k : Nat) : mx_S := (mx_sf (mx_sf (mx_sf (mx_sf m 0 12 ((mx_gf m 0 12) &&& (((1 : Int32) <<< (nI k &&& 31)) ^^^ ((-1) : Int32)))) 0 11 0) 0 10 (mx_gf m 0 7)) 0 7 (((8 : Int32) * nI k) + (8 : Int32)))
theorem pr_intL (np nd : Nat) {x m : mx_S} {r : Nat} (hr : r < 16) (ex : mx_gf x 0 10 = nI r) (em : mx_gf m 0 12 = nI r) : ∀ (n i : Nat), i ≤ 4 → 4 < i + n → q_xm_takeInterrupt_l20 np nd n (nI i) x ∧
    ((∃ k, k < 4 ∧ xm_takeInterrupt_l20 n (nI i) x = pr_xi x k ∧ mm_interrupts_l24 n (nI i) m = pr_mi m k ∧ q_mm_interrupts_l24 n (nI i) m) ∨ ((∀ k, i ≤ k → k < 4 → ((nI r >>> (nI k &&& 31)) &&& (1 : Int32)) = 0) ∧ xm_takeInterrupt_l20 n (nI i) x = x)) := by
  intro n
  induction n with
  | zero => intro i h1 h2; omega
  | succ n ih =>
    intro i h1 h2
    unfold xm_takeInterrupt_l20 q_xm_takeInterrupt_l20 mm_interrupts_l24 q_mm_interrupts_l24
    by_cases h : 4 ≤ i
    · have hle : (4 : Int32) ≤ nI i := (nI_leI (a := 4) (b := i) (by omega) (by omega)).mpr h
      rw [if_pos hle]
      exact ⟨⟨fun _ => trivial, fun q => absurd hle q⟩, Or.inr ⟨fun k _ _ => by omega, rfl⟩⟩
    · have hle : ¬ (4 : Int32) ≤ nI i := fun q => h ((nI_leI (a := 4) (b := i) (by omega) (by omega)).mp q)
      rw [if_neg hle, em, nI_1]
      by_cases g : ((nI r >>> (nI i &&& 31)) &&& (1 : Int32)) = 0
      · have gx : xm_isRaised (nI i) x = 0 := (pr_raised x (nI i)).mpr (by rw [ex]; exact g)
        rw [if_pos gx, if_pos g]
        obtain ⟨q1, c⟩ := ih (i + 1) (by omega) (by omega)
        refine ⟨⟨fun q => absurd q hle, fun _ => ?_⟩, ?_⟩
        · first | exact ⟨fun q => absurd gx q, fun _ => q1⟩ | exact ⟨fun _ => q1, fun q => absurd gx q⟩
        · rcases c with ⟨k, k1, k2, k3, k4⟩ | ⟨k1, k2⟩
          · refine Or.inl ⟨k, k1, k2, k3, ?_⟩
            first | exact ⟨fun q => absurd g q, fun _ => k4⟩ | exact ⟨fun _ => k4, fun q => absurd g q⟩
          · refine Or.inr ⟨fun k h3 h4 => ?_, k2⟩
            by_cases e : k = i
            · rw [e]; exact g
            · exact k1 k (by omega) h4
      · have gx : ¬ xm_isRaised (nI i) x = 0 := fun q => g (by have := (pr_raised x (nI i)).mp q; rw [ex] at this; exact this)
        rw [if_neg gx, if_neg g]
        refine ⟨⟨fun q => absurd q hle, fun _ => ?_⟩, Or.inl ⟨i, by omega, rfl, by unfold pr_mi; rw [em]; rfl, ?_⟩⟩
        · first | exact ⟨fun _ => trivial, fun q => absurd q gx⟩ | exact ⟨fun q => absurd q gx, fun _ => trivial⟩
        · first | exact ⟨fun _ => trivial, fun q => absurd q g⟩ | exact ⟨fun q => absurd q g, fun _ => trivial⟩
theorem pr_int0L {x : mx_S} (hno : ∀ j, j < 4 → ((nI 0 >>> (nI j &&& 31)) &&& (1 : Int32)) = 0) (ex : mx_gf x 0 10 = nI 0) : ∀ (n i : Nat), i ≤ 4 → xm_takeInterrupt_l20 n (nI i) x = x := by
  intro n
  induction n with
  | zero => intro i _; rfl
  | succ n ih =>
    intro i h1
    unfold xm_takeInterrupt_l20
    by_cases h : 4 ≤ i
    · have hle : (4 : Int32) ≤ nI i := (nI_leI (a := 4) (b := i) (by omega) (by omega)).mpr h
      rw [if_pos hle]
    · have hle : ¬ (4 : Int32) ≤ nI i := fun q => h ((nI_leI (a := 4) (b := i) (by omega) (by omega)).mp q)
      rw [if_neg hle, if_pos ((pr_raised x (nI i)).mpr (by rw [ex]; exact hno i (by omega))), nI_1]
      exact ih (i + 1) (by omega)
theorem pr_int0 {x : mx_S} (hno : ∀ j, j < 4 → ((nI 0 >>> (nI j &&& 31)) &&& (1 : Int32)) = 0) (ex : mx_gf x 0 10 = nI 0) : xm_takeInterrupt_l20 20 (nI 0) x = x := pr_int0L hno ex 20 0 (by omega)
theorem ph_inter {np nd : Nat} {x m : mx_S} (hR : pr_R2 np nd x m) : q_xm_takeInterrupt np nd x ∧ q_mm_interrupts m ∧ pr_R2 np nd (xm_takeInterrupt x) (mm_interrupts m) := by
  have hR0 := hR
  obtain ⟨hZ, ⟨s1, s2, s3, s4, s5, s6, s7⟩, ⟨f1, r, f2, f3⟩, hA, hW, ⟨b, bt, ⟨b2, b3⟩, b4, b5⟩, h0⟩ := hR
  have ex : mx_gf x 0 10 = nI r := f3
  have em : mx_gf m 0 12 = nI r := s6.symm.trans f3
  have e11 : mx_gf m 0 11 = mx_gf x 0 11 := s7.symm
  have eb : mx_gf x 8 2 = nI b := b2
  have eb2 : mx_gf m 0 17 = nI b := b3
  rw [xm_takeInterrupt_eq, mm_interrupts_eq]
  unfold xm_takeInterrupt_b mm_interrupts_b q_xm_takeInterrupt q_mm_interrupts
  rw [e11, eb, eb2]
  obtain ⟨q1, c⟩ := pr_intL np nd f2 ex em 20 0 (by omega) (by omega)
  have q1 : q_xm_takeInterrupt_l20 np nd 20 0 x := q1
  by_cases g1 : mx_gf x 0 11 = 0
  · rw [if_pos g1, if_pos g1]
    refine ⟨?_, ?_, hR0⟩
    · first | exact ⟨fun _ => trivial, fun q => absurd g1 q⟩ | exact ⟨fun q => absurd g1 q, fun _ => trivial⟩
    · first | exact ⟨fun _ => trivial, fun q => absurd g1 q⟩ | exact ⟨fun q => absurd g1 q, fun _ => trivial⟩
  rw [if_neg g1, if_neg g1]
  by_cases g2 : nI b ≤ 0
  · rw [if_pos g2, if_pos g2]
    rcases c with ⟨k, k1, k2, k3, k4⟩ | ⟨k1, k2⟩
    · have k2 : xm_takeInterrupt_l20 20 0 x = pr_xi x k := k2
      have k3 : mm_interrupts_l24 20 0 m = pr_mi m k := k3
      have k4 : q_mm_interrupts_l24 20 0 m := k4
      rw [k2, k3]
      obtain ⟨o1, o2⟩ := pr_bitoff r f2 k k1
      have hfin : pr_R2 np nd (pr_xi x k) (pr_mi m k) := by
        refine ⟨hZ, ⟨s1, rfl, s3, s4, s2, ?_, rfl⟩, ⟨Or.inl rfl, r &&& (15 - 2 ^ k), o2, ?_⟩, hA, hW, ⟨b, bt, ⟨b2, b3⟩, b4, b5⟩, h0⟩
        · show (mx_gf x 0 10) &&& _ = (mx_gf m 0 12) &&& _
          rw [ex, em]
        · show (mx_gf x 0 10) &&& _ = _
          rw [ex]; exact o1
      by_cases g3 : mx_gf m 0 12 = 0
      · exfalso
        -- no line is raised: then none could come in
        have hr0 : r = 0 := (nI_eq (a := r) (b := 0) (by omega) (by omega)).mp (em.symm.trans g3)
        subst hr0
        have hno : ∀ j, j < 4 → ((nI 0 >>> (nI j &&& 31)) &&& (1 : Int32)) = 0 := by decide
        have hx : xm_takeInterrupt_l20 20 (nI 0) x = x := pr_int0 hno ex
        have h6 : (pr_xi x k).1 0 11 = x.1 0 11 := by rw [← k2]; exact congrArg (fun z : mx_S => z.1 0 11) hx
        exact g1 h6.symm
      · rw [if_neg g3]
        refine ⟨?_, ?_, hfin⟩
        · first | exact ⟨fun q => absurd q g1, fun _ => ⟨fun _ => q1, fun q => absurd g2 q⟩⟩ | exact ⟨fun _ => ⟨fun _ => q1, fun q => absurd g2 q⟩, fun q => absurd q g1⟩
        · first | exact ⟨fun q => absurd q g1, fun _ => ⟨fun q => absurd q g3, fun _ => ⟨fun _ => k4, fun q => absurd g2 q⟩⟩⟩ | exact ⟨fun q => absurd q g1, fun _ => ⟨fun _ => ⟨fun _ => k4, fun q => absurd g2 q⟩, fun q => absurd q g3⟩⟩ | exact ⟨fun _ => ⟨fun _ => ⟨fun _ => k4, fun q => absurd g2 q⟩, fun q => absurd q g3⟩, fun q => absurd q g1⟩
    · have k2 : xm_takeInterrupt_l20 20 0 x = x := k2
      have hr0 : r = 0 := pr_bit0 r f2 (fun j hj => k1 j (by omega) hj)
      have g3 : mx_gf m 0 12 = 0 := by rw [em, hr0]; rfl
      rw [k2, if_pos g3]
      refine ⟨?_, ?_, hR0⟩
      · first | exact ⟨fun q => absurd q g1, fun _ => ⟨fun _ => q1, fun q => absurd g2 q⟩⟩ | exact ⟨fun _ => ⟨fun _ => q1, fun q => absurd g2 q⟩, fun q => absurd q g1⟩
      · first | exact ⟨fun q => absurd q g1, fun _ => ⟨fun _ => trivial, fun q => absurd g3 q⟩⟩ | exact ⟨fun _ => ⟨fun q => absurd g3 q, fun _ => trivial⟩, fun q => absurd q g1⟩
  · rw [if_neg g2, if_neg g2]
    have hx : (if mx_gf m 0 12 = 0 then m else m) = m := by
      by_cases g3 : mx_gf m 0 12 = 0
      · rw [if_pos g3]
      · rw [if_neg g3]
    rw [hx]
    refine ⟨?_, ?_, hR0⟩
    · first | exact ⟨fun q => absurd q g1, fun _ => ⟨fun q => absurd q g2, fun _ => trivial⟩⟩ | exact ⟨fun _ => ⟨fun q => absurd q g2, fun _ => trivial⟩, fun q => absurd q g1⟩
    · first | exact ⟨fun q => absurd q g1, fun _ => ⟨fun _ => trivial, fun _ => ⟨fun q => absurd q g2, fun _ => trivial⟩⟩⟩ | exact ⟨fun _ => ⟨fun _ => ⟨fun q => absurd q g2, fun _ => trivial⟩, fun _ => trivial⟩, fun q => absurd q g1⟩
