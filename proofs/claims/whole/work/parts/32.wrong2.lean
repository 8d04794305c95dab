/-! both sides find the same fault -/
section FN
variable {np nd k e : Nat} {m : mx_S}
theorem fm_u45 (hn : np ≤ 256) (he : e ≤ np) (K : Int32 → Int32) (Q : Int32 → Prop) {i : Nat} (hi : i < e) : ∀ (n j : Nat), j ≤ i → i < j + n →
    ((∀ a, j ≤ a → a < i → ¬ pr_f (m.2 1 i) 5 3 = pr_f (m.2 1 a) 5 3) → mm_wrong_l45 (nI e) m K n (nI i) (nI j) = K (nI (i + 1)) ∧ (Q (nI (i + 1)) → q_mm_wrong_l45 (nI e) m K Q n (nI i) (nI j))) ∧
    ((¬ ∀ a, j ≤ a → a < i → ¬ pr_f (m.2 1 i) 5 3 = pr_f (m.2 1 a) 5 3) → mm_wrong_l45 (nI e) m K n (nI i) (nI j) = 3 ∧ q_mm_wrong_l45 (nI e) m K Q n (nI i) (nI j)) := by
  intro n
  induction n with
  | zero => intro j h1 h2; omega
  | succ n ih =>
    intro j h1 h2
    have ei : (nI i).toNatClampNeg = i := nI_clamp (by omega)
    have ej : (nI j).toNatClampNeg = j := nI_clamp (by omega)
    unfold mm_wrong_l45 q_mm_wrong_l45
    rw [ei, ej, nI_1, nI_1]
    by_cases h : i ≤ j
    · have hle : nI i ≤ nI j := (nI_leI (by omega) (by omega)).mpr h
      rw [if_pos hle]
      exact ⟨fun _ => ⟨rfl, fun hQ => ⟨fun _ => hQ, fun q => absurd hle q⟩⟩, fun q => absurd (fun a a1 a2 => by omega) q⟩
    · have hle : ¬ nI i ≤ nI j := fun q => h ((nI_leI (by omega) (by omega)).mp q)
      rw [if_neg hle]
      have hin : vp_in (nI i) 256 := vp_in_nI (by omega) (by omega)
      have hjn : vp_in (nI j) 256 := vp_in_nI (by omega) (by omega)
      have ew : mx_ga m 1 i = m.2 1 i := rfl
      have ew2 : mx_ga m 1 j = m.2 1 j := rfl
      rw [ew, ew2, pf_unit, pf_unit]
      have u1 := pr_flt (m.2 1 i) 5 3
      have u2 := pr_flt (m.2 1 j) 5 3
      have c1 : nI (pr_f (m.2 1 i) 5 3) = nI (pr_f (m.2 1 j) 5 3) ↔ pr_f (m.2 1 i) 5 3 = pr_f (m.2 1 j) 5 3 := nI_eq (by omega) (by omega)
      obtain ⟨r1, r2⟩ := ih (j + 1) (by omega) (by omega)
      by_cases g : pr_f (m.2 1 i) 5 3 = pr_f (m.2 1 j) 5 3
      · rw [if_pos (c1.mpr g)]
        exact ⟨fun q => absurd g (q j (by omega) (by omega)), fun _ => ⟨rfl, fun z => absurd z hle, fun _ => ⟨hin, hjn, fun z => absurd (c1.mpr g) z, fun _ => trivial⟩⟩⟩
      · have g' : ¬ nI (pr_f (m.2 1 i) 5 3) = nI (pr_f (m.2 1 j) 5 3) := fun q => g (c1.mp q)
        rw [if_neg g']
        have up : (∀ a, j + 1 ≤ a → a < i → ¬ pr_f (m.2 1 i) 5 3 = pr_f (m.2 1 a) 5 3) ↔ ∀ a, j ≤ a → a < i → ¬ pr_f (m.2 1 i) 5 3 = pr_f (m.2 1 a) 5 3 := ⟨fun q a a1 a2 => by
          by_cases ea : a = j
          · rw [ea]; exact g
          · exact q a (by omega) a2, fun q a a1 a2 => q a (by omega) a2⟩
        exact ⟨fun q => ⟨(r1 (up.mpr q)).1, fun hQ => ⟨fun z => absurd z hle, fun _ => ⟨hin, hjn, fun _ => (r1 (up.mpr q)).2 hQ, fun z => absurd z g'⟩⟩⟩, fun q => ⟨(r2 (fun z => q (up.mp z))).1, fun z => absurd z hle, fun _ => ⟨hin, hjn, fun _ => (r2 (fun z => q (up.mp z))).2, fun z => absurd z g'⟩⟩⟩
theorem fm_u35 (hn : np ≤ 256) (he : e ≤ np) (hk : e ≤ k + 8) (h7 : m.1 0 7 = nI k) : ∀ (n i : Nat), k ≤ i → i ≤ e → e < i + n →
    ((∀ a j, i ≤ a → a < e → k ≤ j → j < a → ¬ pr_f (m.2 1 a) 5 3 = pr_f (m.2 1 j) 5 3) → mm_wrong_l35 (nI e) m n (nI i) = mm_wrong_l87 (nI e) m 20 0 ∧ (q_mm_wrong_l87 (nI e) m 20 0 → q_mm_wrong_l35 (nI e) m n (nI i))) ∧
    ((¬ ∀ a j, i ≤ a → a < e → k ≤ j → j < a → ¬ pr_f (m.2 1 a) 5 3 = pr_f (m.2 1 j) 5 3) → mm_wrong_l35 (nI e) m n (nI i) = 3 ∧ q_mm_wrong_l35 (nI e) m n (nI i)) := by
  intro n
  induction n with
  | zero => intro i h0 h1 h2; omega
  | succ n ih =>
    intro i h0 h1 h2
    have e7 : mx_gf m 0 7 = nI k := h7
    unfold mm_wrong_l35 q_mm_wrong_l35
    rw [e7]
    by_cases h : e ≤ i
    · have hle : nI e ≤ nI i := (nI_leI (by omega) (by omega)).mpr h
      rw [if_pos hle]
      exact ⟨fun _ => ⟨rfl, fun hQ => ⟨fun _ => hQ, fun q => absurd hle q⟩⟩, fun q => absurd (fun a j a1 a2 => by omega) q⟩
    · have hle : ¬ nI e ≤ nI i := fun q => h ((nI_leI (by omega) (by omega)).mp q)
      rw [if_neg hle]
      obtain ⟨k1, k2⟩ := fm_u45 (m := m) hn he (fun v2' => mm_wrong_l35 (nI e) m n v2') (fun v2' => q_mm_wrong_l35 (nI e) m n v2') (i := i) (by omega) 20 k h0 (by omega)
      obtain ⟨r1, r2⟩ := ih (i + 1) (by omega) (by omega) (by omega)
      by_cases g : ∀ a, k ≤ a → a < i → ¬ pr_f (m.2 1 i) 5 3 = pr_f (m.2 1 a) 5 3
      · obtain ⟨c1, c2⟩ := k1 g
        have up : (∀ a j, i + 1 ≤ a → a < e → k ≤ j → j < a → ¬ pr_f (m.2 1 a) 5 3 = pr_f (m.2 1 j) 5 3) ↔ ∀ a j, i ≤ a → a < e → k ≤ j → j < a → ¬ pr_f (m.2 1 a) 5 3 = pr_f (m.2 1 j) 5 3 := ⟨fun q a j a1 a2 a3 a4 => by
          by_cases ea : a = i
          · rw [ea] at a4 ⊢; exact g j a3 a4
          · exact q a j (by omega) a2 a3 a4, fun q a j a1 a2 a3 a4 => q a j (by omega) a2 a3 a4⟩
        exact ⟨fun q => ⟨c1.trans (r1 (up.mpr q)).1, fun hQ => ⟨fun z => absurd z hle, fun _ => c2 ((r1 (up.mpr q)).2 hQ)⟩⟩, fun q => ⟨c1.trans (r2 (fun z => q (up.mp z))).1, fun z => absurd z hle, fun _ => c2 (r2 (fun z => q (up.mp z))).2⟩⟩
      · obtain ⟨c1, c2⟩ := k2 g
        exact ⟨fun q => absurd (fun a a1 a2 => q i a (by omega) (by omega) a1 a2) g, fun _ => ⟨c1, fun z => absurd z hle, fun _ => c2⟩⟩
theorem fm_ill (hn : np ≤ 256) (he : e ≤ np) (h7 : m.1 0 7 = nI k) : ∀ (n i : Nat), i ≤ e → e < i + n →
    ((∀ j, i ≤ j → j < e → ¬ pr_ill (m.2 1 j)) → mm_wrong_l5 (nI e) m n (nI i) = mm_wrong_l35 (nI e) m 20 (nI k) ∧ (q_mm_wrong_l35 (nI e) m 20 (nI k) → q_mm_wrong_l5 (nI e) m n (nI i))) ∧
    ((¬ ∀ j, i ≤ j → j < e → ¬ pr_ill (m.2 1 j)) → mm_wrong_l5 (nI e) m n (nI i) = 2 ∧ q_mm_wrong_l5 (nI e) m n (nI i)) := by
  intro n
  induction n with
  | zero => intro i h1 h2; omega
  | succ n ih =>
    intro i h1 h2
    have e7 : mx_gf m 0 7 = nI k := h7
    have ei : (nI i).toNatClampNeg = i := nI_clamp (by omega)
    unfold mm_wrong_l5 q_mm_wrong_l5
    rw [e7, ei, nI_1]
    by_cases h : e ≤ i
    · have hle : nI e ≤ nI i := (nI_leI (by omega) (by omega)).mpr h
      rw [if_pos hle]
      exact ⟨fun _ => ⟨rfl, fun hQ => ⟨fun _ => hQ, fun q => absurd hle q⟩⟩, fun q => absurd (fun j a1 a2 => by omega) q⟩
    · have hle : ¬ nI e ≤ nI i := fun q => h ((nI_leI (by omega) (by omega)).mp q)
      rw [if_neg hle]
      have hin : vp_in (nI i) 256 := vp_in_nI (by omega) (by omega)
      have hx : mm_isIll (mx_ga m 1 i) = 0 ↔ ¬ pr_ill (m.2 1 i) := mf_ill (m.2 1 i)
      obtain ⟨r1, r2⟩ := ih (i + 1) (by omega) (by omega)
      by_cases g : mm_isIll (mx_ga m 1 i) = 0
      · rw [if_pos g]
        have up : (∀ j, i + 1 ≤ j → j < e → ¬ pr_ill (m.2 1 j)) ↔ ∀ j, i ≤ j → j < e → ¬ pr_ill (m.2 1 j) := ⟨fun q j j1 j2 => by
          by_cases ej : j = i
          · rw [ej]; exact hx.mp g
          · exact q j (by omega) j2, fun q j j1 j2 => q j (by omega) j2⟩
        exact ⟨fun q => ⟨(r1 (up.mpr q)).1, fun hQ => ⟨fun z => absurd z hle, fun _ => ⟨hin, fun _ => (r1 (up.mpr q)).2 hQ, fun z => absurd g z⟩⟩⟩, fun q => ⟨(r2 (fun z => q (up.mp z))).1, fun z => absurd z hle, fun _ => ⟨hin, fun _ => (r2 (fun z => q (up.mp z))).2, fun z => absurd g z⟩⟩⟩
      · rw [if_neg g]
        exact ⟨fun q => absurd (hx.mpr (q i (by omega) (by omega))) g, fun _ => ⟨rfl, fun z => absurd z hle, fun _ => ⟨hin, fun z => absurd z g, fun _ => trivial⟩⟩⟩
theorem fm_c87 (hn : np ≤ 256) (he : e ≤ np) (hke : k ≤ e) (hk : e ≤ k + 8) (h7 : m.1 0 7 = nI k) :
    ((∀ a j, a < e → k ≤ j → j < a → ¬ (pr_cross (m.2 1 a) ∧ pr_cross (m.2 1 j) ∧ pr_f (m.2 1 a) 7 1 = pr_f (m.2 1 j) 7 1)) → mm_wrong_l87 (nI e) m 20 0 = mm_wrong_l186 (nI e) m 20 (nI k) ∧ (q_mm_wrong_l186 (nI e) m 20 (nI k) → q_mm_wrong_l87 (nI e) m 20 0)) ∧
    ((¬ ∀ a j, a < e → k ≤ j → j < a → ¬ (pr_cross (m.2 1 a) ∧ pr_cross (m.2 1 j) ∧ pr_f (m.2 1 a) 7 1 = pr_f (m.2 1 j) 7 1)) → mm_wrong_l87 (nI e) m 20 0 = 4 ∧ q_mm_wrong_l87 (nI e) m 20 0) := by
  have e7 : mx_gf m 0 7 = nI k := h7
  have hI : ∀ s, pr_I (fun j => pr_cross (m.2 1 j) ∧ pr_f (m.2 1 j) 7 1 = s) k k 0 := fun s => Or.inl ⟨rfl, fun j j1 j2 => by omega⟩
  have n2 : ¬ (2 : Int32) ≤ nI 0 := by decide
  have n1 : ¬ (2 : Int32) ≤ nI 1 := by decide
  have y2 : (2 : Int32) ≤ nI 2 := by decide
  have l0 : mm_wrong_l87 (nI e) m 20 (nI 0) = mm_wrong_l100 (nI e) m (fun v2' => mm_wrong_l87 (nI e) m 19 v2') 20 (nI 0) (nI 0) (nI k) := by
    rw [show mm_wrong_l87 (nI e) m 20 (nI 0) = if 2 ≤ nI 0 then mm_wrong_l186 (nI e) m 20 (mx_gf m 0 7) else mm_wrong_l100 (nI e) m (fun v2' => mm_wrong_l87 (nI e) m 19 v2') 20 (nI 0) 0 (mx_gf m 0 7) from rfl, if_neg n2, e7]
    rfl
  have l1 : mm_wrong_l87 (nI e) m 19 (nI 1) = mm_wrong_l100 (nI e) m (fun v2' => mm_wrong_l87 (nI e) m 18 v2') 20 (nI 1) (nI 0) (nI k) := by
    rw [show mm_wrong_l87 (nI e) m 19 (nI 1) = if 2 ≤ nI 1 then mm_wrong_l186 (nI e) m 20 (mx_gf m 0 7) else mm_wrong_l100 (nI e) m (fun v2' => mm_wrong_l87 (nI e) m 18 v2') 20 (nI 1) 0 (mx_gf m 0 7) from rfl, if_neg n1, e7]
    rfl
  have l2 : mm_wrong_l87 (nI e) m 18 (nI 2) = mm_wrong_l186 (nI e) m 20 (nI k) := by
    rw [show mm_wrong_l87 (nI e) m 18 (nI 2) = if 2 ≤ nI 2 then mm_wrong_l186 (nI e) m 20 (mx_gf m 0 7) else mm_wrong_l100 (nI e) m (fun v2' => mm_wrong_l87 (nI e) m 17 v2') 20 (nI 2) 0 (mx_gf m 0 7) from rfl, if_pos y2, e7]
  have q0 : q_mm_wrong_l100 (nI e) m (fun v2' => mm_wrong_l87 (nI e) m 19 v2') (fun v2' => q_mm_wrong_l87 (nI e) m 19 v2') 20 (nI 0) (nI 0) (nI k) → q_mm_wrong_l87 (nI e) m 20 (nI 0) := fun h => by
    unfold q_mm_wrong_l87
    rw [e7]
    exact ⟨fun z => absurd z n2, fun _ => h⟩
  have q1 : q_mm_wrong_l100 (nI e) m (fun v2' => mm_wrong_l87 (nI e) m 18 v2') (fun v2' => q_mm_wrong_l87 (nI e) m 18 v2') 20 (nI 1) (nI 0) (nI k) → q_mm_wrong_l87 (nI e) m 19 (nI 1) := fun h => by
    unfold q_mm_wrong_l87
    rw [e7]
    exact ⟨fun z => absurd z n1, fun _ => h⟩
  have q2 : q_mm_wrong_l186 (nI e) m 20 (nI k) → q_mm_wrong_l87 (nI e) m 18 (nI 2) := fun h => by
    unfold q_mm_wrong_l87
    rw [e7]
    exact ⟨fun _ => h, fun z => absurd y2 z⟩
  obtain ⟨a1, a2⟩ := fm_c100 (m := m) hn he (fun v2' => mm_wrong_l87 (nI e) m 19 v2') (fun v2' => q_mm_wrong_l87 (nI e) m 19 v2') (s := 0) (by omega) 20 k 0 (Nat.le_refl k) hke (by omega) (by omega) (hI 0)
  obtain ⟨b1, b2⟩ := fm_c100 (m := m) hn he (fun v2' => mm_wrong_l87 (nI e) m 18 v2') (fun v2' => q_mm_wrong_l87 (nI e) m 18 v2') (s := 1) (by omega) 20 k 0 (Nat.le_refl k) hke (by omega) (by omega) (hI 1)
  by_cases g0 : ∀ a j, a < e → k ≤ j → j < a → ¬ ((pr_cross (m.2 1 a) ∧ pr_f (m.2 1 a) 7 1 = 0) ∧ (pr_cross (m.2 1 j) ∧ pr_f (m.2 1 j) 7 1 = 0))
  · obtain ⟨c1, c2⟩ := a1 g0
    by_cases g1 : ∀ a j, a < e → k ≤ j → j < a → ¬ ((pr_cross (m.2 1 a) ∧ pr_f (m.2 1 a) 7 1 = 1) ∧ (pr_cross (m.2 1 j) ∧ pr_f (m.2 1 j) 7 1 = 1))
    · obtain ⟨d1, d2⟩ := b1 g1
      refine ⟨fun _ => ⟨l0.trans (c1.trans (l1.trans (d1.trans l2))), fun hq => q0 (c2 (q1 (d2 (q2 hq))))⟩, fun q => ?_⟩
      exfalso
      apply q
      intro a j h1 h2 h3 z
      have s1 := pr_flt (m.2 1 a) 7 1
      rcases (show pr_f (m.2 1 a) 7 1 = 0 ∨ pr_f (m.2 1 a) 7 1 = 1 by omega) with e | e
      · exact g0 a j h1 h2 h3 ⟨⟨z.1, e⟩, z.2.1, z.2.2.symm.trans e⟩
      · exact g1 a j h1 h2 h3 ⟨⟨z.1, e⟩, z.2.1, z.2.2.symm.trans e⟩
    · obtain ⟨d1, d2⟩ := b2 g1
      refine ⟨fun q => ?_, fun _ => ⟨l0.trans (c1.trans (l1.trans d1)), q0 (c2 (q1 d2))⟩⟩
      exact absurd (fun a j h1 h2 h3 z => q a j h1 h2 h3 ⟨z.1.1, z.2.1, z.1.2.trans z.2.2.symm⟩) g1
  · obtain ⟨c1, c2⟩ := a2 g0
    refine ⟨fun q => ?_, fun _ => ⟨l0.trans c1, q0 c2⟩⟩
    exact absurd (fun a j h1 h2 h3 z => q a j h1 h2 h3 ⟨z.1.1, z.2.1, z.1.2.trans z.2.2.symm⟩) g0
end FN
/-- what a faultless packet keeps to -/
def pr_ok (nd k e : Nat) (x : mx_S) : Prop := (∀ j, k ≤ j → j < e → ¬ pr_ill (x.2 1 j)) ∧ (∀ a j, k ≤ a → a < e → k ≤ j → j < a → ¬ pr_f (x.2 1 a) 5 3 = pr_f (x.2 1 j) 5 3) ∧ (∀ j, k ≤ j → j < e → ¬ pr_bey nd (x.2 1 j) x)
theorem pr_ill_c {w : Int32} (h : ¬ pr_ill w) : pr_f w 1 3 ≤ 5 := by
  rcases Nat.lt_or_ge 5 (pr_f w 1 3) with q | q
  · exact absurd (Or.inl q) h
  · exact q
theorem pr_ill_o {w : Int32} (h : ¬ pr_ill w) : pr_f w 8 4 ≤ (if pr_f w 5 2 = 0 then 9 else if pr_f w 5 2 = 1 then 11 else 3) := by
  rcases Nat.lt_or_ge (if pr_f w 5 2 = 0 then 9 else if pr_f w 5 2 = 1 then 11 else 3) (pr_f w 8 4) with q | q
  · exact absurd (Or.inr (Or.inr (Or.inl q))) h
  · exact q
theorem ph_wrong {np nd k e : Nat} {x m : mx_S} (hn : np ≤ 256) (hd : nd ≤ 256) (hke : k < e) (he : e ≤ np) (hk : e ≤ k + 8) (hx6 : x.1 0 6 = nI k) (hm7 : m.1 0 7 = nI k) (hm2 : m.1 0 2 = nI nd) (hA1 : ∀ i, i < np → x.2 1 i = m.2 1 i) (hA3 : ∀ i, i < 32 → x.2 3 i = m.2 3 i) :
    q_xm_faultOfPacket np nd (nI e) x ∧ q_mm_wrong (nI e) m ∧ xm_faultOfPacket np nd (nI e) x = mm_wrong (nI e) m ∧ (mm_wrong (nI e) m = 0 → pr_ok nd k e x) := by
  have hne : ¬ nI e = (-1 : Int32) := fun q => nI_pos (n := e) (by omega) (by rw [q]; decide)
  have e6 : mx_gf x 0 6 = nI k := hx6
  have e7 : mx_gf m 0 7 = nI k := hm7
  have hp : ∀ j, j < e → m.2 1 j = x.2 1 j := fun j hj => (hA1 j (by omega)).symm
  obtain ⟨i1, i2⟩ := fx_ill (nd := nd) (x := x) hn he 20 k (by omega) (by omega)
  obtain ⟨j1, j2⟩ := fm_ill (m := m) (k := k) hn he hm7 20 k (by omega) (by omega)
  rw [xm_faultOfPacket_eq, mm_wrong_eq]
  unfold xm_faultOfPacket_b mm_wrong_b q_xm_faultOfPacket q_mm_wrong
  rw [if_neg hne, e7, xm_hasIllFormed_eq]
  unfold xm_hasIllFormed_b q_xm_hasIllFormed
  rw [e6]
  by_cases g1 : ∀ j, k ≤ j → j < e → ¬ pr_ill (x.2 1 j)
  · have g1m : ∀ j, k ≤ j → j < e → ¬ pr_ill (m.2 1 j) := fun j a b => by rw [hp j b]; exact g1 j a b
    obtain ⟨j1e, j1q⟩ := j1 g1m
    rw [if_pos (i1.mpr g1), j1e]
    obtain ⟨u1, u2⟩ := fx_unit (nd := nd) (x := x) (k := k) hn he 20 k 0 (by omega) (by omega) (by omega) (fun b hb => ⟨fun h => by simp at h, fun ⟨j, h, h', _⟩ => by omega⟩)
    obtain ⟨v1, v2⟩ := fm_u35 (m := m) hn he hk hm7 20 k (by omega) (by omega) (by omega)
    rw [xm_hasUnitTwice_eq]
    unfold xm_hasUnitTwice_b q_xm_hasUnitTwice
    rw [e6]
    by_cases g2 : ∀ a j, k ≤ a → a < e → k ≤ j → j < a → ¬ pr_f (x.2 1 a) 5 3 = pr_f (x.2 1 j) 5 3
    · have g2m : ∀ a j, k ≤ a → a < e → k ≤ j → j < a → ¬ pr_f (m.2 1 a) 5 3 = pr_f (m.2 1 j) 5 3 := fun a j a1 a2 a3 a4 => by rw [hp a a2, hp j (by omega)]; exact g2 a j a1 a2 a3 a4
      obtain ⟨v1e, v1q⟩ := v1 g2m
      rw [if_pos (u1.mpr g2), v1e]
      obtain ⟨c1, c2⟩ := fx_cross (nd := nd) (x := x) (k := k) hn he 20 k 0 (by omega) (by omega) (by omega) (fun b hb => ⟨fun h => by simp at h, fun ⟨j, h, h', _⟩ => by omega⟩)
      obtain ⟨d1, d2⟩ := fm_c87 (m := m) hn he (by omega) hk hm7
      rw [xm_hasCrossedTwice_eq]
      unfold xm_hasCrossedTwice_b q_xm_hasCrossedTwice
      rw [e6]
      by_cases g3 : ∀ a j, k ≤ a → a < e → k ≤ j → j < a → ¬ (pr_cross (x.2 1 a) ∧ pr_cross (x.2 1 j) ∧ pr_f (x.2 1 a) 7 1 = pr_f (x.2 1 j) 7 1)
      · have g3m : ∀ a j, a < e → k ≤ j → j < a → ¬ (pr_cross (m.2 1 a) ∧ pr_cross (m.2 1 j) ∧ pr_f (m.2 1 a) 7 1 = pr_f (m.2 1 j) 7 1) := fun a j a2 a3 a4 => by rw [hp a a2, hp j (by omega)]; exact g3 a j (by omega) a2 a3 a4
        obtain ⟨d1e, d1q⟩ := d1 g3m
        rw [if_pos (c1.mpr g3), d1e]
        obtain ⟨f1, f2⟩ := fx_bey (x := x) (k := k) hn hd he (fun j a b => pr_ill_c (g1 j a b)) 20 k (by omega) (by omega) (by omega)
        obtain ⟨⟨h1, h2⟩, h3⟩ := fm_bey (m := m) (k := k) hn he hm2 (fun j a b => pr_ill_c (g1m j a b)) (fun j a b c => by have := pr_ill_o (g1m j a b); rw [if_neg (by omega), if_neg (by omega)] at this; exact this) 20 k (by omega) (by omega) (by omega)
        rw [xm_goesBeyondData_eq]
        unfold xm_goesBeyondData_b q_xm_goesBeyondData
        rw [e6]
        have hbb : ∀ j, k ≤ j → j < e → (pr_bey nd (x.2 1 j) x ↔ ((pr_f (m.2 1 j) 5 2 = 3 ∧ (pr_f (m.2 1 j) 8 4 = 2 ∨ pr_f (m.2 1 j) 8 4 = 3)) ∧ pr_done (m.2 1 j) m ∧ pr_out nd ((m.2 3 (pr_f (m.2 1 j) 17 5)) + mm_second (m.2 1 j) m))) := fun j a b => by
          rw [hp j b]
          unfold pr_bey
          rw [pr_da (x.2 1 j) hA3, pr_done_eq (x.2 1 j) hA3]
        have qx : ∀ (P : Prop), P → (¬ nI e = (-1) → P) ∧ (nI e = (-1) → True) := fun P h => ⟨fun _ => h, fun _ => trivial⟩
        by_cases g4 : ∀ j, k ≤ j → j < e → ¬ pr_bey nd (x.2 1 j) x
        · rw [if_pos (f1.mpr g4), h1 (fun j a b z => g4 j a b ((hbb j a b).mpr z))]
          exact ⟨qx _ ⟨i2, fun _ => ⟨u2, fun _ => ⟨c2, fun _ => f2, fun z => absurd (c1.mpr g3) z⟩, fun z => absurd (u1.mpr g2) z⟩, fun z => absurd (i1.mpr g1) z⟩, j1q (v1q (d1q h3)), rfl, fun _ => ⟨g1, g2, g4⟩⟩
        · rw [if_neg (fun z => g4 (f1.mp z)), h2 (fun z => g4 (fun j a b y => z j a b ((hbb j a b).mp y)))]
          exact ⟨qx _ ⟨i2, fun _ => ⟨u2, fun _ => ⟨c2, fun _ => f2, fun z => absurd (c1.mpr g3) z⟩, fun z => absurd (u1.mpr g2) z⟩, fun z => absurd (i1.mpr g1) z⟩, j1q (v1q (d1q h3)), rfl, fun z => absurd z (by decide)⟩
      · have g3m : ¬ ∀ a j, a < e → k ≤ j → j < a → ¬ (pr_cross (m.2 1 a) ∧ pr_cross (m.2 1 j) ∧ pr_f (m.2 1 a) 7 1 = pr_f (m.2 1 j) 7 1) := fun z => g3 (fun a j a1 a2 a3 a4 => by rw [← hp a a2, ← hp j (by omega)]; exact z a j a2 a3 a4)
        obtain ⟨d2e, d2q⟩ := d2 g3m
        rw [if_neg (fun z => g3 (c1.mp z)), d2e]
        exact ⟨⟨fun _ => ⟨i2, fun _ => ⟨u2, fun _ => ⟨c2, fun z => absurd (c1.mp z) g3, fun _ => trivial⟩, fun z => absurd (u1.mpr g2) z⟩, fun z => absurd (i1.mpr g1) z⟩, fun _ => trivial⟩, j1q (v1q d2q), rfl, fun z => absurd z (by decide)⟩
    · have g2m : ¬ ∀ a j, k ≤ a → a < e → k ≤ j → j < a → ¬ pr_f (m.2 1 a) 5 3 = pr_f (m.2 1 j) 5 3 := fun z => g2 (fun a j a1 a2 a3 a4 => by rw [← hp a a2, ← hp j (by omega)]; exact z a j a1 a2 a3 a4)
      obtain ⟨v2e, v2q⟩ := v2 g2m
      rw [if_neg (fun z => g2 (u1.mp z)), v2e]
      exact ⟨⟨fun _ => ⟨i2, fun _ => ⟨u2, fun z => absurd (u1.mp z) g2, fun _ => trivial⟩, fun z => absurd (i1.mpr g1) z⟩, fun _ => trivial⟩, j1q v2q, rfl, fun z => absurd z (by decide)⟩
  · have g1m : ¬ ∀ j, k ≤ j → j < e → ¬ pr_ill (m.2 1 j) := fun z => g1 (fun j a b => by rw [← hp j b]; exact z j a b)
    obtain ⟨j2e, j2q⟩ := j2 g1m
    rw [if_neg (fun z => g1 (i1.mp z)), j2e]
    exact ⟨⟨fun _ => ⟨i2, fun z => absurd (i1.mp z) g1, fun _ => trivial⟩, fun _ => trivial⟩, j2q, rfl, fun z => absurd z (by decide)⟩
