/-! the writes come nearer, clash, land: the class's loops and the Model's -/
theorem pr_sx {u v : mx_S} (h1 : u.1 = v.1) (h2 : ∀ a j, u.2 a j = v.2 a j) : u = v := Prod.ext h1 (funext fun a => funext fun j => h2 a j)
theorem xq_cnL (np nd w : Nat) (hw : w ≤ 18) : ∀ (n i : Nat) (u : mx_S), i ≤ w → w < i + n → u.1 4 3 = nI w →
    xq_comeNearer_l2 n (nI i) u = (u.1, fun a j => if a = 7 ∧ i ≤ j ∧ j < w then u.2 a j - 1 else u.2 a j) ∧ q_xq_comeNearer_l2 np nd n (nI i) u := by
  intro n
  induction n with
  | zero => intro i u h1 h2; omega
  | succ n ih =>
    intro i u h1 h2 hu
    have hc : mx_gf u 4 3 = nI w := hu
    have ei : (nI i).toNatClampNeg = i := nI_clamp (by omega)
    unfold xq_comeNearer_l2 q_xq_comeNearer_l2
    rw [hc, ei, nI_1]
    by_cases h : w ≤ i
    · have hle : nI w ≤ nI i := (nI_leI (by omega) (by omega)).mpr h
      rw [if_pos hle]
      refine ⟨pr_sx rfl (fun a j => ?_), fun _ => trivial, fun q => absurd hle q⟩
      show u.2 a j = if _ then _ else _
      rw [if_neg (by omega)]
    · have hle : ¬ nI w ≤ nI i := fun q => h ((nI_leI (by omega) (by omega)).mp q)
      rw [if_neg hle]
      have hin : vp_in (nI i) 18 := vp_in_nI (by omega) (by omega)
      obtain ⟨e, hq⟩ := ih (i + 1) (mx_sa u 7 i (mx_ga u 7 i - (1 : Int32))) (by omega) (by omega) hu
      refine ⟨?_, fun q => absurd q hle, fun _ => ⟨hin, hin, hq⟩⟩
      rw [e]
      refine pr_sx rfl (fun a j => ?_)
      show (if a = 7 ∧ i + 1 ≤ j ∧ j < w then (if a = 7 then (if j = i then u.2 7 i - 1 else u.2 a j) else u.2 a j) - 1 else (if a = 7 then (if j = i then u.2 7 i - 1 else u.2 a j) else u.2 a j)) = if a = 7 ∧ i ≤ j ∧ j < w then u.2 a j - 1 else u.2 a j
      by_cases ha : a = 7
      · subst ha
        by_cases hj : j = i
        · subst hj
          rw [if_neg (by omega), if_pos rfl, if_pos rfl, if_pos (by omega)]
        · simp only [if_neg hj, if_true, true_and]
          by_cases hb : i + 1 ≤ j ∧ j < w
          · rw [if_pos hb, if_pos (by omega)]
          · rw [if_neg hb, if_neg (by omega)]
      · simp only [ha, false_and, if_false]
theorem xq_cn (np nd : Nat) {w : Nat} (hw : w ≤ 18) {u : mx_S} (hu : u.1 4 3 = nI w) : xq_comeNearer u = (u.1, fun a j => if a = 7 ∧ j < w then u.2 a j - 1 else u.2 a j) ∧ q_xq_comeNearer np nd u := by
  obtain ⟨e, hq⟩ := xq_cnL np nd w hw 20 0 u (by omega) (by omega) hu
  rw [xq_comeNearer_eq]
  refine ⟨?_, hq⟩
  show xq_comeNearer_l2 20 (nI 0) u = _
  rw [e]
  refine pr_sx rfl (fun a j => ?_)
  show (if a = 7 ∧ 0 ≤ j ∧ j < w then _ else _) = if a = 7 ∧ j < w then _ else _
  by_cases h : a = 7 ∧ j < w
  · rw [if_pos h, if_pos ⟨h.1, Nat.zero_le _, h.2⟩]
  · rw [if_neg h, if_neg (fun q => h ⟨q.1, q.2.2⟩)]
theorem xb_cnL (np nd w : Nat) (hw : w ≤ 12) : ∀ (n i : Nat) (u : mx_S), i ≤ w → w < i + n → u.1 8 2 = nI w →
    xb_comeNearer_l2 n (nI i) u = (u.1, fun a j => if a = 10 ∧ i ≤ j ∧ j < w then u.2 a j - 1 else u.2 a j) ∧ q_xb_comeNearer_l2 np nd n (nI i) u := by
  intro n
  induction n with
  | zero => intro i u h1 h2; omega
  | succ n ih =>
    intro i u h1 h2 hu
    have hc : mx_gf u 8 2 = nI w := hu
    have ei : (nI i).toNatClampNeg = i := nI_clamp (by omega)
    unfold xb_comeNearer_l2 q_xb_comeNearer_l2
    rw [hc, ei, nI_1]
    by_cases h : w ≤ i
    · have hle : nI w ≤ nI i := (nI_leI (by omega) (by omega)).mpr h
      rw [if_pos hle]
      refine ⟨pr_sx rfl (fun a j => ?_), fun _ => trivial, fun q => absurd hle q⟩
      show u.2 a j = if _ then _ else _
      rw [if_neg (by omega)]
    · have hle : ¬ nI w ≤ nI i := fun q => h ((nI_leI (by omega) (by omega)).mp q)
      rw [if_neg hle]
      have hin : vp_in (nI i) 12 := vp_in_nI (by omega) (by omega)
      obtain ⟨e, hq⟩ := ih (i + 1) (mx_sa u 10 i (mx_ga u 10 i - (1 : Int32))) (by omega) (by omega) hu
      refine ⟨?_, fun q => absurd q hle, fun _ => ⟨hin, hin, hq⟩⟩
      rw [e]
      refine pr_sx rfl (fun a j => ?_)
      show (if a = 10 ∧ i + 1 ≤ j ∧ j < w then (if a = 10 then (if j = i then u.2 10 i - 1 else u.2 a j) else u.2 a j) - 1 else (if a = 10 then (if j = i then u.2 10 i - 1 else u.2 a j) else u.2 a j)) = if a = 10 ∧ i ≤ j ∧ j < w then u.2 a j - 1 else u.2 a j
      by_cases ha : a = 10
      · subst ha
        by_cases hj : j = i
        · subst hj
          rw [if_neg (by omega), if_pos rfl, if_pos rfl, if_pos (by omega)]
        · simp only [if_neg hj, if_true, true_and]
          by_cases hb : i + 1 ≤ j ∧ j < w
          · rw [if_pos hb, if_pos (by omega)]
          · rw [if_neg hb, if_neg (by omega)]
      · simp only [ha, false_and, if_false]
theorem xb_cn (np nd : Nat) {w : Nat} (hw : w ≤ 12) {u : mx_S} (hu : u.1 8 2 = nI w) : xb_comeNearer u = (u.1, fun a j => if a = 10 ∧ j < w then u.2 a j - 1 else u.2 a j) ∧ q_xb_comeNearer np nd u := by
  obtain ⟨e, hq⟩ := xb_cnL np nd w hw 20 0 u (by omega) (by omega) hu
  rw [xb_comeNearer_eq]
  refine ⟨?_, hq⟩
  show xb_comeNearer_l2 20 (nI 0) u = _
  rw [e]
  refine pr_sx rfl (fun a j => ?_)
  show (if a = 10 ∧ 0 ≤ j ∧ j < w then _ else _) = if a = 10 ∧ j < w then _ else _
  by_cases h : a = 10 ∧ j < w
  · rw [if_pos h, if_pos ⟨h.1, Nat.zero_le _, h.2⟩]
  · rw [if_neg h, if_neg (fun q => h ⟨q.1, q.2.2⟩)]
/-! masks -/
theorem pr_bit : ∀ l, l < 32 → ((1 : Int32) <<< (nI l &&& 31)).toBitVec = BitVec.twoPow 32 l := by decide
theorem pr_mask0 (v : Int32) {l : Nat} (hl : l < 32) : (v &&& ((1 : Int32) <<< (nI l &&& 31))) = 0 ↔ v.toBitVec.getLsbD l = false := by
  have e : (v &&& ((1 : Int32) <<< (nI l &&& 31))) = 0 ↔ v.toBitVec &&& BitVec.twoPow 32 l = 0#32 := by
    rw [← pr_bit l hl]
    constructor
    · intro h
      have := congrArg Int32.toBitVec h
      simpa using this
    · intro h
      apply Int32.toBitVec_inj.mp
      simpa using h
  rw [e, BitVec.and_twoPow]
  constructor
  · intro h
    by_cases g : v.toBitVec.getLsbD l = true
    · rw [if_pos g] at h
      exfalso
      have h2 := congrArg (fun z : BitVec 32 => z.getLsbD l) h
      simp [BitVec.getLsbD_twoPow, hl] at h2
    · simpa using g
  · intro h
    rw [h]
    simp
theorem pr_mask1 (v : Int32) {l : Nat} (hl : l < 32) (b : Nat) : (v ||| ((1 : Int32) <<< (nI l &&& 31))).toBitVec.getLsbD b = (v.toBitVec.getLsbD b || (decide (b < 32) && decide (l = b))) := by
  rw [show (v ||| ((1 : Int32) <<< (nI l &&& 31))).toBitVec = v.toBitVec ||| ((1 : Int32) <<< (nI l &&& 31)).toBitVec from rfl, pr_bit l hl, BitVec.getLsbD_or, BitVec.getLsbD_twoPow]
  by_cases h : l = b
  · subst h; simp [hl]
  · simp [h]
/-- two that land now have one register -/
def pr_Cl (w : Nat) (t tm : Nat → Nat) (i0 : Nat) : Prop := ∃ i j, i0 ≤ i ∧ i < w ∧ j < i ∧ tm i = 0 ∧ tm j = 0 ∧ t i = t j
theorem xq_clL (np nd w : Nat) (hw : w ≤ 18) (u : mx_S) (t tm : Nat → Nat) (hu : u.1 4 3 = nI w) (ht : ∀ i, i < w → t i < 32 ∧ u.2 5 i = nI (t i)) (htm : ∀ i, i < w → tm i < 100 ∧ u.2 7 i = nI (tm i)) :
    ∀ (n i : Nat) (v : Int32), i ≤ w → w < i + n → (∀ b, b < 32 → (v.toBitVec.getLsbD b = true ↔ ∃ j, j < i ∧ tm j = 0 ∧ t j = b)) →
      (xq_clash_l4 u n v (nI i) = 0 ↔ ¬ pr_Cl w t tm i) ∧ (xq_clash_l4 u n v (nI i) = 0 ∨ xq_clash_l4 u n v (nI i) = 1) ∧ q_xq_clash_l4 np nd u n v (nI i) := by
  intro n
  induction n with
  | zero => intro i v h1 h2; omega
  | succ n ih =>
    intro i v h1 h2 hv
    have hc : mx_gf u 4 3 = nI w := hu
    have ei : (nI i).toNatClampNeg = i := nI_clamp (by omega)
    unfold xq_clash_l4 q_xq_clash_l4
    rw [hc, ei, nI_1]
    by_cases h : w ≤ i
    · have hle : nI w ≤ nI i := (nI_leI (by omega) (by omega)).mpr h
      rw [if_pos hle]
      refine ⟨⟨fun _ q => ?_, fun _ => rfl⟩, Or.inl rfl, fun _ => trivial, fun q => absurd hle q⟩
      obtain ⟨a, b, q1, q2, -⟩ := q
      omega
    · have hle : ¬ nI w ≤ nI i := fun q => h ((nI_leI (by omega) (by omega)).mp q)
      rw [if_neg hle]
      have hin : vp_in (nI i) 18 := vp_in_nI (by omega) (by omega)
      obtain ⟨t1, t2⟩ := ht i (by omega)
      obtain ⟨m1, m2⟩ := htm i (by omega)
      have e5 : mx_ga u 5 i = nI (t i) := t2
      have e7 : mx_ga u 7 i = nI (tm i) := m2
      rw [e5, e7]
      have h0 : nI (tm i) = 0 ↔ tm i = 0 := nI_eq (a := tm i) (b := 0) (by omega) (by omega)
      by_cases g : tm i = 0
      · rw [if_pos (h0.mpr g)]
        by_cases hm : (v &&& ((1 : Int32) <<< (nI (t i) &&& 31))) = 0
        · rw [if_pos hm]
          have hno : ¬ ∃ j, j < i ∧ tm j = 0 ∧ t j = t i := fun q => by
            have := (hv (t i) t1).mpr q
            rw [(pr_mask0 v t1).mp hm] at this
            cases this
          obtain ⟨r1, r2, r3⟩ := ih (i + 1) (v ||| ((1 : Int32) <<< (nI (t i) &&& 31))) (by omega) (by omega) (fun b hb => by
            rw [pr_mask1 v t1 b, Bool.or_eq_true, hv b hb]
            constructor
            · rintro (⟨j, j1, j2, j3⟩ | q)
              · exact ⟨j, by omega, j2, j3⟩
              · simp only [Bool.and_eq_true, decide_eq_true_eq] at q
                exact ⟨i, by omega, g, q.2⟩
            · rintro ⟨j, j1, j2, j3⟩
              by_cases hj : j = i
              · subst hj
                right
                simp [hb, j3]
              · exact Or.inl ⟨j, by omega, j2, j3⟩)
          refine ⟨r1.trans ⟨fun q z => q ?_, fun q z => q ?_⟩, r2, fun q => absurd q hle, fun _ => ⟨hin, fun q => absurd (h0.mpr g) q, fun _ => ⟨hin, fun _ => r3, fun q => absurd hm q⟩⟩⟩
          · obtain ⟨a, b, z1, z2, z3, z4, z5, z6⟩ := z
            by_cases ha : a = i
            · subst ha
              exact absurd ⟨b, z3, z5, z6.symm⟩ hno
            · exact ⟨a, b, by omega, z2, z3, z4, z5, z6⟩
          · obtain ⟨a, b, z1, z2, z3, z4, z5, z6⟩ := z
            exact ⟨a, b, by omega, z2, z3, z4, z5, z6⟩
        · rw [if_neg hm]
          refine ⟨⟨fun q => absurd q (by decide), fun q => absurd ?_ q⟩, Or.inr rfl, fun q => absurd q hle, fun _ => ⟨hin, fun q => absurd (h0.mpr g) q, fun _ => ⟨hin, fun q => absurd q hm, fun _ => trivial⟩⟩⟩
          have hb : v.toBitVec.getLsbD (t i) = true := by
            cases hx : v.toBitVec.getLsbD (t i) with
            | true => rfl
            | false => exact absurd ((pr_mask0 v t1).mpr hx) hm
          obtain ⟨j, j1, j2, j3⟩ := (hv (t i) t1).mp hb
          exact ⟨i, j, by omega, by omega, j1, g, j2, j3.symm⟩
      · have h1 : ¬ nI (tm i) = 0 := fun q => g (h0.mp q)
        rw [if_neg h1]
        obtain ⟨r1, r2, r3⟩ := ih (i + 1) v (by omega) (by omega) (fun b hb => by
          rw [hv b hb]
          constructor
          · rintro ⟨j, j1, j2, j3⟩
            exact ⟨j, by omega, j2, j3⟩
          · rintro ⟨j, j1, j2, j3⟩
            by_cases hj : j = i
            · subst hj; exact absurd j2 g
            · exact ⟨j, by omega, j2, j3⟩)
        refine ⟨r1.trans ⟨fun q z => q ?_, fun q z => q ?_⟩, r2, fun q => absurd q hle, fun _ => ⟨hin, fun _ => r3, fun q => absurd q h1⟩⟩
        · obtain ⟨a, b, z1, z2, z3, z4, z5, z6⟩ := z
          by_cases ha : a = i
          · subst ha; exact absurd z4 g
          · exact ⟨a, b, by omega, z2, z3, z4, z5, z6⟩
        · obtain ⟨a, b, z1, z2, z3, z4, z5, z6⟩ := z
          exact ⟨a, b, by omega, z2, z3, z4, z5, z6⟩
theorem xq_cl (np nd : Nat) {w : Nat} (hw : w ≤ 18) {u : mx_S} {t tm : Nat → Nat} (hu : u.1 4 3 = nI w) (ht : ∀ i, i < w → t i < 32 ∧ u.2 5 i = nI (t i)) (htm : ∀ i, i < w → tm i < 100 ∧ u.2 7 i = nI (tm i)) : (xq_clash u = 0 ↔ ¬ pr_Cl w t tm 0) ∧ q_xq_clash np nd u := by
  obtain ⟨h1, -, h2⟩ := xq_clL np nd w hw u t tm hu ht htm 20 0 0 (by omega) (by omega) (fun b hb => ⟨fun h => by simp at h, fun ⟨j, h, _⟩ => absurd h (Nat.not_lt_zero j)⟩)
  rw [xq_clash_eq]
  exact ⟨h1, h2⟩
