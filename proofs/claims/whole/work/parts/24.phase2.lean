/-! the second step of a cycle: a branch arrives, or two -/
theorem xb_tf (np nd b : Nat) (hb : b ≤ 12) : ∀ (n i : Nat) (v : Int32) (u : mx_S), 1 ≤ i → i ≤ b → b < i + n → u.1 8 2 = nI b →
    xb_takeFirst_l9 n v (nI i) u = (v, mx_sf (u.1, fun a j => if (a = 9 ∨ a = 10) ∧ i ≤ j + 1 ∧ j + 1 < b then u.2 a (j + 1) else u.2 a j) 8 2 (nI b - 1)) ∧ q_xb_takeFirst_l9 np nd n v (nI i) u := by
  intro n
  induction n with
  | zero => intro i v u h0 h1 h2; omega
  | succ n ih =>
    intro i v u h0 h1 h2 hu
    have hc : mx_gf u 8 2 = nI b := hu
    have ei : (nI i).toNatClampNeg = i := nI_clamp (by omega)
    have ep : nI i - 1 = nI (i - 1) := pr_pred h0
    have ei2 : (nI (i - 1)).toNatClampNeg = i - 1 := nI_clamp (by omega)
    unfold xb_takeFirst_l9 q_xb_takeFirst_l9
    rw [hc, ep, ei, ei2, nI_1]
    by_cases h : b ≤ i
    · have hle : nI b ≤ nI i := (nI_leI (by omega) (by omega)).mpr h
      rw [if_pos hle]
      refine ⟨?_, fun _ => trivial, fun q => absurd hle q⟩
      have e : u = (u.1, fun a j => if (a = 9 ∨ a = 10) ∧ i ≤ j + 1 ∧ j + 1 < b then u.2 a (j + 1) else u.2 a j) := pr_sx rfl (fun a j => by
        show u.2 a j = if _ then _ else _
        rw [if_neg (by omega)])
      rw [← e]
    · have hle : ¬ nI b ≤ nI i := fun q => h ((nI_leI (by omega) (by omega)).mp q)
      rw [if_neg hle]
      have hin : vp_in (nI i) 12 := vp_in_nI (by omega) (by omega)
      have hin2 : vp_in (nI (i - 1)) 12 := vp_in_nI (by omega) (by omega)
      obtain ⟨e, hq⟩ := ih (i + 1) v (mx_sa (mx_sa u 9 (i - 1) (mx_ga u 9 i)) 10 (i - 1) (mx_ga u 10 i)) (by omega) (by omega) (by omega) hu
      refine ⟨?_, fun q => absurd q hle, fun _ => ⟨hin, hin2, hin, hin2, hq⟩⟩
      refine e.trans ?_
      congr 2
      refine pr_sx rfl (fun a j => ?_)
      show (if (a = 9 ∨ a = 10) ∧ i + 1 ≤ j + 1 ∧ j + 1 < b then (if a = 10 then (if j + 1 = i - 1 then u.2 10 i else (if a = 9 then (if j + 1 = i - 1 then u.2 9 i else u.2 a (j + 1)) else u.2 a (j + 1))) else (if a = 9 then (if j + 1 = i - 1 then u.2 9 i else u.2 a (j + 1)) else u.2 a (j + 1))) else (if a = 10 then (if j = i - 1 then u.2 10 i else (if a = 9 then (if j = i - 1 then u.2 9 i else u.2 a j) else u.2 a j)) else (if a = 9 then (if j = i - 1 then u.2 9 i else u.2 a j) else u.2 a j))) = if (a = 9 ∨ a = 10) ∧ i ≤ j + 1 ∧ j + 1 < b then u.2 a (j + 1) else u.2 a j
      by_cases ha : a = 9
      · subst ha
        simp only [true_or, true_and, if_true, show ¬ (9 : Nat) = 10 by decide, if_false]
        by_cases hj : j = i - 1
        · subst hj
          rw [if_neg (by omega), if_pos rfl, if_pos (by omega), show i - 1 + 1 = i by omega]
        · rw [if_neg hj]
          by_cases hb2 : i + 1 ≤ j + 1 ∧ j + 1 < b
          · rw [if_pos hb2, if_neg (by omega), if_pos (by omega)]
          · rw [if_neg hb2, if_neg (by omega)]
      · by_cases ha2 : a = 10
        · subst ha2
          simp only [or_true, true_and, if_true, show ¬ (10 : Nat) = 9 by decide, if_false]
          by_cases hj : j = i - 1
          · subst hj
            rw [if_neg (by omega), if_pos rfl, if_pos (by omega), show i - 1 + 1 = i by omega]
          · rw [if_neg hj]
            by_cases hb2 : i + 1 ≤ j + 1 ∧ j + 1 < b
            · rw [if_pos hb2, if_neg (by omega), if_pos (by omega)]
            · rw [if_neg hb2, if_neg (by omega)]
        · simp only [ha, ha2, or_self, false_and, if_false]
theorem mm_ar70 (e : Nat) (he : e ≤ 12) : ∀ (n i : Nat) (u : mx_S), i ≤ e → e < i + n → u.1 0 17 = nI e →
    mm_arrives_l70 n (nI i) u = (0, (u.1, fun a j => if (a = 7 ∨ a = 8) ∧ i ≤ j ∧ j < e then u.2 a (j + 1) else u.2 a j)) ∧ q_mm_arrives_l70 n (nI i) u := by
  intro n
  induction n with
  | zero => intro i u h1 h2; omega
  | succ n ih =>
    intro i u h1 h2 hu
    have hc : mx_gf u 0 17 = nI e := hu
    have ei : (nI i).toNatClampNeg = i := nI_clamp (by omega)
    have ei2 : (nI (i + 1)).toNatClampNeg = i + 1 := nI_clamp (by omega)
    unfold mm_arrives_l70 q_mm_arrives_l70
    rw [hc, nI_1, ei, ei2]
    by_cases h : e ≤ i
    · have hle : nI e ≤ nI i := (nI_leI (by omega) (by omega)).mpr h
      rw [if_pos hle]
      refine ⟨?_, fun _ => trivial, fun q => absurd hle q⟩
      have e : u = (u.1, fun a j => if (a = 7 ∨ a = 8) ∧ i ≤ j ∧ j < e then u.2 a (j + 1) else u.2 a j) := pr_sx rfl (fun a j => by
        show u.2 a j = if _ then _ else _
        rw [if_neg (by omega)])
      rw [← e]
    · have hle : ¬ nI e ≤ nI i := fun q => h ((nI_leI (by omega) (by omega)).mp q)
      rw [if_neg hle]
      have hin : vp_in (nI i) 32 := vp_in_nI (by omega) (by omega)
      have hin2 : vp_in (nI (i + 1)) 32 := vp_in_nI (by omega) (by omega)
      obtain ⟨e2, hq⟩ := ih (i + 1) (mx_sa (mx_sa u 7 i (mx_ga u 7 (i + 1))) 8 i (mx_ga u 8 (i + 1))) (by omega) (by omega) hu
      refine ⟨?_, fun q => absurd q hle, fun _ => ⟨hin2, hin, hin2, hin, hq⟩⟩
      refine e2.trans ?_
      congr 1
      refine pr_sx rfl (fun a j => ?_)
      show (if (a = 7 ∨ a = 8) ∧ i + 1 ≤ j ∧ j < e then (if a = 8 then (if j + 1 = i then u.2 8 (i + 1) else (if a = 7 then (if j + 1 = i then u.2 7 (i + 1) else u.2 a (j + 1)) else u.2 a (j + 1))) else (if a = 7 then (if j + 1 = i then u.2 7 (i + 1) else u.2 a (j + 1)) else u.2 a (j + 1))) else (if a = 8 then (if j = i then u.2 8 (i + 1) else (if a = 7 then (if j = i then u.2 7 (i + 1) else u.2 a j) else u.2 a j)) else (if a = 7 then (if j = i then u.2 7 (i + 1) else u.2 a j) else u.2 a j))) = if (a = 7 ∨ a = 8) ∧ i ≤ j ∧ j < e then u.2 a (j + 1) else u.2 a j
      by_cases ha : a = 7
      · subst ha
        simp only [true_or, true_and, if_true, show ¬ (7 : Nat) = 8 by decide, if_false]
        by_cases hj : j = i
        · subst hj
          rw [if_neg (by omega), if_pos rfl, if_pos (by omega)]
        · rw [if_neg hj]
          by_cases hb2 : i + 1 ≤ j ∧ j < e
          · rw [if_pos hb2, if_neg (by omega), if_pos (by omega)]
          · rw [if_neg hb2, if_neg (by omega)]
      · by_cases ha2 : a = 8
        · subst ha2
          simp only [or_true, true_and, if_true, show ¬ (8 : Nat) = 7 by decide, if_false]
          by_cases hj : j = i
          · subst hj
            rw [if_neg (by omega), if_pos rfl, if_pos (by omega)]
          · rw [if_neg hj]
            by_cases hb2 : i + 1 ≤ j ∧ j < e
            · rw [if_pos hb2, if_neg (by omega), if_pos (by omega)]
            · rw [if_neg hb2, if_neg (by omega)]
        · simp only [ha, ha2, or_self, false_and, if_false]
theorem xb_arS (np nd : Nat) {b : Nat} {u : mx_S} (hu : u.1 8 2 = nI b) (hb : b ≤ 12) {i : Nat} (hi : i ≤ b) (h : i < b → ¬ u.2 10 i = 0) (n : Nat) : xb_arrived_l2 u (n + 1) (nI i) = nI i ∧ q_xb_arrived_l2 np nd u (n + 1) (nI i) := by
  have hc : mx_gf u 8 2 = nI b := hu
  have ei : (nI i).toNatClampNeg = i := nI_clamp (by omega)
  unfold xb_arrived_l2 q_xb_arrived_l2
  rw [hc, ei]
  by_cases g : b ≤ i
  · have hle : nI b ≤ nI i := (nI_leI (by omega) (by omega)).mpr g
    rw [if_pos hle]
    exact ⟨rfl, fun _ => trivial, fun q => absurd hle q⟩
  · have hle : ¬ nI b ≤ nI i := fun q => g ((nI_leI (by omega) (by omega)).mp q)
    have hn : ¬ mx_ga u 10 i = 0 := h (by omega)
    rw [if_neg hle, if_neg hn]
    exact ⟨rfl, fun q => absurd q hle, fun _ => ⟨vp_in_nI (by omega) (by omega), fun _ => trivial, fun q => absurd q hn⟩⟩
theorem xb_arG (np nd : Nat) {b : Nat} {u : mx_S} (hu : u.1 8 2 = nI b) (hb : b ≤ 12) {i : Nat} (hi : i < b) (h : u.2 10 i = 0) (n : Nat) : xb_arrived_l2 u (n + 1) (nI i) = xb_arrived_l2 u n (nI (i + 1)) ∧ (q_xb_arrived_l2 np nd u n (nI (i + 1)) → q_xb_arrived_l2 np nd u (n + 1) (nI i)) := by
  have hc : mx_gf u 8 2 = nI b := hu
  have ei : (nI i).toNatClampNeg = i := nI_clamp (by omega)
  have hle : ¬ nI b ≤ nI i := fun q => by have := (nI_leI (by omega) (by omega)).mp q; omega
  have hz : mx_ga u 10 i = 0 := h
  rw [show xb_arrived_l2 u (n + 1) (nI i) = if (mx_gf u 8 2) ≤ nI i then nI i else if (mx_ga u 10 (nI i).toNatClampNeg) = 0 then xb_arrived_l2 u n (nI i + 1) else nI i from rfl, hc, ei, if_neg hle, if_pos hz, nI_1]
  refine ⟨rfl, fun q => ?_⟩
  show ((mx_gf u 8 2 ≤ nI i) → True) ∧ ((¬ (mx_gf u 8 2 ≤ nI i)) → (vp_in (nI i) 12) ∧ (((¬ (mx_ga u 10 (nI i).toNatClampNeg = 0)) → True) ∧ ((mx_ga u 10 (nI i).toNatClampNeg = 0) → q_xb_arrived_l2 np nd u n (nI i + 1))))
  rw [nI_1]
  exact ⟨fun _ => trivial, fun _ => ⟨vp_in_nI (by omega) (by omega), fun _ => trivial, fun _ => q⟩⟩
theorem mm_ar4 {b : Nat} {u : mx_S} (hu : u.1 0 17 = nI b) (hb : b ≤ 12) (v : Int32) : ∀ (n i : Nat), i ≤ b → b < i + n → (∀ j, i ≤ j → j < b → ¬ u.2 8 j = u.1 0 8) →
    mm_arrives_l4 n v (nI i) u = (if v = (-1) then (0, u) else mm_arrives_l70 20 v (mx_sf (mx_sf u 0 7 (mx_ga u 7 v.toNatClampNeg)) 0 17 (nI b - 1))) ∧ ((¬ v = (-1) → vp_in v 32 ∧ q_mm_arrives_l70 20 v (mx_sf (mx_sf u 0 7 (mx_ga u 7 v.toNatClampNeg)) 0 17 (nI b - 1))) → q_mm_arrives_l4 n v (nI i) u) := by
  intro n
  induction n with
  | zero => intro i h1 h2; omega
  | succ n ih =>
    intro i h1 h2 hn
    have hc : mx_gf u 0 17 = nI b := hu
    have hc2 : mx_gf (mx_sf u 0 7 (mx_ga u 7 v.toNatClampNeg)) 0 17 = nI b := hu
    have ei : (nI i).toNatClampNeg = i := nI_clamp (by omega)
    unfold mm_arrives_l4 q_mm_arrives_l4
    rw [hc2, hc, ei, nI_1]
    by_cases h : b ≤ i
    · have hle : nI b ≤ nI i := (nI_leI (by omega) (by omega)).mpr h
      rw [if_pos hle]
      exact ⟨rfl, fun q => ⟨fun _ => ⟨fun z => q z, fun _ => trivial⟩, fun z => absurd hle z⟩⟩
    · have hle : ¬ nI b ≤ nI i := fun q => h ((nI_leI (by omega) (by omega)).mp q)
      have hno : ¬ mx_ga u 8 i = mx_gf u 0 8 := hn i (Nat.le_refl _) (by omega)
      rw [if_neg hle, if_neg hno]
      obtain ⟨e, q⟩ := ih (i + 1) (by omega) (by omega) (fun j hj hj2 => hn j (by omega) hj2)
      exact ⟨e, fun z => ⟨fun y => absurd y hle, fun _ => ⟨vp_in_nI (by omega) (by omega), fun _ => q z, fun y => absurd y hno⟩⟩⟩
theorem pr_mono {b : Nat} {bt : Nat → Nat} (h : ∀ i, i + 1 < b → bt i ≤ bt (i + 1)) (i : Nat) : ∀ j, i ≤ j → j < b → bt i ≤ bt j := by
  intro j
  induction j with
  | zero => intro h1 _; rw [show i = 0 by omega]; exact Nat.le_refl _
  | succ j ih =>
    intro h1 h2
    by_cases e : i = j + 1
    · rw [e]; exact Nat.le_refl _
    · exact Nat.le_trans (ih (by omega) (by omega)) (h j h2)
def pr_bt5 (b : Nat) (bt : Nat → Nat) : Prop := (∀ i, i < b → 1 ≤ bt i ∧ bt i ≤ 5) ∧ (∀ i, i + 1 < b → bt i ≤ bt (i + 1)) ∧ (∀ i, i + 2 < b → bt i < bt (i + 2))
theorem pr_b10 {b : Nat} {bt : Nat → Nat} (h : pr_bt5 b bt) : b ≤ 10 := by
  rcases Nat.lt_or_ge 10 b with q | q
  · have h0 := (h.1 0 (by omega)).1
    have h1 := h.2.2 0 (by omega)
    have h2 := h.2.2 2 (by omega)
    have h3 := h.2.2 4 (by omega)
    have h4 := h.2.2 6 (by omega)
    have h5 := h.2.2 8 (by omega)
    have h6 := (h.1 10 (by omega)).2
    simp only [Nat.zero_add, Nat.reduceAdd] at h1 h2 h3 h4 h5
    omega
  · exact q
def pr_B2 (x m : mx_S) : Prop := ∃ b bt, pr_Bc x m b ∧ pr_Br x m b bt ∧ pr_bt5 b bt
def pr_R2 (np nd : Nat) (x m : mx_S) : Prop := pr_Sz np nd m ∧ pr_Sc x m ∧ pr_Fl x ∧ pr_Ar np nd x m ∧ pr_W1 x m ∧ pr_B2 x m ∧ x.1 0 5 = 0
/-- W1 speaks of few cells -/
theorem pr_W1_mv {x m x' m' : mx_S} (h : pr_W1 x m) (hx : x'.1 4 3 = x.1 4 3) (hm : m'.1 0 13 = m.1 0 13) (hc : m'.1 0 8 = m.1 0 8) (h5 : ∀ a j, a = 5 ∨ a = 6 ∨ a = 7 → x'.2 a j = x.2 a j) (h4 : ∀ a j, a = 4 ∨ a = 5 ∨ a = 6 → m'.2 a j = m.2 a j) : pr_W1 x' m' := by
  obtain ⟨w, tm, w1, ⟨w2, w3, w4⟩, w5⟩ := h
  refine ⟨w, tm, w1, ⟨hx.trans w2, hm.trans w3, fun i hi => ?_⟩, w5⟩
  rw [h5 5 i (by decide), h5 6 i (by decide), h5 7 i (by decide), h4 4 i (by decide), h4 5 i (by decide), h4 6 i (by decide), hc]
  exact w4 i hi
set_option maxHeartbeats 1000000 in
theorem ph_branch {np nd : Nat} {x m : mx_S} (hR : pr_R1 np nd x m) :
    q_xm_takeBranch np nd x ∧ q_mm_arrives m ∧
    ((mm_arrives m = 0 ∧ pr_R2 np nd (xm_takeBranch x) (mx_sf (mm_arrives_s m) 0 6 0)) ∨
     (mm_arrives m = 6 ∧ (xm_takeBranch x).1 0 5 = 6 ∧ pr_Rel np nd (xm_takeBranch x) (mx_sf (mm_arrives_s m) 0 6 6))) := by
  obtain ⟨hZ, ⟨s1, s2, s3, s4, s5, s6, s7⟩, hF, ⟨a1, a2, a3⟩, hW, ⟨b, b1, ⟨b2, b3⟩, bt, v1, ⟨t1, t2, t3⟩⟩, h0⟩ := hR
  obtain ⟨ecn, qcn⟩ := xb_cn np nd b1 b2
  obtain ⟨x2, hx2⟩ : ∃ z, z = xb_comeNearer x := ⟨_, rfl⟩
  have x21 : x2.1 = x.1 := by rw [hx2, ecn]
  have x22 : ∀ a j, x2.2 a j = if a = 10 ∧ j < b then x.2 a j - 1 else x.2 a j := fun a j => by rw [hx2, ecn]
  have x22o : ∀ a j, a ≠ 10 → x2.2 a j = x.2 a j := fun a j ha => by rw [x22, if_neg (fun q => ha q.1)]
  have x210 : ∀ j, j < b → x2.2 10 j = nI (bt j - 1) := fun j hj => by
    rw [x22, if_pos ⟨rfl, hj⟩, (v1 j hj).2.2]
    exact pr_pred (t1 j hj).1
  have m8 : ∀ j, j < b → m.2 8 j = m.1 0 8 + nI (bt j - 1) := fun j hj => by
    have e := (v1 j hj).2.1
    rw [(v1 j hj).2.2] at e
    have e2 : m.2 8 j + 1 - 1 = m.1 0 8 + nI (bt j) - 1 := by rw [e]
    rw [Int32.add_sub_cancel] at e2
    have e3 : nI (bt j) = nI (bt j - 1) + 1 := by
      rw [nI_1, Nat.sub_add_cancel (t1 j hj).1]
    rw [e2, e3, ← Int32.add_assoc, Int32.add_sub_cancel]
  have z10 : ∀ j, j < b → (x2.2 10 j = 0 ↔ bt j = 1) := fun j hj => by
    rw [x210 j hj]
    have := t1 j hj
    exact (nI_eq (a := bt j - 1) (b := 0) (by omega) (by omega)).trans (by omega)
  have z8 : ∀ j, j < b → (m.2 8 j = m.1 0 8 ↔ bt j = 1) := fun j hj => by
    rw [m8 j hj]
    have := t1 j hj
    exact (pr_add0 _ (by omega)).trans (by omega)
  have hc2 : x2.1 8 2 = nI b := by rw [x21]; exact b2
  have hsame : ∀ x' m' : mx_S, True → True := fun _ _ h => h
  rw [xm_takeBranch_eq, mm_arrives_eq, mm_arrives_s_eq]
  unfold xm_takeBranch_b mm_arrives_b q_xm_takeBranch q_mm_arrives
  rw [← hx2, xb_arrived_eq]
  unfold xb_arrived_b q_xb_arrived
  by_cases hA : ∀ j, j < b → ¬ bt j = 1
  · -- nothing arrives
    obtain ⟨e1, q1⟩ := xb_arS np nd hc2 b1 (i := 0) (by omega) (fun q z => hA 0 q ((z10 0 q).mp z)) 19
    have e1 : xb_arrived_l2 x2 20 0 = 0 := e1
    have q1 : q_xb_arrived_l2 np nd x2 20 0 := q1
    obtain ⟨e2, q2⟩ := mm_ar4 b3 b1 (-1) 20 0 (by omega) (by omega) (fun j _ hj z => hA j hj ((z8 j hj).mp z))
    rw [if_pos rfl] at e2
    have e2 : mm_arrives_l4 20 (-1) 0 m = (0, m) := e2
    rw [e1, e2, if_pos (by decide), if_neg (by decide)]
    refine ⟨⟨qcn, q1, fun _ => ⟨fun _ => trivial, fun q => absurd q (by decide)⟩, fun q => absurd (by decide) q⟩, q2 (fun q => absurd rfl q), Or.inl ⟨rfl, hZ, ⟨?_, ?_, ?_, ?_, ?_, ?_, ?_⟩, ⟨?_, ?_⟩, ⟨?_, ?_, ?_⟩, ?_, ⟨b, fun j => bt j - 1, ⟨hc2, b3⟩, fun j hj => ⟨?_, ?_, x210 j hj⟩, ⟨fun j hj => ?_, fun j hj => ?_, fun j hj => ?_⟩⟩, ?_⟩⟩
    · show x2.1 0 5 = 0; rw [x21]; exact h0
    · show x2.1 0 6 = m.1 0 7; rw [x21]; exact s2
    · show x2.1 0 7 = m.1 0 8; rw [x21]; exact s3
    · show x2.1 0 8 = m.1 0 9; rw [x21]; exact s4
    · show x2.1 0 9 = m.1 0 10; rw [x21]; exact s5
    · show x2.1 0 10 = m.1 0 12; rw [x21]; exact s6
    · show x2.1 0 11 = m.1 0 11; rw [x21]; exact s7
    · rw [x21]; exact hF.1
    · rw [x21]; exact hF.2
    · intro i hi; show x2.2 1 i = m.2 1 i; rw [x22o 1 i (by decide)]; exact a1 i hi
    · intro i hi; show x2.2 2 i = m.2 2 i; rw [x22o 2 i (by decide)]; exact a2 i hi
    · intro i hi; show x2.2 3 i = m.2 3 i; rw [x22o 3 i (by decide)]; exact a3 i hi
    · exact pr_W1_mv hW (by rw [x21]) rfl rfl (fun a j h => x22o a j (by omega)) (fun _ _ _ => rfl)
    · show x2.2 9 j = m.2 7 j; rw [x22o 9 j (by decide)]; exact (v1 j hj).1
    · show m.2 8 j = m.1 0 8 + x2.2 10 j; rw [x210 j hj]; exact m8 j hj
    · have := t1 j hj; have := hA j hj; show 1 ≤ bt j - 1 ∧ bt j - 1 ≤ 5; omega
    · have := t2 j hj; show bt j - 1 ≤ bt (j + 1) - 1; omega
    · have := t3 j hj; have := t1 j (by omega); have := t1 (j + 2) (by omega); have := hA j (by omega); show bt j - 1 < bt (j + 2) - 1; omega
    · show x2.1 0 5 = 0; rw [x21]; exact h0
  · -- the first arrives
    obtain ⟨j0, hj0, ej0⟩ : ∃ j, j < b ∧ bt j = 1 := Classical.byContradiction (fun q => hA (fun j hj e => q ⟨j, hj, e⟩))
    have hb0 : 0 < b := by omega
    have eb0 : bt 0 = 1 := by have := pr_mono t2 0 j0 (by omega) hj0; have := t1 0 hb0; omega
    obtain ⟨e1, q1⟩ := xb_arG np nd hc2 b1 (i := 0) hb0 ((z10 0 hb0).mpr eb0) 19
    have hm0 : mx_ga m 8 0 = mx_gf m 0 8 := (z8 0 hb0).mpr eb0
    have hle0 : ¬ nI b ≤ nI 0 := fun q => by have := (nI_leI (by omega) (by omega)).mp q; omega
    have hcm : mx_gf m 0 17 = nI b := b3
    have em1 : mm_arrives_l4 20 (-1) (nI 0) m = mm_arrives_l4 19 (nI 0) (nI 1) m := by
      rw [show mm_arrives_l4 20 (-1) (nI 0) m = if (mx_gf m 0 17) ≤ nI 0 then (if ((-1) : Int32) = (-1) then (0, m) else mm_arrives_l70 20 (-1) (mx_sf (mx_sf m 0 7 (mx_ga m 7 ((-1) : Int32).toNatClampNeg)) 0 17 ((mx_gf (mx_sf m 0 7 (mx_ga m 7 ((-1) : Int32).toNatClampNeg)) 0 17) - (1 : Int32)))) else if (mx_ga m 8 (nI 0).toNatClampNeg) = (mx_gf m 0 8) then (if ((-1) : Int32) = (-1) then mm_arrives_l4 19 (nI 0) (nI 0 + 1) m else (6, m)) else mm_arrives_l4 19 (-1) (nI 0 + 1) m from rfl, hcm, if_neg hle0, nI_clamp (by omega), if_pos hm0, if_pos rfl, nI_1]
    have qm1 : q_mm_arrives_l4 19 (nI 0) (nI 1) m → q_mm_arrives_l4 20 (-1) (nI 0) m := by
      intro z
      unfold q_mm_arrives_l4
      rw [hcm, nI_clamp (by omega), nI_1]
      exact ⟨fun y => absurd y hle0, fun _ => ⟨vp_in_nI (by omega) (by omega), fun y => absurd hm0 y, fun _ => ⟨fun _ => z, fun y => absurd rfl y⟩⟩⟩
    by_cases hB : ∃ j, 1 ≤ j ∧ j < b ∧ bt j = 1
    · -- and the second
      obtain ⟨j1, h11, h12, h13⟩ := hB
      have hb1 : 1 < b := by omega
      have eb1 : bt 1 = 1 := by have := pr_mono t2 1 j1 h11 h12; have := t1 1 hb1; omega
      obtain ⟨e2, q2⟩ := xb_arG np nd hc2 b1 (i := 1) hb1 ((z10 1 hb1).mpr eb1) 18
      obtain ⟨e3, q3⟩ := xb_arS np nd hc2 b1 (i := 2) (by omega) (fun q z => by have := (z10 2 q).mp z; have := t3 0 (by omega); simp only [Nat.zero_add] at this; omega) 17
      have e1 : xb_arrived_l2 x2 20 0 = nI 2 := e1.trans (e2.trans e3)
      have q1 : q_xb_arrived_l2 np nd x2 20 0 := q1 (q2 q3)
      have hm2 : mx_ga m 8 1 = mx_gf m 0 8 := (z8 1 hb1).mpr eb1
      have hle1 : ¬ nI b ≤ nI 1 := fun q => by have := (nI_leI (by omega) (by omega)).mp q; omega
      have hn1 : ¬ nI 0 = (-1 : Int32) := by decide
      have em2 : mm_arrives_l4 19 (nI 0) (nI 1) m = (6, m) := by
        rw [show mm_arrives_l4 19 (nI 0) (nI 1) m = if (mx_gf m 0 17) ≤ nI 1 then (if nI 0 = (-1) then (0, m) else mm_arrives_l70 20 (nI 0) (mx_sf (mx_sf m 0 7 (mx_ga m 7 (nI 0).toNatClampNeg)) 0 17 ((mx_gf (mx_sf m 0 7 (mx_ga m 7 (nI 0).toNatClampNeg)) 0 17) - (1 : Int32)))) else if (mx_ga m 8 (nI 1).toNatClampNeg) = (mx_gf m 0 8) then (if nI 0 = (-1) then mm_arrives_l4 18 (nI 1) (nI 1 + 1) m else (6, m)) else mm_arrives_l4 18 (nI 0) (nI 1 + 1) m from rfl, hcm, if_neg hle1, nI_clamp (n := 1) (by omega), if_pos hm2, if_neg hn1]
      have qm2 : q_mm_arrives_l4 19 (nI 0) (nI 1) m := by
        unfold q_mm_arrives_l4
        rw [hcm, nI_clamp (n := 1) (by omega)]
        exact ⟨fun y => absurd y hle1, fun _ => ⟨vp_in_nI (by omega) (by omega), fun y => absurd hm2 y, fun _ => ⟨fun y => absurd y hn1, fun _ => trivial⟩⟩⟩
      have em : mm_arrives_l4 20 (-1) 0 m = (6, m) := em1.trans em2
      rw [e1, em, if_neg (by decide)]
      refine ⟨⟨qcn, q1, fun q => absurd q (by decide), fun _ => trivial⟩, qm1 qm2, Or.inr ⟨rfl, rfl, hZ, ⟨rfl, ?_, ?_, ?_, ?_, ?_, ?_⟩, ?_, ⟨?_, ?_, ?_⟩, ?_, ⟨b, b1, ⟨hc2, b3⟩, fun q => absurd q (by show ¬ (6 : Int32) = 0; decide)⟩⟩⟩
      · show x2.1 0 6 = m.1 0 7; rw [x21]; exact s2
      · show x2.1 0 7 = m.1 0 8; rw [x21]; exact s3
      · show x2.1 0 8 = m.1 0 9; rw [x21]; exact s4
      · show x2.1 0 9 = m.1 0 10; rw [x21]; exact s5
      · show x2.1 0 10 = m.1 0 12; rw [x21]; exact s6
      · show x2.1 0 11 = m.1 0 11; rw [x21]; exact s7
      · show (x2.1 0 11 = 0 ∨ x2.1 0 11 = 1) ∧ ∃ r, r < 16 ∧ x2.1 0 10 = nI r
        rw [x21]; exact hF
      · intro i hi; show x2.2 1 i = m.2 1 i; rw [x22o 1 i (by decide)]; exact a1 i hi
      · intro i hi; show x2.2 2 i = m.2 2 i; rw [x22o 2 i (by decide)]; exact a2 i hi
      · intro i hi; show x2.2 3 i = m.2 3 i; rw [x22o 3 i (by decide)]; exact a3 i hi
      · obtain ⟨w, tm, w1, ⟨w2, w3, w4⟩, w5⟩ := pr_W1_mv (x' := mx_sf x2 0 5 6) (m' := mx_sf m 0 6 6) hW (by show x2.1 4 3 = _; rw [x21]) rfl rfl (fun a j h => x22o a j (by omega)) (fun _ _ _ => rfl)
        exact ⟨w, tm, by omega, ⟨w2, w3, w4⟩, fun q => absurd q (by show ¬ (6 : Int32) = 0; decide)⟩
    · -- only the first
      have hB2 : ∀ j, 1 ≤ j → j < b → ¬ bt j = 1 := fun j h1 h2 e => hB ⟨j, h1, h2, e⟩
      obtain ⟨e2, q2⟩ := xb_arS np nd hc2 b1 (i := 1) (by omega) (fun q z => hB2 1 (by omega) q ((z10 1 q).mp z)) 18
      have e1 : xb_arrived_l2 x2 20 0 = 1 := e1.trans e2
      have q1 : q_xb_arrived_l2 np nd x2 20 0 := q1 q2
      obtain ⟨e3, q3⟩ := mm_ar4 b3 b1 (nI 0) 19 1 (by omega) (by omega) (fun j h1 hj z => hB2 j h1 hj ((z8 j hj).mp z))
      have hn1 : ¬ nI 0 = (-1 : Int32) := by decide
      rw [if_neg hn1, nI_clamp (by omega), pr_pred (by omega)] at e3
      rw [nI_clamp (by omega), pr_pred (by omega)] at q3
      obtain ⟨e4, q4⟩ := mm_ar70 (b - 1) (by omega) 20 0 (mx_sf (mx_sf m 0 7 (mx_ga m 7 0)) 0 17 (nI (b - 1))) (by omega) (by omega) rfl
      have em : mm_arrives_l4 20 (-1) 0 m = _ := em1.trans (e3.trans e4)
      obtain ⟨e5, q5⟩ := xb_tf np nd b b1 20 1 (mx_ga x2 9 ((0 : Int32)).toNatClampNeg) x2 (by omega) (by omega) (by omega) hc2
      have et : xb_takeFirst_b x2 = _ := e5
      rw [e1, em, if_pos (by decide), if_pos rfl, xb_takeFirst_eq, xb_takeFirst_s_eq, et]
      have hin0 : vp_in (nI 0) 32 := vp_in_nI (by omega) (by omega)
      refine ⟨⟨qcn, q1, fun _ => ⟨fun q => absurd rfl q, fun _ => q5⟩, fun q => absurd (by decide) q⟩, qm1 (q3 (fun _ => ⟨hin0, q4⟩)), Or.inl ⟨rfl, ?_, ⟨?_, ?_, ?_, ?_, ?_, ?_, ?_⟩, ⟨?_, ?_⟩, ⟨?_, ?_, ?_⟩, ?_, ⟨b - 1, fun j => bt (j + 1) - 1, ⟨?_, rfl⟩, fun j hj => ⟨?_, ?_, ?_⟩, ⟨fun j hj => ?_, fun j hj => ?_, fun j hj => ?_⟩⟩, ?_⟩⟩
      · exact hZ
      · show x2.1 0 5 = 0; rw [x21]; exact h0
      · show x2.2 9 0 = m.2 7 0; rw [x22o 9 0 (by decide)]; exact (v1 0 hb0).1
      · show x2.1 0 7 = m.1 0 8; rw [x21]; exact s3
      · show x2.1 0 8 = m.1 0 9; rw [x21]; exact s4
      · show x2.1 0 9 = m.1 0 10; rw [x21]; exact s5
      · show x2.1 0 10 = m.1 0 12; rw [x21]; exact s6
      · show x2.1 0 11 = m.1 0 11; rw [x21]; exact s7
      · show x2.1 0 11 = 0 ∨ x2.1 0 11 = 1; rw [x21]; exact hF.1
      · show ∃ r, r < 16 ∧ x2.1 0 10 = nI r; rw [x21]; exact hF.2
      · intro i hi; show (if (1 = 9 ∨ 1 = 10) ∧ 1 ≤ i + 1 ∧ i + 1 < b then x2.2 1 (i + 1) else x2.2 1 i) = (if (1 = 7 ∨ 1 = 8) ∧ 0 ≤ i ∧ i < b - 1 then m.2 1 (i + 1) else m.2 1 i); rw [if_neg (by omega), if_neg (by omega), x22o 1 i (by decide)]; exact a1 i hi
      · intro i hi; show (if (2 = 9 ∨ 2 = 10) ∧ 1 ≤ i + 1 ∧ i + 1 < b then x2.2 2 (i + 1) else x2.2 2 i) = (if (2 = 7 ∨ 2 = 8) ∧ 0 ≤ i ∧ i < b - 1 then m.2 2 (i + 1) else m.2 2 i); rw [if_neg (by omega), if_neg (by omega), x22o 2 i (by decide)]; exact a2 i hi
      · intro i hi; show (if (3 = 9 ∨ 3 = 10) ∧ 1 ≤ i + 1 ∧ i + 1 < b then x2.2 3 (i + 1) else x2.2 3 i) = (if (3 = 7 ∨ 3 = 8) ∧ 0 ≤ i ∧ i < b - 1 then m.2 3 (i + 1) else m.2 3 i); rw [if_neg (by omega), if_neg (by omega), x22o 3 i (by decide)]; exact a3 i hi
      · refine pr_W1_mv hW (by show x2.1 4 3 = _; rw [x21]) rfl rfl (fun a j h => ?_) (fun a j h => ?_)
        · show (if (a = 9 ∨ a = 10) ∧ 1 ≤ j + 1 ∧ j + 1 < b then _ else x2.2 a j) = _
          rw [if_neg (by omega)]; exact x22o a j (by omega)
        · show (if (a = 7 ∨ a = 8) ∧ 0 ≤ j ∧ j < b - 1 then _ else m.2 a j) = _
          rw [if_neg (by omega)]
      · show nI b - 1 = nI (b - 1); exact pr_pred (by omega)
      · show (if (9 = 9 ∨ 9 = 10) ∧ 1 ≤ j + 1 ∧ j + 1 < b then x2.2 9 (j + 1) else x2.2 9 j) = (if (7 = 7 ∨ 7 = 8) ∧ 0 ≤ j ∧ j < b - 1 then m.2 7 (j + 1) else m.2 7 j)
        rw [if_pos (by omega), if_pos (by omega), x22o 9 _ (by decide)]
        exact (v1 (j + 1) (by omega)).1
      · show (if (8 = 7 ∨ 8 = 8) ∧ 0 ≤ j ∧ j < b - 1 then m.2 8 (j + 1) else m.2 8 j) = m.1 0 8 + (if (10 = 9 ∨ 10 = 10) ∧ 1 ≤ j + 1 ∧ j + 1 < b then x2.2 10 (j + 1) else x2.2 10 j)
        rw [if_pos (by omega), if_pos (by omega), x210 (j + 1) (by omega)]
        exact m8 (j + 1) (by omega)
      · show (if (10 = 9 ∨ 10 = 10) ∧ 1 ≤ j + 1 ∧ j + 1 < b then x2.2 10 (j + 1) else x2.2 10 j) = _
        rw [if_pos (by omega)]
        exact x210 (j + 1) (by omega)
      · have := t1 (j + 1) (by omega); have := hB2 (j + 1) (by omega) (by omega); show 1 ≤ bt (j + 1) - 1 ∧ bt (j + 1) - 1 ≤ 5; omega
      · have := t2 (j + 1) (by omega); show bt (j + 1) - 1 ≤ bt (j + 1 + 1) - 1; omega
      · have h9 := t3 (j + 1) (by omega); have := t1 (j + 1) (by omega); rw [show j + 1 + 2 = j + 2 + 1 by omega] at h9; show bt (j + 1) - 1 < bt (j + 2 + 1) - 1; omega
      · show x2.1 0 5 = 0; rw [x21]; exact h0
