/-! the first step of a cycle: what was to land lands, or clashes -/
theorem pr_step (c t : Int32) : c + t = c + 1 + (t - 1) := by
  rw [Int32.add_assoc, Int32.add_comm 1 (t - 1), Int32.sub_add_cancel]
theorem pr_pred {k : Nat} (h : 1 ≤ k) : nI k - 1 = nI (k - 1) := by
  obtain ⟨j, rfl⟩ : ∃ j, k = j + 1 := ⟨k - 1, by omega⟩
  rw [nI_pred]
  rfl
theorem pr_cnt_shift {tm : Nat → Nat} {r : Nat} (hr : 1 ≤ r) : ∀ {w : Nat}, (∀ j, j < w → 1 ≤ tm j) → pr_cnt (fun i => tm i - 1) r w = pr_cnt tm (r + 1) w
  | 0, _ => rfl
  | w + 1, h => by
    show pr_cnt (fun i => tm i - 1) r w + (if tm w - 1 = r then 1 else 0) = pr_cnt tm (r + 1) w + (if tm w = r + 1 then 1 else 0)
    rw [pr_cnt_shift hr (fun j hj => h j (by omega))]
    have := h w (by omega)
    by_cases e : tm w = r + 1
    · rw [if_pos e, if_pos (by omega)]
    · rw [if_neg e, if_neg (by omega)]
theorem pr_cnt_sum {f : Nat → Nat} : ∀ {w : Nat}, (∀ j, j < w → 1 ≤ f j ∧ f j ≤ 4) → w = pr_cnt f 1 w + pr_cnt f 2 w + pr_cnt f 3 w + pr_cnt f 4 w
  | 0, _ => rfl
  | w + 1, h => by
    have ih := pr_cnt_sum (f := f) (w := w) (fun j hj => h j (by omega))
    have hw := h w (by omega)
    show w + 1 = (pr_cnt f 1 w + (if f w = 1 then 1 else 0)) + (pr_cnt f 2 w + (if f w = 2 then 1 else 0)) + (pr_cnt f 3 w + (if f w = 3 then 1 else 0)) + (pr_cnt f 4 w + (if f w = 4 then 1 else 0))
    rcases (show f w = 1 ∨ f w = 2 ∨ f w = 3 ∨ f w = 4 by omega) with e | e | e | e <;> rw [e] <;> simp <;> omega
/-- the writes behind a landing -/
def pr_W1 (x m : mx_S) : Prop := ∃ w tm, w ≤ 10 ∧ pr_Wr x m w tm ∧ (∀ j, j < w → 1 ≤ tm j ∧ tm j ≤ 4) ∧ pr_cnt tm 4 w ≤ 2 ∧ pr_cnt tm 3 w ≤ 2 ∧ pr_cnt tm 2 w ≤ 2
/-- the branches, before they come nearer (the Model's cycle has begun) -/
def pr_B1 (x m : mx_S) : Prop := ∃ b, b ≤ 12 ∧ pr_Bc x m b ∧ ∃ bt, (∀ i, i < b → x.2 9 i = m.2 7 i ∧ m.2 8 i + 1 = m.1 0 8 + x.2 10 i ∧ x.2 10 i = nI (bt i)) ∧ pr_btOK b bt
def pr_R1 (np nd : Nat) (x m : mx_S) : Prop := pr_Sz np nd m ∧ pr_Sc x m ∧ pr_Fl x ∧ pr_Ar np nd x m ∧ pr_W1 x m ∧ pr_B1 x m ∧ x.1 0 5 = 0
theorem ph_land {np nd : Nat} {x m : mx_S} (hR : pr_Rel np nd x m) (h0 : x.1 0 5 = 0) :
    q_xm_landWrites np nd (mx_sf x 0 7 (mx_gf x 0 7 + 1)) ∧ q_mm_lands (mx_sf m 0 8 (mx_gf m 0 8 + 1)) ∧
    ((mm_lands (mx_sf m 0 8 (mx_gf m 0 8 + 1)) = 0 ∧ pr_R1 np nd (xm_landWrites (mx_sf x 0 7 (mx_gf x 0 7 + 1))) (mx_sf (mm_lands_s (mx_sf m 0 8 (mx_gf m 0 8 + 1))) 0 6 0)) ∨
     (mm_lands (mx_sf m 0 8 (mx_gf m 0 8 + 1)) = 5 ∧ (xm_landWrites (mx_sf x 0 7 (mx_gf x 0 7 + 1))).1 0 5 = 5 ∧ pr_Rel np nd (xm_landWrites (mx_sf x 0 7 (mx_gf x 0 7 + 1))) (mx_sf (mm_lands_s (mx_sf m 0 8 (mx_gf m 0 8 + 1))) 0 6 5))) := by
  obtain ⟨hZ, ⟨s1, s2, s3, s4, s5, s6, s7⟩, hF, ⟨a1, a2, a3⟩, ⟨w, tm, w1, ⟨w2, w3, w4⟩, w5⟩, ⟨b, b1, ⟨b2, b3⟩, b4⟩⟩ := hR
  obtain ⟨u1, u2, u3, u4, u5⟩ := w5 h0
  obtain ⟨bt, v1, v2⟩ := b4 h0
  obtain ⟨x1, hx1⟩ : ∃ z, z = mx_sf x 0 7 (mx_gf x 0 7 + 1) := ⟨_, rfl⟩
  obtain ⟨m1, hm1⟩ : ∃ z, z = mx_sf m 0 8 (mx_gf m 0 8 + 1) := ⟨_, rfl⟩
  rw [← hx1, ← hm1]
  have x11 : ∀ a b, ¬ (a = 0 ∧ b = 7) → x1.1 a b = x.1 a b := fun a b q => by
    rw [hx1]
    show (if a = 0 then (if b = 7 then _ else _) else _) = _
    by_cases ha : a = 0
    · rw [if_pos ha, if_neg (fun z => q ⟨ha, z⟩)]
    · rw [if_neg ha]
  have m11 : ∀ a b, ¬ (a = 0 ∧ b = 8) → m1.1 a b = m.1 a b := fun a b q => by
    rw [hm1]
    show (if a = 0 then (if b = 8 then _ else _) else _) = _
    by_cases ha : a = 0
    · rw [if_pos ha, if_neg (fun z => q ⟨ha, z⟩)]
    · rw [if_neg ha]
  have x17 : x1.1 0 7 = x.1 0 7 + 1 := by rw [hx1]; rfl
  have m18 : m1.1 0 8 = m.1 0 8 + 1 := by rw [hm1]; rfl
  have x12 : x1.2 = x.2 := by rw [hx1]; rfl
  have m12 : m1.2 = m.2 := by rw [hm1]; rfl
  clear hx1 hm1
  have c1 : x1.1 4 3 = nI w := (x11 4 3 (by omega)).trans w2
  have d1 : m1.1 0 13 = nI w := (m11 0 13 (by omega)).trans w3
  obtain ⟨ecn, qcn⟩ := xq_cn np nd w1 c1
  obtain ⟨x2, hx2⟩ : ∃ z, z = xq_comeNearer x1 := ⟨_, rfl⟩
  have x21 : x2.1 = x1.1 := by rw [hx2, ecn]
  have x22 : ∀ a j, x2.2 a j = if a = 7 ∧ j < w then x.2 a j - 1 else x.2 a j := fun a j => by rw [hx2, ecn, ← x12]
  have x22o : ∀ a j, a ≠ 7 → x2.2 a j = x.2 a j := fun a j ha => by rw [x22, if_neg (fun q => ha q.1)]
  have hE : ∀ j, j < w → pr_E x2 m1 j (tm j - 1) := by
    intro j hj
    obtain ⟨⟨t, ht, et⟩, e1, e2, e3, e4⟩ := w4 j hj
    have ht1 := (u1 j hj).1
    refine ⟨⟨t, ht, ?_⟩, ?_, ?_, ?_, ?_⟩
    · rw [x22o 5 j (by decide)]; exact et
    · rw [x22o 5 j (by decide), m12]; exact e1
    · rw [x22o 6 j (by decide), m12]; exact e2
    · rw [x22, if_pos ⟨rfl, hj⟩, m12, m18, e3]
      exact pr_step _ _
    · rw [x22, if_pos ⟨rfl, hj⟩, e4]
      exact pr_pred ht1
  have hch : ∀ j, ∃ t, j < w → t < 32 ∧ x2.2 5 j = nI t := by
    intro j
    by_cases hj : j < w
    · obtain ⟨⟨t, ht, et⟩, -⟩ := hE j hj
      exact ⟨t, fun _ => ⟨ht, et⟩⟩
    · exact ⟨0, fun q => absurd q hj⟩
  obtain ⟨t, ht⟩ := Classical.axiomOfChoice hch
  have hc2 : x2.1 4 3 = nI w := by rw [x21]; exact c1
  obtain ⟨hcl, qcl⟩ := xq_cl np nd w1 (u := x2) (t := t) (tm := fun j => tm j - 1) hc2 ht (fun j hj => ⟨by have := u1 j hj; omega, (hE j hj).2.2.2.2⟩)
  obtain ⟨l1, l2⟩ := mm_ld2 (u := m1) (t := t) (tm := fun j => tm j - 1) w1 d1 (fun j hj => ⟨(ht j hj).1, by rw [← (hE j hj).2.1]; exact (ht j hj).2⟩) (fun j hj => ⟨by have := u1 j hj; omega, by rw [(hE j hj).2.2.2.1, (hE j hj).2.2.2.2]⟩) 20 0 (by omega) (by omega)
  have sc : pr_Sz np nd m1 ∧ x1.1 0 5 = m1.1 0 6 ∧ x1.1 0 6 = m1.1 0 7 ∧ x1.1 0 7 = m1.1 0 8 ∧ x1.1 0 8 = m1.1 0 9 ∧ x1.1 0 9 = m1.1 0 10 ∧ x1.1 0 10 = m1.1 0 12 ∧ x1.1 0 11 = m1.1 0 11 := by
    obtain ⟨z1, z2, z3, z4, z5, z6⟩ := hZ
    refine ⟨⟨z1, z2, z3, z4, (m11 0 1 (by omega)).trans z5, (m11 0 2 (by omega)).trans z6⟩, ?_, ?_, ?_, ?_, ?_, ?_, ?_⟩
    · rw [x11 0 5 (by omega), m11 0 6 (by omega)]; exact s1
    · rw [x11 0 6 (by omega), m11 0 7 (by omega)]; exact s2
    · rw [x17, m18, s3]
    · rw [x11 0 8 (by omega), m11 0 9 (by omega)]; exact s4
    · rw [x11 0 9 (by omega), m11 0 10 (by omega)]; exact s5
    · rw [x11 0 10 (by omega), m11 0 12 (by omega)]; exact s6
    · rw [x11 0 11 (by omega), m11 0 11 (by omega)]; exact s7
  obtain ⟨hZ1, t1, t2, t3, t4, t5, t6, t7⟩ := sc
  have hF1 : pr_Fl x1 := by
    obtain ⟨f1, f2⟩ := hF
    refine ⟨?_, ?_⟩
    · rw [x11 0 11 (by omega)]; exact f1
    · rw [x11 0 10 (by omega)]; exact f2
  rw [xm_landWrites_eq, mm_lands_eq, mm_lands_s_eq]
  unfold xm_landWrites_b mm_lands_b q_xm_landWrites q_mm_lands
  rw [← hx2]
  by_cases hP : pr_Cl w t (fun j => tm j - 1) 0
  · obtain ⟨e1, q1⟩ := l1 hP
    have e1 : mm_lands_l2 20 0 m1 = (5, m1) := e1
    have hne : ¬ xq_clash x2 = 0 := fun q => hcl.mp q hP
    rw [if_neg hne, e1]
    refine ⟨⟨qcn, qcl, fun q => absurd q hne, fun _ => trivial⟩, q1, Or.inr ⟨rfl, rfl, hZ1, ⟨rfl, ?_, ?_, ?_, ?_, ?_, ?_⟩, ?_, ⟨?_, ?_, ?_⟩, ⟨w, fun j => tm j - 1, w1, ⟨hc2, d1, fun j hj => hE j hj⟩, fun q => absurd q (by show ¬ (5 : Int32) = 0; decide)⟩, ⟨b, b1, ⟨?_, ?_⟩, fun q => absurd q (by show ¬ (5 : Int32) = 0; decide)⟩⟩⟩
    · show x2.1 0 6 = m1.1 0 7; rw [x21]; exact t2
    · show x2.1 0 7 = m1.1 0 8; rw [x21]; exact t3
    · show x2.1 0 8 = m1.1 0 9; rw [x21]; exact t4
    · show x2.1 0 9 = m1.1 0 10; rw [x21]; exact t5
    · show x2.1 0 10 = m1.1 0 12; rw [x21]; exact t6
    · show x2.1 0 11 = m1.1 0 11; rw [x21]; exact t7
    · show (x2.1 0 11 = 0 ∨ x2.1 0 11 = 1) ∧ ∃ r, r < 16 ∧ x2.1 0 10 = nI r
      rw [x21]; exact hF1
    · intro i hi; show x2.2 1 i = m1.2 1 i; rw [x22o 1 i (by decide), m12]; exact a1 i hi
    · intro i hi; show x2.2 2 i = m1.2 2 i; rw [x22o 2 i (by decide), m12]; exact a2 i hi
    · intro i hi; show x2.2 3 i = m1.2 3 i; rw [x22o 3 i (by decide), m12]; exact a3 i hi
    · show x2.1 8 2 = nI b; rw [x21, x11 8 2 (by omega)]; exact b2
    · show m1.1 0 17 = nI b; rw [m11 0 17 (by omega)]; exact b3
  · obtain ⟨e1, q1⟩ := l2 hP
    have e1 : mm_lands_l2 20 0 m1 = mm_lands_l76 20 0 0 m1 := e1
    have hz : xq_clash x2 = 0 := hcl.mpr hP
    obtain ⟨p1, p2, p3, w', tm', r1, r2, r3, r4⟩ := pr_land np nd w w1 (fun j => tm j - 1) (fun j hj => by have := u1 j hj; show tm j - 1 ≤ 4; omega) 20 0 0 (fun _ => 0) x2 m1 (by omega) (by omega) (by omega) hc2 d1 (fun r hr => by rw [x22o 3 r (by decide), m12]; exact a3 r hr) (fun j hj => absurd hj (Nat.not_lt_zero j)) (fun j _ hj => hE j hj)
    rw [if_pos hz, e1, xq_land_eq]
    have er : xq_land_b x2 = xq_land_l4 20 (nI 0) (nI 0) x2 := rfl
    have er2 : mm_lands_l76 20 0 0 m1 = mm_lands_l76 20 (nI 0) (nI 0) m1 := rfl
    rw [er, er2]
    obtain ⟨x3, hx3⟩ : ∃ z, z = xq_land_l4 20 (nI 0) (nI 0) x2 := ⟨_, rfl⟩
    obtain ⟨z3, hz3⟩ : ∃ z, z = mm_lands_l76 20 (nI 0) (nI 0) m1 := ⟨_, rfl⟩
    rw [← hx3, ← hz3] at p3 r2
    obtain ⟨g1, g2, g3, g4, g5, g6⟩ := p3
    rw [← hx3, ← hz3]
    have hcn : ∀ r, 1 ≤ r → pr_cnt tm' r w' = pr_cnt tm (r + 1) w := fun r hr => by
      have h9 := r4 r hr
      rw [pr_cnt_shift hr (fun j hj => (u1 j hj).1)] at h9
      have e8 : pr_cnt (fun j => tm j - 1) r 0 = 0 := rfl
      have e7 : pr_cnt (fun _ => 0) r 0 = 0 := rfl
      omega
    have n1 : pr_cnt tm' 1 w' = pr_cnt tm 2 w := hcn 1 (by omega)
    have n2 : pr_cnt tm' 2 w' = pr_cnt tm 3 w := hcn 2 (by omega)
    have n3 : pr_cnt tm' 3 w' = pr_cnt tm 4 w := hcn 3 (by omega)
    have n4 : pr_cnt tm' 4 w' = pr_cnt tm 5 w := hcn 4 (by omega)
    have ns := pr_cnt_sum r3
    refine ⟨⟨qcn, qcl, fun _ => p1, fun q => absurd hz q⟩, q1 p2, Or.inl ⟨g1, ⟨?_, ⟨?_, ?_, ?_, ?_, ?_, ?_, ?_⟩, ⟨?_, ?_⟩, ⟨?_, ?_, ?_⟩, ⟨w', tm', by omega, ⟨r2.1, r2.2.1, r2.2.2⟩, r3, by omega, by omega, by omega⟩, ⟨b, b1, ⟨?_, ?_⟩, bt, fun i hi => ?_, v2⟩, ?_⟩⟩⟩
    · obtain ⟨k1, k2, k3, k4, k5, k6⟩ := hZ1
      exact ⟨k1, k2, k3, k4, (g4 0 1 (by omega)).trans k5, (g4 0 2 (by omega)).trans k6⟩
    · show x3.1 0 5 = 0
      rw [g2 0 5 (by omega), x21, x11 0 5 (by omega)]; exact h0
    · show x3.1 0 6 = z3.2.1 0 7; rw [g2 0 6 (by omega), g4 0 7 (by omega), x21]; exact t2
    · show x3.1 0 7 = z3.2.1 0 8; rw [g2 0 7 (by omega), g4 0 8 (by omega), x21]; exact t3
    · show x3.1 0 8 = z3.2.1 0 9; rw [g2 0 8 (by omega), g4 0 9 (by omega), x21]; exact t4
    · show x3.1 0 9 = z3.2.1 0 10; rw [g2 0 9 (by omega), g4 0 10 (by omega), x21]; exact t5
    · show x3.1 0 10 = z3.2.1 0 12; rw [g2 0 10 (by omega), g4 0 12 (by omega), x21]; exact t6
    · show x3.1 0 11 = z3.2.1 0 11; rw [g2 0 11 (by omega), g4 0 11 (by omega), x21]; exact t7
    · rw [g2 0 11 (by omega), x21]; exact hF1.1
    · rw [g2 0 10 (by omega), x21]; exact hF1.2
    · intro i hi; show x3.2 1 i = z3.2.2 1 i; rw [g3 1 i (by decide) (by decide) (by decide) (by decide), g5 1 i (by decide) (by decide) (by decide) (by decide), x22o 1 i (by decide), m12]; exact a1 i hi
    · intro i hi; show x3.2 2 i = z3.2.2 2 i; rw [g3 2 i (by decide) (by decide) (by decide) (by decide), g5 2 i (by decide) (by decide) (by decide) (by decide), x22o 2 i (by decide), m12]; exact a2 i hi
    · intro i hi; exact g6 i hi
    · show x3.1 8 2 = nI b; rw [g2 8 2 (by omega), x21, x11 8 2 (by omega)]; exact b2
    · show z3.2.1 0 17 = nI b; rw [g4 0 17 (by omega), m11 0 17 (by omega)]; exact b3
    · obtain ⟨k1, k2, k3⟩ := v1 i hi
      refine ⟨?_, ?_, ?_⟩
      · show x3.2 9 i = z3.2.2 7 i
        rw [g3 9 i (by decide) (by decide) (by decide) (by decide), g5 7 i (by decide) (by decide) (by decide) (by decide), x22o 9 i (by decide), m12]; exact k1
      · show z3.2.2 8 i + 1 = z3.2.1 0 8 + x3.2 10 i
        rw [g3 10 i (by decide) (by decide) (by decide) (by decide), g5 8 i (by decide) (by decide) (by decide) (by decide), g4 0 8 (by omega), x22o 10 i (by decide), m12, m18, k2]
        rw [Int32.add_assoc, Int32.add_assoc, Int32.add_comm (x.2 10 i) 1]
      · show x3.2 10 i = _
        rw [g3 10 i (by decide) (by decide) (by decide) (by decide), x22o 10 i (by decide)]; exact k3
    · show x3.1 0 5 = 0
      rw [g2 0 5 (by omega), x21, x11 0 5 (by omega)]; exact h0
