/-! the Model's look for two that land in one register; both landings side by side -/
theorem pr_add0 (c : Int32) {t : Nat} (ht : t < 100) : c + nI t = c ↔ t = 0 := by
  constructor
  · intro h
    have h1 : nI t = 0 := by
      have h2 : c + nI t - c = c - c := by rw [h]
      rwa [Int32.add_comm, Int32.add_sub_cancel, Int32.sub_self] at h2
    exact (nI_eq (a := t) (b := 0) (by omega) (by omega)).mp h1
  · intro h
    rw [h]
    exact Int32.add_zero c
section LD
variable {w : Nat} {u : mx_S} {t tm : Nat → Nat}
theorem mm_ld12 (hw : w ≤ 18) (ht : ∀ i, i < w → t i < 32 ∧ u.2 4 i = nI (t i)) (htm : ∀ i, i < w → tm i < 100 ∧ u.2 6 i = u.1 0 8 + nI (tm i)) (K : Int32 → mx_S → Int32 × mx_S) (Q : Int32 → mx_S → Prop) {i : Nat} (hi : i < w) :
    ∀ (n j : Nat), j ≤ i → i < j + n → ((∃ j', j ≤ j' ∧ j' < i ∧ tm i = 0 ∧ tm j' = 0 ∧ t i = t j') → mm_lands_l12 K n (nI i) (nI j) u = (5, u) ∧ q_mm_lands_l12 K Q n (nI i) (nI j) u) ∧
      ((¬ ∃ j', j ≤ j' ∧ j' < i ∧ tm i = 0 ∧ tm j' = 0 ∧ t i = t j') → mm_lands_l12 K n (nI i) (nI j) u = K (nI (i + 1)) u ∧ (Q (nI (i + 1)) u → q_mm_lands_l12 K Q n (nI i) (nI j) u)) := by
  intro n
  induction n with
  | zero => intro j h1 h2; omega
  | succ n ih =>
    intro j h1 h2
    have ei : (nI i).toNatClampNeg = i := nI_clamp (by omega)
    have ej : (nI j).toNatClampNeg = j := nI_clamp (by omega)
    unfold mm_lands_l12 q_mm_lands_l12
    rw [ei, ej, nI_1, nI_1]
    by_cases h : i ≤ j
    · have hle : nI i ≤ nI j := (nI_leI (by omega) (by omega)).mpr h
      rw [if_pos hle]
      exact ⟨fun ⟨a, a1, a2, _⟩ => by omega, fun _ => ⟨rfl, fun hQ => ⟨fun _ => hQ, fun q => absurd hle q⟩⟩⟩
    · have hle : ¬ nI i ≤ nI j := fun q => h ((nI_leI (by omega) (by omega)).mp q)
      rw [if_neg hle]
      have hin : vp_in (nI i) 64 := vp_in_nI (by omega) (by omega)
      have hjn : vp_in (nI j) 64 := vp_in_nI (by omega) (by omega)
      have ci : (mx_ga u 6 i = mx_gf u 0 8) ↔ tm i = 0 := by
        show (u.2 6 i = u.1 0 8) ↔ _
        rw [(htm i hi).2]
        exact pr_add0 _ (htm i hi).1
      have cj : (mx_ga u 6 j = mx_gf u 0 8) ↔ tm j = 0 := by
        show (u.2 6 j = u.1 0 8) ↔ _
        rw [(htm j (by omega)).2]
        exact pr_add0 _ (htm j (by omega)).1
      have ct : (mx_ga u 4 i = mx_ga u 4 j) ↔ t i = t j := by
        show (u.2 4 i = u.2 4 j) ↔ _
        rw [(ht i hi).2, (ht j (by omega)).2]
        have := (ht i hi).1
        have := (ht j (by omega)).1
        exact nI_eq (by omega) (by omega)
      obtain ⟨ih1, ih2⟩ := ih (j + 1) (by omega) (by omega)
      have up : (∃ j', j + 1 ≤ j' ∧ j' < i ∧ tm i = 0 ∧ tm j' = 0 ∧ t i = t j') → ∃ j', j ≤ j' ∧ j' < i ∧ tm i = 0 ∧ tm j' = 0 ∧ t i = t j' := fun ⟨a, a1, a2⟩ => ⟨a, by omega, a2⟩
      by_cases g1 : tm i = 0
      · rw [if_pos (ci.mpr g1)]
        by_cases g2 : tm j = 0
        · rw [if_pos (cj.mpr g2)]
          by_cases g3 : t i = t j
          · rw [if_pos (ct.mpr g3)]
            exact ⟨fun _ => ⟨rfl, fun q => absurd q hle, fun _ => ⟨hin, fun q => absurd (ci.mpr g1) q, fun _ => ⟨hjn, fun q => absurd (cj.mpr g2) q, fun _ => ⟨hin, hjn, fun q => absurd (ct.mpr g3) q, fun _ => trivial⟩⟩⟩⟩, fun q => absurd ⟨j, by omega, by omega, g1, g2, g3⟩ q⟩
          · rw [if_neg (fun q => g3 (ct.mp q))]
            have dn : (∃ j', j ≤ j' ∧ j' < i ∧ tm i = 0 ∧ tm j' = 0 ∧ t i = t j') → ∃ j', j + 1 ≤ j' ∧ j' < i ∧ tm i = 0 ∧ tm j' = 0 ∧ t i = t j' := fun ⟨a, a1, a2, a3, a4, a5⟩ => ⟨a, by rcases Nat.lt_or_ge j a with q | q; exact q; exact absurd a5 (by rw [show a = j by omega]; exact g3), a2, a3, a4, a5⟩
            refine ⟨fun q => ⟨(ih1 (dn q)).1, fun z => absurd z hle, fun _ => ⟨hin, fun z => absurd (ci.mpr g1) z, fun _ => ⟨hjn, fun z => absurd (cj.mpr g2) z, fun _ => ⟨hin, hjn, fun _ => (ih1 (dn q)).2, fun _ => trivial⟩⟩⟩⟩, fun q => ⟨(ih2 (fun z => q (up z))).1, fun hQ => ⟨fun z => absurd z hle, fun _ => ⟨hin, fun z => absurd (ci.mpr g1) z, fun _ => ⟨hjn, fun z => absurd (cj.mpr g2) z, fun _ => ⟨hin, hjn, fun _ => (ih2 (fun z => q (up z))).2 hQ, fun _ => trivial⟩⟩⟩⟩⟩⟩
        · rw [if_neg (fun q => g2 (cj.mp q))]
          have dn : (∃ j', j ≤ j' ∧ j' < i ∧ tm i = 0 ∧ tm j' = 0 ∧ t i = t j') → ∃ j', j + 1 ≤ j' ∧ j' < i ∧ tm i = 0 ∧ tm j' = 0 ∧ t i = t j' := fun ⟨a, a1, a2, a3, a4, a5⟩ => ⟨a, by rcases Nat.lt_or_ge j a with q | q; exact q; exact absurd a4 (by rw [show a = j by omega]; exact g2), a2, a3, a4, a5⟩
          refine ⟨fun q => ⟨(ih1 (dn q)).1, fun z => absurd z hle, fun _ => ⟨hin, fun z => absurd (ci.mpr g1) z, fun _ => ⟨hjn, fun _ => (ih1 (dn q)).2, fun z => absurd (cj.mp z) g2⟩⟩⟩, fun q => ⟨(ih2 (fun z => q (up z))).1, fun hQ => ⟨fun z => absurd z hle, fun _ => ⟨hin, fun z => absurd (ci.mpr g1) z, fun _ => ⟨hjn, fun _ => (ih2 (fun z => q (up z))).2 hQ, fun z => absurd (cj.mp z) g2⟩⟩⟩⟩⟩
      · rw [if_neg (fun q => g1 (ci.mp q))]
        refine ⟨fun ⟨a, a1, a2, a3, _⟩ => absurd a3 g1, fun q => ⟨(ih2 (fun z => q (up z))).1, fun hQ => ⟨fun z => absurd z hle, fun _ => ⟨hin, fun _ => (ih2 (fun z => q (up z))).2 hQ, fun z => absurd (ci.mp z) g1⟩⟩⟩⟩
theorem mm_ld2 (hw : w ≤ 18) (hu : u.1 0 13 = nI w) (ht : ∀ i, i < w → t i < 32 ∧ u.2 4 i = nI (t i)) (htm : ∀ i, i < w → tm i < 100 ∧ u.2 6 i = u.1 0 8 + nI (tm i)) :
    ∀ (n i : Nat), i ≤ w → w < i + n → (pr_Cl w t tm i → mm_lands_l2 n (nI i) u = (5, u) ∧ q_mm_lands_l2 n (nI i) u) ∧ (¬ pr_Cl w t tm i → mm_lands_l2 n (nI i) u = mm_lands_l76 20 0 0 u ∧ (q_mm_lands_l76 20 0 0 u → q_mm_lands_l2 n (nI i) u)) := by
  intro n
  induction n with
  | zero => intro i h1 h2; omega
  | succ n ih =>
    intro i h1 h2
    have hc : mx_gf u 0 13 = nI w := hu
    unfold mm_lands_l2 q_mm_lands_l2
    rw [hc]
    by_cases h : w ≤ i
    · have hle : nI w ≤ nI i := (nI_leI (by omega) (by omega)).mpr h
      rw [if_pos hle]
      exact ⟨fun ⟨a, b, a1, a2, _⟩ => by omega, fun _ => ⟨rfl, fun hQ => ⟨fun _ => hQ, fun q => absurd hle q⟩⟩⟩
    · have hle : ¬ nI w ≤ nI i := fun q => h ((nI_leI (by omega) (by omega)).mp q)
      rw [if_neg hle]
      obtain ⟨k1, k2⟩ := mm_ld12 hw ht htm (fun v1' u' => mm_lands_l2 n v1' u') (fun v1' u' => q_mm_lands_l2 n v1' u') (i := i) (by omega) 20 0 (by omega) (by omega)
      obtain ⟨ih1, ih2⟩ := ih (i + 1) (by omega) (by omega)
      by_cases g : ∃ j', 0 ≤ j' ∧ j' < i ∧ tm i = 0 ∧ tm j' = 0 ∧ t i = t j'
      · obtain ⟨e1, e2⟩ := k1 g
        obtain ⟨j', -, a2, a3, a4, a5⟩ := g
        exact ⟨fun _ => ⟨e1, fun z => absurd z hle, fun _ => e2⟩, fun q => absurd ⟨i, j', by omega, by omega, a2, a3, a4, a5⟩ q⟩
      · obtain ⟨e1, e2⟩ := k2 g
        refine ⟨fun q => ?_, fun q => ?_⟩
        · have q2 : pr_Cl w t tm (i + 1) := by
            obtain ⟨a, b, a1, a2, a3, a4, a5, a6⟩ := q
            by_cases ha : a = i
            · subst ha; exact absurd ⟨b, Nat.zero_le _, a3, a4, a5, a6⟩ g
            · exact ⟨a, b, by omega, a2, a3, a4, a5, a6⟩
          exact ⟨e1.trans (ih1 q2).1, fun z => absurd z hle, fun _ => e2 (ih1 q2).2⟩
        · have q2 : ¬ pr_Cl w t tm (i + 1) := fun ⟨a, b, a1, a2⟩ => q ⟨a, b, by omega, a2⟩
          exact ⟨e1.trans (ih2 q2).1, fun hQ => ⟨fun z => absurd z hle, fun _ => e2 ((ih2 q2).2 hQ)⟩⟩
end LD
/-! counting -/
theorem pr_cnt_congr {f g : Nat → Nat} {r : Nat} : ∀ {w : Nat}, (∀ j, j < w → f j = g j) → pr_cnt f r w = pr_cnt g r w
  | 0, _ => rfl
  | w + 1, h => by
    unfold pr_cnt
    rw [pr_cnt_congr (fun j hj => h j (by omega)), h w (by omega)]
theorem pr_cnt_push (f : Nat → Nat) (k v r : Nat) : pr_cnt (fun j => if j = k then v else f j) r (k + 1) = pr_cnt f r k + (if v = r then 1 else 0) := by
  show pr_cnt (fun j => if j = k then v else f j) r k + (if (if k = k then v else f k) = r then 1 else 0) = _
  rw [pr_cnt_congr (g := f) (fun j hj => if_neg (by omega)), if_pos rfl]
/-- one write that is due, on both sides -/
def pr_E (x m : mx_S) (j t : Nat) : Prop := (∃ s, s < 32 ∧ x.2 5 j = nI s) ∧ x.2 5 j = m.2 4 j ∧ x.2 6 j = m.2 5 j ∧ m.2 6 j = m.1 0 8 + x.2 7 j ∧ x.2 7 j = nI t
/-- what both landings leave -/
def pr_LE (x m x' : mx_S) (z : Int32 × mx_S) : Prop :=
  z.1 = 0 ∧ (∀ a b, ¬ (a = 4 ∧ b = 3) → x'.1 a b = x.1 a b) ∧ (∀ a j, a ≠ 3 → a ≠ 5 → a ≠ 6 → a ≠ 7 → x'.2 a j = x.2 a j) ∧ (∀ a b, ¬ (a = 0 ∧ b = 13) → z.2.1 a b = m.1 a b) ∧ (∀ a j, a ≠ 3 → a ≠ 4 → a ≠ 5 → a ≠ 6 → z.2.2 a j = m.2 a j) ∧ (∀ r, r < 32 → x'.2 3 r = z.2.2 3 r)
theorem pr_land (np nd w : Nat) (hw : w ≤ 18) (tr : Nat → Nat) (htr : ∀ j, j < w → tr j ≤ 4) : ∀ (n k i : Nat) (tk : Nat → Nat) (x m : mx_S), k ≤ i → i ≤ w → w < i + n → x.1 4 3 = nI w → m.1 0 13 = nI w → (∀ r, r < 32 → x.2 3 r = m.2 3 r) → (∀ j, j < k → pr_E x m j (tk j) ∧ 1 ≤ tk j ∧ tk j ≤ 4) → (∀ j, i ≤ j → j < w → pr_E x m j (tr j)) →
    q_xq_land_l4 np nd n (nI k) (nI i) x ∧ q_mm_lands_l76 n (nI k) (nI i) m ∧ pr_LE x m (xq_land_l4 n (nI k) (nI i) x) (mm_lands_l76 n (nI k) (nI i) m) ∧
    ∃ w' tm', w' ≤ w ∧ pr_Wr (xq_land_l4 n (nI k) (nI i) x) (mm_lands_l76 n (nI k) (nI i) m).2 w' tm' ∧ (∀ j, j < w' → 1 ≤ tm' j ∧ tm' j ≤ 4) ∧ ∀ r, 1 ≤ r → pr_cnt tm' r w' + pr_cnt tr r i = pr_cnt tk r k + pr_cnt tr r w := by
  intro n
  induction n with
  | zero => intro k i tk x m h1 h2 h3; omega
  | succ n ih =>
    intro k i tk x m h1 h2 h3 hx hm hr hk hi
    have hcx : mx_gf x 4 3 = nI w := hx
    have hcm : mx_gf m 0 13 = nI w := hm
    have ei : (nI i).toNatClampNeg = i := nI_clamp (by omega)
    have ek : (nI k).toNatClampNeg = k := nI_clamp (by omega)
    unfold xq_land_l4 q_xq_land_l4 mm_lands_l76 q_mm_lands_l76
    rw [hcx, hcm, ei, ek, nI_1, nI_1]
    by_cases h : w ≤ i
    · have hle : nI w ≤ nI i := (nI_leI (by omega) (by omega)).mpr h
      rw [if_pos hle, if_pos hle]
      refine ⟨⟨fun _ => trivial, fun q => absurd hle q⟩, ⟨fun _ => trivial, fun q => absurd hle q⟩, ⟨rfl, fun a b q => ?_, fun _ _ _ _ _ _ => rfl, fun a b q => ?_, fun _ _ _ _ _ _ => rfl, hr⟩, k, tk, by omega, ⟨rfl, rfl, fun j hj => (hk j hj).1⟩, fun j hj => (hk j hj).2, fun r _ => by rw [show i = w by omega]⟩
      · show (if a = 4 then (if b = 3 then _ else _) else _) = _
        by_cases ha : a = 4
        · rw [if_pos ha, if_neg (fun z => q ⟨ha, z⟩)]
        · rw [if_neg ha]
      · show (if a = 0 then (if b = 13 then _ else _) else _) = _
        by_cases ha : a = 0
        · rw [if_pos ha, if_neg (fun z => q ⟨ha, z⟩)]
        · rw [if_neg ha]
    · have hle : ¬ nI w ≤ nI i := fun q => h ((nI_leI (by omega) (by omega)).mp q)
      rw [if_neg hle, if_neg hle]
      have hin : vp_in (nI i) 18 := vp_in_nI (by omega) (by omega)
      have hkn : vp_in (nI k) 18 := vp_in_nI (by omega) (by omega)
      have hin2 : vp_in (nI i) 64 := vp_in_nI (by omega) (by omega)
      have hkn2 : vp_in (nI k) 64 := vp_in_nI (by omega) (by omega)
      obtain ⟨⟨s, hs, es⟩, e1, e2, e3, e4⟩ := hi i (Nat.le_refl _) (by omega)
      have hti := htr i (by omega)
      have cx : (mx_ga x 7 i = 0) ↔ tr i = 0 := by
        show (x.2 7 i = 0) ↔ _
        rw [e4]
        exact nI_eq (a := tr i) (b := 0) (by omega) (by omega)
      have cm : (mx_ga m 6 i = mx_gf m 0 8) ↔ tr i = 0 := by
        show (m.2 6 i = m.1 0 8) ↔ _
        rw [e3, e4]
        exact pr_add0 _ (by omega)
      have es2 : (mx_ga x 5 i).toNatClampNeg = s := by
        show (x.2 5 i).toNatClampNeg = s
        rw [es]; exact nI_clamp (by omega)
      have es3 : (mx_ga m 4 i).toNatClampNeg = s := by
        show (m.2 4 i).toNatClampNeg = s
        rw [← e1, es]; exact nI_clamp (by omega)
      have hsn : vp_in (mx_ga x 5 i) 32 := by
        show vp_in (x.2 5 i) 32
        rw [es]; exact vp_in_nI hs (by omega)
      have hsn2 : vp_in (mx_ga m 4 i) 32 := by
        show vp_in (m.2 4 i) 32
        rw [← e1, es]; exact vp_in_nI hs (by omega)
      by_cases g : tr i = 0
      · rw [if_pos (cx.mpr g), if_pos (cm.mpr g), es2, es3]
        obtain ⟨q1, q2, ⟨l1, l2, l3, l4, l5, l6⟩, w', tm', r1, r2, r3, r4⟩ := ih k (i + 1) tk (mx_sa x 3 s (mx_ga x 6 i)) (mx_sa m 3 s (mx_ga m 5 i)) (by omega) (by omega) (by omega) hx hm (fun r hr2 => by
            show (if r = s then x.2 6 i else x.2 3 r) = (if r = s then m.2 5 i else m.2 3 r)
            rw [e2, hr r hr2]) (fun j hj => hk j hj) (fun j hj hj2 => hi j (by omega) hj2)
        refine ⟨⟨fun z => absurd z hle, fun _ => ⟨hin, fun z => absurd (cx.mpr g) z, fun _ => ⟨hin, hin, hsn, q1⟩⟩⟩, ⟨fun z => absurd z hle, fun _ => ⟨hin2, fun z => absurd (cm.mpr g) z, fun _ => ⟨hin2, hin2, hsn2, q2⟩⟩⟩, ⟨l1, l2, fun a j a1 a2 a3 a4 => (l3 a j a1 a2 a3 a4).trans (if_neg a1), l4, fun a j a1 a2 a3 a4 => (l5 a j a1 a2 a3 a4).trans (if_neg a1), l6⟩, w', tm', r1, r2, r3, fun r hr1 => ?_⟩
        have := r4 r hr1
        have e9 : pr_cnt tr r (i + 1) = pr_cnt tr r i + (if tr i = r then 1 else 0) := rfl
        rw [if_neg (by omega)] at e9
        omega
      · have gx : ¬ mx_ga x 7 i = 0 := fun z => g (cx.mp z)
        have gm : ¬ mx_ga m 6 i = mx_gf m 0 8 := fun z => g (cm.mp z)
        rw [if_neg gx, if_neg gm]
        obtain ⟨q1, q2, ⟨l1, l2, l3, l4, l5, l6⟩, w', tm', r1, r2, r3, r4⟩ := ih (k + 1) (i + 1) (fun j => if j = k then tr i else tk j) (mx_sa (mx_sa (mx_sa x 5 k (mx_ga x 5 i)) 6 k (mx_ga x 6 i)) 7 k (mx_ga x 7 i)) (mx_sa (mx_sa (mx_sa m 4 k (mx_ga m 4 i)) 5 k (mx_ga m 5 i)) 6 k (mx_ga m 6 i)) (by omega) (by omega) (by omega) hx hm hr (fun j hj => by
            by_cases hj2 : j = k
            · subst hj2
              refine ⟨⟨⟨s, hs, ?_⟩, ?_, ?_, ?_, ?_⟩, ?_⟩
              · show (if j = j then x.2 5 i else x.2 5 j) = _
                rw [if_pos rfl]; exact es
              · show (if j = j then x.2 5 i else x.2 5 j) = (if j = j then m.2 4 i else m.2 4 j)
                rw [if_pos rfl, if_pos rfl]; exact e1
              · show (if j = j then x.2 6 i else x.2 6 j) = (if j = j then m.2 5 i else m.2 5 j)
                rw [if_pos rfl, if_pos rfl]; exact e2
              · show (if j = j then m.2 6 i else m.2 6 j) = m.1 0 8 + (if j = j then x.2 7 i else x.2 7 j)
                rw [if_pos rfl, if_pos rfl]; exact e3
              · show (if j = j then x.2 7 i else x.2 7 j) = nI (if j = j then tr i else tk j)
                rw [if_pos rfl, if_pos rfl]; exact e4
              · show 1 ≤ (if j = j then tr i else tk j) ∧ (if j = j then tr i else tk j) ≤ 4
                rw [if_pos rfl]
                omega
            · obtain ⟨⟨⟨s', hs', es'⟩, b1, b2, b3, b4⟩, b5⟩ := hk j (by omega)
              refine ⟨⟨⟨s', hs', ?_⟩, ?_, ?_, ?_, ?_⟩, ?_⟩
              · show (if j = k then x.2 5 i else x.2 5 j) = _
                rw [if_neg hj2]; exact es'
              · show (if j = k then x.2 5 i else x.2 5 j) = (if j = k then m.2 4 i else m.2 4 j)
                rw [if_neg hj2, if_neg hj2]; exact b1
              · show (if j = k then x.2 6 i else x.2 6 j) = (if j = k then m.2 5 i else m.2 5 j)
                rw [if_neg hj2, if_neg hj2]; exact b2
              · show (if j = k then m.2 6 i else m.2 6 j) = m.1 0 8 + (if j = k then x.2 7 i else x.2 7 j)
                rw [if_neg hj2, if_neg hj2]; exact b3
              · show (if j = k then x.2 7 i else x.2 7 j) = nI (if j = k then tr i else tk j)
                rw [if_neg hj2, if_neg hj2]; exact b4
              · show 1 ≤ (if j = k then tr i else tk j) ∧ (if j = k then tr i else tk j) ≤ 4
                rw [if_neg hj2]; exact b5) (fun j hj hj2 => by
            have hjk : ¬ j = k := by omega
            obtain ⟨⟨s', hs', es'⟩, b1, b2, b3, b4⟩ := hi j (by omega) hj2
            refine ⟨⟨s', hs', ?_⟩, ?_, ?_, ?_, ?_⟩
            · show (if j = k then x.2 5 i else x.2 5 j) = _
              rw [if_neg hjk]; exact es'
            · show (if j = k then x.2 5 i else x.2 5 j) = (if j = k then m.2 4 i else m.2 4 j)
              rw [if_neg hjk, if_neg hjk]; exact b1
            · show (if j = k then x.2 6 i else x.2 6 j) = (if j = k then m.2 5 i else m.2 5 j)
              rw [if_neg hjk, if_neg hjk]; exact b2
            · show (if j = k then m.2 6 i else m.2 6 j) = m.1 0 8 + (if j = k then x.2 7 i else x.2 7 j)
              rw [if_neg hjk, if_neg hjk]; exact b3
            · show (if j = k then x.2 7 i else x.2 7 j) = nI (tr j)
              rw [if_neg hjk]; exact b4)
        refine ⟨⟨fun z => absurd z hle, fun _ => ⟨hin, fun _ => ⟨hin, hkn, hin, hkn, hin, hkn, q1⟩, fun z => absurd z gx⟩⟩, ⟨fun z => absurd z hle, fun _ => ⟨hin2, fun _ => ⟨hin2, hkn2, hin2, hkn2, hin2, hkn2, q2⟩, fun z => absurd z gm⟩⟩, ⟨l1, l2, fun a j a1 a2 a3 a4 => (l3 a j a1 a2 a3 a4).trans ?_, l4, fun a j a1 a2 a3 a4 => (l5 a j a1 a2 a3 a4).trans ?_, l6⟩, w', tm', r1, r2, r3, fun r hr1 => ?_⟩
        · show (if a = 7 then _ else if a = 6 then _ else if a = 5 then _ else x.2 a j) = x.2 a j
          rw [if_neg a4, if_neg a3, if_neg a2]
        · show (if a = 6 then _ else if a = 5 then _ else if a = 4 then _ else m.2 a j) = m.2 a j
          rw [if_neg a4, if_neg a3, if_neg a2]
        · have := r4 r hr1
          rw [pr_cnt_push] at this
          have e9 : pr_cnt tr r (i + 1) = pr_cnt tr r i + (if tr i = r then 1 else 0) := rfl
          omega
