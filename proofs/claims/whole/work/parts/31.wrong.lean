/-! what is wrong with a packet: the Model's loops, and both sides alike -/
theorem pr_out_reach {nd : Nat} {m : mx_S} {w : Int32} (h2 : m.1 0 2 = nI nd) : mm_reaches w m = 0 ↔ pr_out nd ((m.2 3 (pr_f w 17 5)) + mm_second w m) := by
  rw [mm_reaches_eq]
  unfold mm_reaches_b pr_out
  have a1 := pr_flt w 17 5
  have ea : (mm_a w).toNatClampNeg = pr_f w 17 5 := by rw [pf_a]; exact nI_clamp (by omega)
  have e2 : mx_gf m 0 2 = nI nd := h2
  have eg : mx_ga m 3 (pr_f w 17 5) = m.2 3 (pr_f w 17 5) := rfl
  rw [ea, e2, eg]
  generalize (m.2 3 (pr_f w 17 5)) + mm_second w m = A
  by_cases g1 : A < 0
  · rw [if_pos g1]; exact ⟨fun _ q => q.1 g1, fun _ => rfl⟩
  · rw [if_neg g1]
    by_cases g2 : nI nd ≤ A
    · rw [if_pos g2]; exact ⟨fun _ q => absurd q.2 (Int32.not_lt.mpr g2), fun _ => rfl⟩
    · rw [if_neg g2]; exact ⟨fun q => absurd q (by decide), fun q => absurd ⟨g1, Int32.not_le.mp g2⟩ q⟩
theorem pr_da (w : Int32) {x m : mx_S} (h3 : ∀ i, i < 32 → x.2 3 i = m.2 3 i) : xm_dataAddress w x = (m.2 3 (pr_f w 17 5)) + mm_second w m := by
  unfold xm_dataAddress
  have a1 := pr_flt w 17 5
  have ea : (xw_a w).toNatClampNeg = pr_f w 17 5 := by
    have : xw_a w = nI (pr_f w 17 5) := pf_a w
    rw [this]; exact nI_clamp (by omega)
  rw [ea, pf_second w x m h3]
  show x.2 3 _ + _ = _
  rw [h3 _ a1]
/-- none, one, or two -/
def pr_I (C : Nat → Prop) (k i c : Nat) : Prop := (c = 0 ∧ ∀ j, k ≤ j → j < i → ¬ C j) ∨ (c = 1 ∧ ∃ j0, k ≤ j0 ∧ j0 < i ∧ C j0 ∧ ∀ j, k ≤ j → j < i → C j → j = j0) ∨ (2 ≤ c ∧ ∃ a j, a < i ∧ k ≤ j ∧ j < a ∧ C a ∧ C j)
theorem pr_I_no {C : Nat → Prop} {k i c : Nat} (h : pr_I C k i c) (hC : ¬ C i) : pr_I C k (i + 1) c := by
  rcases h with ⟨h1, h2⟩ | ⟨h1, j0, h2, h3, h4, h5⟩ | ⟨h1, a, j, h2, h3, h4, h5, h6⟩
  · refine Or.inl ⟨h1, fun j j1 j2 => ?_⟩
    by_cases e : j = i
    · rw [e]; exact hC
    · exact h2 j j1 (by omega)
  · refine Or.inr (Or.inl ⟨h1, j0, h2, by omega, h4, fun j j1 j2 j3 => ?_⟩)
    by_cases e : j = i
    · rw [e] at j3; exact absurd j3 hC
    · exact h5 j j1 (by omega) j3
  · exact Or.inr (Or.inr ⟨h1, a, j, by omega, h3, h4, h5, h6⟩)
theorem pr_I_yes {C : Nat → Prop} {k i c : Nat} (hk : k ≤ i) (h : pr_I C k i c) (hC : C i) : pr_I C k (i + 1) (c + 1) := by
  rcases h with ⟨h1, h2⟩ | ⟨h1, j0, h2, h3, h4, h5⟩ | ⟨h1, a, j, h2, h3, h4, h5, h6⟩
  · refine Or.inr (Or.inl ⟨by omega, i, hk, by omega, hC, fun j j1 j2 j3 => ?_⟩)
    by_cases e : j = i
    · exact e
    · exact absurd j3 (h2 j j1 (by omega))
  · exact Or.inr (Or.inr ⟨by omega, i, j0, by omega, h2, h3, hC, h4⟩)
  · exact Or.inr (Or.inr ⟨by omega, a, j, by omega, h3, h4, h5, h6⟩)
theorem pr_I_end {C : Nat → Prop} {k e c : Nat} (h : pr_I C k e c) : c ≤ 1 ↔ ∀ a j, a < e → k ≤ j → j < a → ¬ (C a ∧ C j) := by
  rcases h with ⟨h1, h2⟩ | ⟨h1, j0, h2, h3, h4, h5⟩ | ⟨h1, a, j, h2, h3, h4, h5, h6⟩
  · exact ⟨fun _ a j a1 a2 a3 z => h2 j a2 (by omega) z.2, fun _ => by omega⟩
  · exact ⟨fun _ a j a1 a2 a3 z => by have := h5 a (by omega) a1 z.1; have := h5 j a2 (by omega) z.2; omega, fun _ => by omega⟩
  · exact ⟨fun q => by omega, fun q => absurd ⟨h5, h6⟩ (q a j h2 h3 h4)⟩
section FM
variable {np nd k e : Nat} {m : mx_S}
theorem fm_bey (hn : np ≤ 256) (he : e ≤ np) (h2 : m.1 0 2 = nI nd) (hc : ∀ j, k ≤ j → j < e → pr_f (m.2 1 j) 1 3 ≤ 5) (ho : ∀ j, k ≤ j → j < e → pr_f (m.2 1 j) 5 2 = 3 → pr_f (m.2 1 j) 8 4 ≤ 3) : ∀ (n i : Nat), k ≤ i → i ≤ e → e < i + n →
    (((∀ j, i ≤ j → j < e → ¬ ((pr_f (m.2 1 j) 5 2 = 3 ∧ (pr_f (m.2 1 j) 8 4 = 2 ∨ pr_f (m.2 1 j) 8 4 = 3)) ∧ pr_done (m.2 1 j) m ∧ pr_out nd ((m.2 3 (pr_f (m.2 1 j) 17 5)) + mm_second (m.2 1 j) m))) → mm_wrong_l186 (nI e) m n (nI i) = 0) ∧
     ((¬ ∀ j, i ≤ j → j < e → ¬ ((pr_f (m.2 1 j) 5 2 = 3 ∧ (pr_f (m.2 1 j) 8 4 = 2 ∨ pr_f (m.2 1 j) 8 4 = 3)) ∧ pr_done (m.2 1 j) m ∧ pr_out nd ((m.2 3 (pr_f (m.2 1 j) 17 5)) + mm_second (m.2 1 j) m))) → mm_wrong_l186 (nI e) m n (nI i) = 7)) ∧ q_mm_wrong_l186 (nI e) m n (nI i) := by
  intro n
  induction n with
  | zero => intro i h0 h1 h2; omega
  | succ n ih =>
    intro i h0 h1 h2'
    have ei : (nI i).toNatClampNeg = i := nI_clamp (by omega)
    unfold mm_wrong_l186 q_mm_wrong_l186
    rw [ei, nI_1]
    by_cases h : e ≤ i
    · have hle : nI e ≤ nI i := (nI_leI (by omega) (by omega)).mpr h
      rw [if_pos hle]
      exact ⟨⟨fun _ => rfl, fun q => absurd (fun j j1 j2 => by omega) q⟩, fun _ => trivial, fun q => absurd hle q⟩
    · have hle : ¬ nI e ≤ nI i := fun q => h ((nI_leI (by omega) (by omega)).mp q)
      rw [if_neg hle]
      have hin : vp_in (nI i) 256 := vp_in_nI (by omega) (by omega)
      obtain ⟨⟨r1, r2⟩, r3⟩ := ih (i + 1) (by omega) (by omega) (by omega)
      obtain ⟨d1, d2⟩ := mf_done (m.2 1 i) m (hc i h0 (by omega))
      have hr := pr_out_reach (w := m.2 1 i) h2
      have ew : mx_ga m 1 i = m.2 1 i := rfl
      rw [ew, pf_kind, pf_op]
      have k1 := pr_flt (m.2 1 i) 5 2
      have o1 := pr_flt (m.2 1 i) 8 4
      have c1 : nI (pr_f (m.2 1 i) 5 2) = 3 ↔ pr_f (m.2 1 i) 5 2 = 3 := nI_eq (b := 3) (by omega) (by omega)
      have c2 : nI (pr_f (m.2 1 i) 8 4) ≤ 1 ↔ pr_f (m.2 1 i) 8 4 ≤ 1 := nI_leI (b := 1) (by omega) (by omega)
      have o3 := ho i h0 (by omega)
      generalize hB : (fun j => (pr_f (m.2 1 j) 5 2 = 3 ∧ (pr_f (m.2 1 j) 8 4 = 2 ∨ pr_f (m.2 1 j) 8 4 = 3)) ∧ pr_done (m.2 1 j) m ∧ pr_out nd ((m.2 3 (pr_f (m.2 1 j) 17 5)) + mm_second (m.2 1 j) m)) = B
      have hBi : B i ↔ ((pr_f (m.2 1 i) 5 2 = 3 ∧ (pr_f (m.2 1 i) 8 4 = 2 ∨ pr_f (m.2 1 i) 8 4 = 3)) ∧ pr_done (m.2 1 i) m ∧ pr_out nd ((m.2 3 (pr_f (m.2 1 i) 17 5)) + mm_second (m.2 1 i) m)) := by rw [← hB]
      have r1 : (∀ j, i + 1 ≤ j → j < e → ¬ B j) → mm_wrong_l186 (nI e) m n (nI (i + 1)) = 0 := by rw [← hB]; exact r1
      have r2 : (¬ ∀ j, i + 1 ≤ j → j < e → ¬ B j) → mm_wrong_l186 (nI e) m n (nI (i + 1)) = 7 := by rw [← hB]; exact r2
      show (((∀ j, i ≤ j → j < e → ¬ (fun j => (pr_f (m.2 1 j) 5 2 = 3 ∧ (pr_f (m.2 1 j) 8 4 = 2 ∨ pr_f (m.2 1 j) 8 4 = 3)) ∧ pr_done (m.2 1 j) m ∧ pr_out nd ((m.2 3 (pr_f (m.2 1 j) 17 5)) + mm_second (m.2 1 j) m)) j) → _) ∧ ((¬ ∀ j, i ≤ j → j < e → ¬ (fun j => (pr_f (m.2 1 j) 5 2 = 3 ∧ (pr_f (m.2 1 j) 8 4 = 2 ∨ pr_f (m.2 1 j) 8 4 = 3)) ∧ pr_done (m.2 1 j) m ∧ pr_out nd ((m.2 3 (pr_f (m.2 1 j) 17 5)) + mm_second (m.2 1 j) m)) j) → _)) ∧ _
      rw [hB]
      have hgo : ¬ B i → ((∀ j, i ≤ j → j < e → ¬ B j) → mm_wrong_l186 (nI e) m n (nI (i + 1)) = 0) ∧ ((¬ ∀ j, i ≤ j → j < e → ¬ B j) → mm_wrong_l186 (nI e) m n (nI (i + 1)) = 7) := fun hb =>
        ⟨fun q => r1 (fun j j1 j2 => q j (by omega) j2), fun q => r2 (fun z => q (fun j j1 j2 => by
          by_cases ej : j = i
          · rw [ej]; exact hb
          · exact z j (by omega) j2))⟩
      by_cases g1 : pr_f (m.2 1 i) 5 2 = 3
      · rw [if_pos (c1.mpr g1)]
        by_cases g2 : pr_f (m.2 1 i) 8 4 ≤ 1
        · rw [if_pos (c2.mpr g2)]
          exact ⟨hgo (fun z => by have := (hBi.mp z).1.2; omega), fun q => absurd q hle, fun _ => ⟨hin, fun q => absurd (c1.mpr g1) q, fun _ => ⟨fun _ => r3, fun q => absurd (c2.mpr g2) q⟩⟩⟩
        · have g2' : ¬ nI (pr_f (m.2 1 i) 8 4) ≤ 1 := fun q => g2 (c2.mp q)
          rw [if_neg g2']
          by_cases g3 : mm_isDone (m.2 1 i) m = 0
          · rw [if_pos g3]
            exact ⟨hgo (fun z => d1.mp g3 (hBi.mp z).2.1), fun q => absurd q hle, fun _ => ⟨hin, fun q => absurd (c1.mpr g1) q, fun _ => ⟨fun q => absurd q g2', fun _ => ⟨d2, fun _ => r3, fun q => absurd g3 q⟩⟩⟩⟩
          · rw [if_neg g3]
            have g3' : pr_done (m.2 1 i) m := Classical.byContradiction (fun q => g3 (d1.mpr q))
            by_cases g4 : mm_reaches (m.2 1 i) m = 0
            · rw [if_pos g4]
              have hb : B i := hBi.mpr ⟨⟨g1, by have := o3 g1; omega⟩, g3', hr.mp g4⟩
              exact ⟨⟨fun q => absurd hb (q i (by omega) (by omega)), fun _ => rfl⟩, fun q => absurd q hle, fun _ => ⟨hin, fun q => absurd (c1.mpr g1) q, fun _ => ⟨fun q => absurd q g2', fun _ => ⟨d2, fun q => absurd q g3, fun _ => ⟨fun q => absurd g4 q, fun _ => trivial⟩⟩⟩⟩⟩
            · rw [if_neg g4]
              exact ⟨hgo (fun z => g4 (hr.mpr (hBi.mp z).2.2)), fun q => absurd q hle, fun _ => ⟨hin, fun q => absurd (c1.mpr g1) q, fun _ => ⟨fun q => absurd q g2', fun _ => ⟨d2, fun q => absurd q g3, fun _ => ⟨fun _ => r3, fun q => absurd q g4⟩⟩⟩⟩⟩
      · have g1' : ¬ nI (pr_f (m.2 1 i) 5 2) = 3 := fun q => g1 (c1.mp q)
        rw [if_neg g1']
        exact ⟨hgo (fun z => g1 (hBi.mp z).1.1), fun q => absurd q hle, fun _ => ⟨hin, fun _ => r3, fun q => absurd q g1'⟩⟩
/-- the words that cross to the side s -/
theorem fm_c100 (hn : np ≤ 256) (he : e ≤ np) (K : Int32 → Int32) (Q : Int32 → Prop) {s : Nat} (hs : s < 2) : ∀ (n i c : Nat), k ≤ i → i ≤ e → e < i + n → c ≤ i - k → pr_I (fun j => pr_cross (m.2 1 j) ∧ pr_f (m.2 1 j) 7 1 = s) k i c →
    ((∀ a j, a < e → k ≤ j → j < a → ¬ ((pr_cross (m.2 1 a) ∧ pr_f (m.2 1 a) 7 1 = s) ∧ (pr_cross (m.2 1 j) ∧ pr_f (m.2 1 j) 7 1 = s))) → mm_wrong_l100 (nI e) m K n (nI s) (nI c) (nI i) = K (nI (s + 1)) ∧ (Q (nI (s + 1)) → q_mm_wrong_l100 (nI e) m K Q n (nI s) (nI c) (nI i))) ∧
    ((¬ ∀ a j, a < e → k ≤ j → j < a → ¬ ((pr_cross (m.2 1 a) ∧ pr_f (m.2 1 a) 7 1 = s) ∧ (pr_cross (m.2 1 j) ∧ pr_f (m.2 1 j) 7 1 = s))) → mm_wrong_l100 (nI e) m K n (nI s) (nI c) (nI i) = 4 ∧ q_mm_wrong_l100 (nI e) m K Q n (nI s) (nI c) (nI i)) := by
  intro n
  induction n with
  | zero => intro i c h0 h1 h2; omega
  | succ n ih =>
    intro i c h0 h1 h2 hc hI
    have ei : (nI i).toNatClampNeg = i := nI_clamp (by omega)
    unfold mm_wrong_l100 q_mm_wrong_l100
    rw [ei, nI_1, nI_1, nI_1, show (nI c + (0 : Int32)) = nI c from Int32.add_zero _]
    by_cases h : e ≤ i
    · have hle : nI e ≤ nI i := (nI_leI (by omega) (by omega)).mpr h
      rw [if_pos hle]
      have hei : i = e := by omega
      rw [hei] at hI
      have hend := pr_I_end hI
      have c1 : nI c ≤ 1 ↔ c ≤ 1 := nI_leI (b := 1) (by omega) (by omega)
      refine ⟨fun q => ?_, fun q => ?_⟩
      · have g : nI c ≤ 1 := c1.mpr (hend.mpr q)
        rw [if_pos g]
        exact ⟨rfl, fun hQ => ⟨fun _ => ⟨fun _ => hQ, fun z => absurd g z⟩, fun z => absurd hle z⟩⟩
      · have g : ¬ nI c ≤ 1 := fun z => q (hend.mp (c1.mp z))
        rw [if_neg g]
        exact ⟨rfl, fun _ => ⟨fun z => absurd z g, fun _ => trivial⟩, fun z => absurd hle z⟩
    · have hle : ¬ nI e ≤ nI i := fun q => h ((nI_leI (by omega) (by omega)).mp q)
      rw [if_neg hle]
      have hin : vp_in (nI i) 256 := vp_in_nI (by omega) (by omega)
      have ew : mx_ga m 1 i = m.2 1 i := rfl
      have u1 := pr_flt (m.2 1 i) 5 3
      have b1 := pr_flt (m.2 1 i) 22 5
      have s1 := pr_flt (m.2 1 i) 7 1
      rw [ew, pf_unit, pf_b, pt_div4 _ u1, pt_div16 _ b1, ← pf_us]
      have c1 : nI (pr_f (m.2 1 i) 7 1) = nI s ↔ pr_f (m.2 1 i) 7 1 = s := nI_eq (by omega) (by omega)
      have c2 : nI (pr_f (m.2 1 i) 22 5 / 16) = nI s ↔ pr_f (m.2 1 i) 22 5 / 16 = s := nI_eq (by omega) (by omega)
      have hB := mf_hasB (m.2 1 i)
      have hN := mf_isNum (m.2 1 i)
      by_cases g1 : pr_f (m.2 1 i) 7 1 = s
      · rw [if_pos (c1.mpr g1)]
        by_cases g2 : mm_hasB (m.2 1 i) = 0
        · rw [if_pos g2]
          obtain ⟨r1, r2⟩ := ih (i + 1) c (by omega) (by omega) (by omega) (by omega) (pr_I_no hI (fun z => z.1.1 (hB.mp g2)))
          exact ⟨fun q => ⟨(r1 q).1, fun hQ => ⟨fun z => absurd z hle, fun _ => ⟨hin, fun z => absurd (c1.mpr g1) z, fun _ => ⟨fun _ => (r1 q).2 hQ, fun z => absurd g2 z⟩⟩⟩⟩, fun q => ⟨(r2 q).1, fun z => absurd z hle, fun _ => ⟨hin, fun z => absurd (c1.mpr g1) z, fun _ => ⟨fun _ => (r2 q).2, fun z => absurd g2 z⟩⟩⟩⟩
        · rw [if_neg g2]
          by_cases g3 : mm_isNumber (m.2 1 i) = 0
          · rw [if_pos g3]
            by_cases g4 : pr_f (m.2 1 i) 22 5 / 16 = s
            · rw [if_pos (c2.mpr g4)]
              obtain ⟨r1, r2⟩ := ih (i + 1) c (by omega) (by omega) (by omega) (by omega) (pr_I_no hI (fun z => z.1.2.2 (g4.trans g1.symm)))
              exact ⟨fun q => ⟨(r1 q).1, fun hQ => ⟨fun z => absurd z hle, fun _ => ⟨hin, fun z => absurd (c1.mpr g1) z, fun _ => ⟨fun z => absurd z g2, fun _ => ⟨fun z => absurd g3 z, fun _ => ⟨fun _ => (r1 q).2 hQ, fun z => absurd (c2.mpr g4) z⟩⟩⟩⟩⟩⟩, fun q => ⟨(r2 q).1, fun z => absurd z hle, fun _ => ⟨hin, fun z => absurd (c1.mpr g1) z, fun _ => ⟨fun z => absurd z g2, fun _ => ⟨fun z => absurd g3 z, fun _ => ⟨fun _ => (r2 q).2, fun z => absurd (c2.mpr g4) z⟩⟩⟩⟩⟩⟩
            · have g4' : ¬ nI (pr_f (m.2 1 i) 22 5 / 16) = nI s := fun q => g4 (c2.mp q)
              rw [if_neg g4']
              have hx : pr_cross (m.2 1 i) := ⟨fun z => g2 (hB.mpr z), hN.mp g3, fun z => g4 (z.trans g1)⟩
              obtain ⟨r1, r2⟩ := ih (i + 1) (c + 1) (by omega) (by omega) (by omega) (by omega) (pr_I_yes h0 hI ⟨hx, g1⟩)
              exact ⟨fun q => ⟨(r1 q).1, fun hQ => ⟨fun z => absurd z hle, fun _ => ⟨hin, fun z => absurd (c1.mpr g1) z, fun _ => ⟨fun z => absurd z g2, fun _ => ⟨fun z => absurd g3 z, fun _ => ⟨fun z => absurd z g4', fun _ => (r1 q).2 hQ⟩⟩⟩⟩⟩⟩, fun q => ⟨(r2 q).1, fun z => absurd z hle, fun _ => ⟨hin, fun z => absurd (c1.mpr g1) z, fun _ => ⟨fun z => absurd z g2, fun _ => ⟨fun z => absurd g3 z, fun _ => ⟨fun z => absurd z g4', fun _ => (r2 q).2⟩⟩⟩⟩⟩⟩
          · rw [if_neg g3]
            obtain ⟨r1, r2⟩ := ih (i + 1) c (by omega) (by omega) (by omega) (by omega) (pr_I_no hI (fun z => g3 (hN.mpr z.1.2.1)))
            exact ⟨fun q => ⟨(r1 q).1, fun hQ => ⟨fun z => absurd z hle, fun _ => ⟨hin, fun z => absurd (c1.mpr g1) z, fun _ => ⟨fun z => absurd z g2, fun _ => ⟨fun _ => (r1 q).2 hQ, fun z => absurd z g3⟩⟩⟩⟩⟩, fun q => ⟨(r2 q).1, fun z => absurd z hle, fun _ => ⟨hin, fun z => absurd (c1.mpr g1) z, fun _ => ⟨fun z => absurd z g2, fun _ => ⟨fun _ => (r2 q).2, fun z => absurd z g3⟩⟩⟩⟩⟩
      · have g1' : ¬ nI (pr_f (m.2 1 i) 7 1) = nI s := fun q => g1 (c1.mp q)
        rw [if_neg g1']
        obtain ⟨r1, r2⟩ := ih (i + 1) c (by omega) (by omega) (by omega) (by omega) (pr_I_no hI (fun z => g1 z.2))
        exact ⟨fun q => ⟨(r1 q).1, fun hQ => ⟨fun z => absurd z hle, fun _ => ⟨hin, fun _ => (r1 q).2 hQ, fun z => absurd z g1'⟩⟩⟩, fun q => ⟨(r2 q).1, fun z => absurd z hle, fun _ => ⟨hin, fun _ => (r2 q).2, fun z => absurd z g1'⟩⟩⟩
end FM
