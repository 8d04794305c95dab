/-! one word of the packet, on each side -/
theorem xf_cd (w : Int32) (c : Nat) (hc : c < 64) : xw_code w = nI c ↔ 16 * pr_f w 5 2 + pr_f w 8 4 = c := by
  have k0 := pr_flt w 5 2
  have o0 := pr_flt w 8 4
  rw [pf_code]
  exact nI_eq (by omega) (by omega)
theorem pk_S_mv {nd k n : Nat} {x0 m m' : mx_S} (h : pk_S nd x0 k n m) (h1 : m'.1 0 20 = m.1 0 20) (h2 : ∀ j, m'.2 2 j = m.2 2 j) (h3 : ∀ t, m'.2 9 t = m.2 9 t ∧ m'.2 10 t = m.2 10 t) : pk_S nd x0 k n m' := by
  obtain ⟨s, a1, a2, a3, a4⟩ := h
  exact ⟨s, h1.trans a1, a2, fun t ht => by rw [(h3 t).1]; exact a3 t ht, fun j hj => (pr_app_eq s h2 (fun t _ => h3 t) j).trans (a4 j hj)⟩
theorem px_step {np nd e i : Nat} {x : mx_S} {w : Int32} (hw : x.2 1 i = w) (hi : i < np) (hn : np ≤ 256) (hlt : i < e) (he : e ≤ np) (hc : pr_f w 1 3 ≤ 5) (f : Nat) :
    (¬ pr_done w x → xm_doPacket_l5 np nd (nI e) (f + 1) (nI i) x = xm_doPacket_l5 np nd (nI e) f (nI (i + 1)) x ∧ (q_xm_doPacket_l5 np nd (nI e) f (nI (i + 1)) x → q_xm_doPacket_l5 np nd (nI e) (f + 1) (nI i) x)) ∧
    (pr_done w x → q_xm_doWord np nd w x → xm_doPacket_l5 np nd (nI e) (f + 1) (nI i) x = xm_doPacket_l5 np nd (nI e) f (nI (i + 1)) (xm_doWord np nd w x) ∧ (q_xm_doPacket_l5 np nd (nI e) f (nI (i + 1)) (xm_doWord np nd w x) → q_xm_doPacket_l5 np nd (nI e) (f + 1) (nI i) x)) := by
  have ei : (nI i).toNatClampNeg = i := nI_clamp (by omega)
  have ew : mx_ga x 1 i = w := hw
  have hle : ¬ nI e ≤ nI i := fun q => by have := (nI_leI (by omega) (by omega)).mp q; omega
  have hin : vp_in (nI i) np := vp_in_nI hi (by omega)
  obtain ⟨d1, d2⟩ := xf_done np nd w x hc
  rw [xm_doPacket_l5.eq_2, q_xm_doPacket_l5.eq_2, if_neg hle, ei, ew, nI_1]
  refine ⟨fun g => ?_, fun g hq => ?_⟩
  · have g' := d1.mpr g
    rw [if_pos g']
    exact ⟨rfl, fun q => ⟨fun z => absurd z hle, fun _ => ⟨hin, d2, fun _ => q, fun z => absurd g' z⟩⟩⟩
  · have g' : ¬ xm_isConditionTrue w x = 0 := fun z => d1.mp z g
    rw [if_neg g']
    exact ⟨rfl, fun q => ⟨fun z => absurd z hle, fun _ => ⟨hin, d2, fun z => absurd z g', fun _ => ⟨hin, hq, q⟩⟩⟩⟩
def pm_to (e i f : Nat) (v v' : Int32) (m m' : mx_S) : Prop := mm_packet_l12 (nI e) (f + 1) v (nI i) m = mm_packet_l12 (nI e) f v' (nI (i + 1)) m' ∧ (q_mm_packet_l12 (nI e) f v' (nI (i + 1)) m' → q_mm_packet_l12 (nI e) (f + 1) v (nI i) m)
theorem pm_step {e i : Nat} {m : mx_S} {w v : Int32} (hw : m.2 1 i = w) (hlt : i < e) (he : e ≤ 256) (hc : pr_f w 1 3 ≤ 5) (hv : v = 0 ∨ v = 1) (f : Nat) :
    (¬ pr_done w m → pm_to e i f v v m m) ∧
    (pr_done w m → pr_f w 5 2 = 1 → 7 ≤ pr_f w 8 4 → pr_f w 8 4 ≤ 11 → q_mm_controls w m → pm_to e i f v (if pr_f w 8 4 = 11 then 1 else v) m (mm_controls w m)) ∧
    (pr_done w m → pr_f w 5 2 = 3 → 2 ≤ pr_f w 8 4 → q_mm_meets w m → pm_to e i f v v m (mm_meets w m)) ∧
    (pr_done w m → ¬ (pr_f w 5 2 = 1 ∧ 7 ≤ pr_f w 8 4 ∧ pr_f w 8 4 ≤ 11) → ¬ (pr_f w 5 2 = 3 ∧ 2 ≤ pr_f w 8 4) → q_mm_works w m → q_mm_write (mm_d w) (mm_works w m) (if pr_f w 5 2 = 2 then 2 else 1) m → pm_to e i f v v m (mm_write (mm_d w) (mm_works w m) (if pr_f w 5 2 = 2 then 2 else 1) m)) := by
  have ei : (nI i).toNatClampNeg = i := nI_clamp (by omega)
  have ew : mx_ga m 1 i = w := hw
  have hle : ¬ nI e ≤ nI i := fun q => by have := (nI_leI (by omega) (by omega)).mp q; omega
  have hin : vp_in (nI i) 256 := vp_in_nI (by omega) (by omega)
  obtain ⟨d1, d2⟩ := mf_done w m hc
  have hS : mm_isS w 7 11 = 0 ↔ ¬ (pr_f w 5 2 = 1 ∧ 7 ≤ pr_f w 8 4 ∧ pr_f w 8 4 ≤ 11) := (pf_isS w 7 11 (by omega) (by omega)).1
  have k0 := pr_flt w 5 2
  have o0 := pr_flt w 8 4
  have c3 : mm_kind w = 3 ↔ pr_f w 5 2 = 3 := by rw [pf_kind]; exact nI_eq (b := 3) (by omega) (by omega)
  have c2 : mm_kind w = 2 ↔ pr_f w 5 2 = 2 := by rw [pf_kind]; exact nI_eq (b := 2) (by omega) (by omega)
  have c1 : mm_operation w ≤ 1 ↔ pr_f w 8 4 ≤ 1 := by rw [pf_op]; exact nI_leI (b := 1) (by omega) (by omega)
  have c11 : mm_operation w = 11 ↔ pr_f w 8 4 = 11 := by rw [pf_op]; exact nI_eq (b := 11) (by omega) (by omega)
  unfold pm_to
  rw [mm_packet_l12.eq_2, q_mm_packet_l12.eq_2, if_neg hle, ei, ew, nI_1]
  refine ⟨fun g => ?_, fun g h1 h2 h3 hq => ?_, fun g h1 h2 hq => ?_, fun g h1 h2 hq hq2 => ?_⟩
  · have g' := d1.mpr g
    rw [if_pos g']
    exact ⟨rfl, fun q => ⟨fun z => absurd z hle, fun _ => ⟨hin, d2, fun _ => q, fun z => absurd g' z⟩⟩⟩
  · have g' : ¬ mm_isDone w m = 0 := fun z => d1.mp z g
    have s' : ¬ mm_isS w 7 11 = 0 := fun z => hS.mp z ⟨h1, h2, h3⟩
    rw [if_neg g', if_neg s']
    rcases hv with hv | hv
    · subst hv
      rw [if_pos rfl]
      by_cases h11 : pr_f w 8 4 = 11
      · rw [if_pos (c11.mpr h11), if_pos h11]
        exact ⟨rfl, fun q => ⟨fun z => absurd z hle, fun _ => ⟨hin, d2, fun z => absurd z g', fun _ => ⟨fun z => absurd z s', fun _ => ⟨hq, fun z => absurd rfl z, fun _ => ⟨fun z => absurd (c11.mpr h11) z, fun _ => q⟩⟩⟩⟩⟩⟩
      · rw [if_neg (fun z => h11 (c11.mp z)), if_neg h11]
        exact ⟨rfl, fun q => ⟨fun z => absurd z hle, fun _ => ⟨hin, d2, fun z => absurd z g', fun _ => ⟨fun z => absurd z s', fun _ => ⟨hq, fun z => absurd rfl z, fun _ => ⟨fun _ => q, fun z => absurd (c11.mp z) h11⟩⟩⟩⟩⟩⟩
    · subst hv
      have n1 : ¬ (1 : Int32) = 0 := by decide
      have e1 : (if pr_f w 8 4 = 11 then (1 : Int32) else 1) = 1 := by split <;> rfl
      rw [if_neg n1, e1]
      exact ⟨rfl, fun q => ⟨fun z => absurd z hle, fun _ => ⟨hin, d2, fun z => absurd z g', fun _ => ⟨fun z => absurd z s', fun _ => ⟨hq, fun _ => q, fun z => absurd z n1⟩⟩⟩⟩⟩
  · have g' : ¬ mm_isDone w m = 0 := fun z => d1.mp z g
    have s' : mm_isS w 7 11 = 0 := hS.mpr (fun z => by omega)
    have o' : ¬ mm_operation w ≤ 1 := fun z => by have := c1.mp z; omega
    rw [if_neg g', if_pos s', if_pos (c3.mpr h1), if_neg o']
    exact ⟨rfl, fun q => ⟨fun z => absurd z hle, fun _ => ⟨hin, d2, fun z => absurd z g', fun _ => ⟨fun _ => ⟨fun z => absurd (c3.mpr h1) z, fun _ => ⟨fun z => absurd z o', fun _ => ⟨hq, q⟩⟩⟩, fun z => absurd s' z⟩⟩⟩⟩
  · have g' : ¬ mm_isDone w m = 0 := fun z => d1.mp z g
    have s' : mm_isS w 7 11 = 0 := hS.mpr h1
    rw [if_neg g', if_pos s']
    by_cases h3 : pr_f w 5 2 = 3
    · have o' : mm_operation w ≤ 1 := c1.mpr (by omega)
      have n2 : ¬ mm_kind w = 2 := fun z => by have := c2.mp z; omega
      rw [if_neg (show ¬ pr_f w 5 2 = 2 by omega)] at hq2 ⊢
      rw [if_pos (c3.mpr h3), if_pos o', if_neg n2]
      exact ⟨rfl, fun q => ⟨fun z => absurd z hle, fun _ => ⟨hin, d2, fun z => absurd z g', fun _ => ⟨fun _ => ⟨fun z => absurd (c3.mpr h3) z, fun _ => ⟨fun _ => ⟨hq, fun _ => ⟨hq2, q⟩, fun z => absurd z n2⟩, fun z => absurd o' z⟩⟩, fun z => absurd s' z⟩⟩⟩⟩
    · have n3 : ¬ mm_kind w = 3 := fun z => h3 (c3.mp z)
      rw [if_neg n3]
      by_cases h4 : pr_f w 5 2 = 2
      · rw [if_pos h4] at hq2 ⊢
        rw [if_pos (c2.mpr h4)]
        exact ⟨rfl, fun q => ⟨fun z => absurd z hle, fun _ => ⟨hin, d2, fun z => absurd z g', fun _ => ⟨fun _ => ⟨fun _ => ⟨hq, fun z => absurd (c2.mpr h4) z, fun _ => ⟨hq2, q⟩⟩, fun z => absurd z n3⟩, fun z => absurd s' z⟩⟩⟩⟩
      · have n2 : ¬ mm_kind w = 2 := fun z => h4 (c2.mp z)
        rw [if_neg h4] at hq2 ⊢
        rw [if_neg n2]
        exact ⟨rfl, fun q => ⟨fun z => absurd z hle, fun _ => ⟨hin, d2, fun z => absurd z g', fun _ => ⟨fun _ => ⟨fun _ => ⟨hq, fun _ => ⟨hq2, q⟩, fun z => absurd z n2⟩, fun z => absurd z n3⟩, fun z => absurd s' z⟩⟩⟩⟩
