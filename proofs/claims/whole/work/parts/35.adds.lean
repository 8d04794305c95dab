/-! what a word of a packet leaves behind it, plainly -/
theorem pa_qadd (np nd : Nat) {x : mx_S} {w : Nat} (hc : x.1 4 3 = nI w) (hw : w < 18) (a v t : Int32) : xq_add a v t x = mx_sf (mx_sa (mx_sa (mx_sa x 5 w a) 6 w v) 7 w t) 4 3 (nI (w + 1)) ∧ q_xq_add np nd a v t x := by
  have hg : mx_gf x 4 3 = nI w := hc
  have hle : ¬ (18 : Int32) ≤ nI w := fun q => by have := (nI_leI (a := 18) (by omega) (by omega)).mp q; omega
  have hin : vp_in (nI w) 18 := vp_in_nI hw (by omega)
  have ew : (nI w).toNatClampNeg = w := nI_clamp (by omega)
  constructor
  · rw [xq_add_eq]
    unfold xq_add_b
    rw [hg, if_neg hle]
    show mx_sf (mx_sa (mx_sa (mx_sa x 5 (nI w).toNatClampNeg a) 6 (mx_gf x 4 3).toNatClampNeg v) 7 (mx_gf x 4 3).toNatClampNeg t) 4 3 (mx_gf x 4 3 + 1) = _
    rw [hg, ew, nI_1]
  · unfold q_xq_add
    rw [hg]
    refine ⟨fun q => absurd q hle, fun _ => ⟨hin, ?_, ?_⟩⟩
    · show vp_in (mx_gf x 4 3) 18
      rw [hg]; exact hin
    · show vp_in (mx_gf x 4 3) 18
      rw [hg]; exact hin
theorem pa_mwrite {m : mx_S} {w : Nat} (hc : m.1 0 13 = nI w) (hw : w < 18) (a v t : Int32) : mm_write a v t m = mx_sf (mx_sa (mx_sa (mx_sa m 4 w a) 5 w v) 6 w (m.1 0 8 + t)) 0 13 (nI (w + 1)) ∧ q_mm_write a v t m := by
  have hg : mx_gf m 0 13 = nI w := hc
  have hin : vp_in (nI w) 64 := vp_in_nI (by omega) (by omega)
  have ew : (nI w).toNatClampNeg = w := nI_clamp (by omega)
  constructor
  · unfold mm_write
    show mx_sf (mx_sa (mx_sa (mx_sa m 4 (mx_gf m 0 13).toNatClampNeg a) 5 (mx_gf m 0 13).toNatClampNeg v) 6 (mx_gf m 0 13).toNatClampNeg (m.1 0 8 + t)) 0 13 (mx_gf m 0 13 + 1) = _
    rw [hg, ew, nI_1]
  · unfold q_mm_write
    refine ⟨?_, ?_, ?_⟩
    · rw [hg]; exact hin
    · show vp_in (mx_gf m 0 13) 64
      rw [hg]; exact hin
    · show vp_in (mx_gf m 0 13) 64
      rw [hg]; exact hin
theorem pa_badd (np nd : Nat) {x : mx_S} {b : Nat} (hc : x.1 8 2 = nI b) (hb : b < 12) (a : Int32) : xb_add a x = mx_sf (mx_sa (mx_sa x 9 b a) 10 b 6) 8 2 (nI (b + 1)) ∧ q_xb_add np nd a x := by
  have hg : mx_gf x 8 2 = nI b := hc
  have hle : ¬ (12 : Int32) ≤ nI b := fun q => by have := (nI_leI (a := 12) (by omega) (by omega)).mp q; omega
  have hin : vp_in (nI b) 12 := vp_in_nI hb (by omega)
  have ew : (nI b).toNatClampNeg = b := nI_clamp (by omega)
  constructor
  · rw [xb_add_eq]
    unfold xb_add_b
    rw [hg, if_neg hle]
    show mx_sf (mx_sa (mx_sa x 9 (nI b).toNatClampNeg a) 10 (mx_gf x 8 2).toNatClampNeg 6) 8 2 (mx_gf x 8 2 + 1) = _
    rw [hg, ew, nI_1]
  · unfold q_xb_add
    rw [hg]
    refine ⟨fun q => absurd q hle, fun _ => ⟨hin, ?_⟩⟩
    show vp_in (mx_gf x 8 2) 12
    rw [hg]; exact hin
/-- a branch goes into the Model's list -/
def pa_mb (m : mx_S) (b : Nat) (t l : Int32) : mx_S := mx_sf (mx_sf (mx_sa (mx_sa m 7 b t) 8 b (m.1 0 8 + 6)) 0 11 l) 0 17 (nI (b + 1))
set_option maxHeartbeats 4000000 in
theorem pa_mc {m : mx_S} {w : Int32} {o b : Nat} (ho : mm_operation w = nI o) (h7 : 7 ≤ o) (h9 : o ≤ 9) (hc : m.1 0 17 = nI b) (hb : b < 12) (hl : m.1 0 11 = 0 ∨ m.1 0 11 = 1) :
    mm_controls w m = pa_mb m b (if o = 7 then xw_target w else if o = 8 then mm_second w m else m.1 0 10) (if o = 9 then 1 else m.1 0 11) ∧ q_mm_controls w m := by
  have hg : mx_gf m 0 17 = nI b := hc
  have hin : vp_in (nI b) 32 := vp_in_nI (by omega) (by omega)
  have ew : (nI b).toNatClampNeg = b := nI_clamp (by omega)
  have n10 : ¬ (10 : Int32) ≤ mm_operation w := fun q => by rw [ho] at q; have := (nI_leI (a := 10) (by omega) (by omega)).mp q; omega
  have n10' : ¬ mm_operation w = 10 := fun q => n10 (by rw [q]; decide)
  have c7 : mm_operation w = 7 ↔ o = 7 := by rw [ho]; exact nI_eq (b := 7) (by omega) (by omega)
  have c8 : mm_operation w = 8 ↔ o = 8 := by rw [ho]; exact nI_eq (b := 8) (by omega) (by omega)
  have c9 : mm_operation w = 9 ↔ o = 9 := by rw [ho]; exact nI_eq (b := 9) (by omega) (by omega)
  constructor
  · rw [mm_controls_eq]
    unfold mm_controls_b
    rw [if_neg n10]
    rcases (show o = 7 ∨ o = 8 ∨ o = 9 by omega) with e | e | e
    · rw [if_pos (c7.mpr e)]
      have n9 : ¬ mm_operation w = 9 := fun q => by have := c9.mp q; omega
      rcases hl with q | q
      · refine Eq.trans (if_pos q) ?_
        rw [if_neg n9, if_neg n10', if_pos e, if_neg (show ¬ o = 9 by omega)]
        show mx_sf (mx_sf (mx_sa (mx_sa m 7 (mx_gf m 0 17).toNatClampNeg _) 8 (mx_gf m 0 17).toNatClampNeg (m.1 0 8 + 6)) 0 11 0) 0 17 (mx_gf m 0 17 + 1) = _
        rw [hg, ew, nI_1, q]
        rfl
      · refine Eq.trans (if_neg (fun z => absurd (q.symm.trans z) (by decide))) ?_
        rw [if_neg n10', if_pos e, if_neg (show ¬ o = 9 by omega)]
        show mx_sf (mx_sf (mx_sa (mx_sa m 7 (mx_gf m 0 17).toNatClampNeg _) 8 (mx_gf m 0 17).toNatClampNeg (m.1 0 8 + 6)) 0 11 1) 0 17 (mx_gf m 0 17 + 1) = _
        rw [hg, ew, nI_1, q]
        rfl
    · rw [if_neg (fun q => by have := c7.mp q; omega), if_pos (c8.mpr e)]
      have n9 : ¬ mm_operation w = 9 := fun q => by have := c9.mp q; omega
      rcases hl with q | q
      · refine Eq.trans (if_pos q) ?_
        rw [if_neg n9, if_neg n10', if_neg (show ¬ o = 7 by omega), if_pos e, if_neg (show ¬ o = 9 by omega)]
        show mx_sf (mx_sf (mx_sa (mx_sa m 7 (mx_gf m 0 17).toNatClampNeg _) 8 (mx_gf m 0 17).toNatClampNeg (m.1 0 8 + 6)) 0 11 0) 0 17 (mx_gf m 0 17 + 1) = _
        rw [hg, ew, nI_1, q]
        rfl
      · refine Eq.trans (if_neg (fun z => absurd (q.symm.trans z) (by decide))) ?_
        rw [if_neg n10', if_neg (show ¬ o = 7 by omega), if_pos e, if_neg (show ¬ o = 9 by omega)]
        show mx_sf (mx_sf (mx_sa (mx_sa m 7 (mx_gf m 0 17).toNatClampNeg _) 8 (mx_gf m 0 17).toNatClampNeg (m.1 0 8 + 6)) 0 11 1) 0 17 (mx_gf m 0 17 + 1) = _
        rw [hg, ew, nI_1, q]
        rfl
    · rw [if_neg (fun q => by have := c7.mp q; omega), if_neg (fun q => by have := c8.mp q; omega)]
      rcases hl with q | q
      · refine Eq.trans (if_pos q) ?_
        rw [if_pos (c9.mpr e), if_neg n10', if_neg (show ¬ o = 7 by omega), if_neg (show ¬ o = 8 by omega), if_pos e]
        show mx_sf (mx_sf (mx_sa (mx_sa m 7 (mx_gf m 0 17).toNatClampNeg _) 8 (mx_gf m 0 17).toNatClampNeg (m.1 0 8 + 6)) 0 11 1) 0 17 (mx_gf m 0 17 + 1) = _
        rw [hg, ew, nI_1]
        rfl
      · refine Eq.trans (if_neg (fun z => absurd (q.symm.trans z) (by decide))) ?_
        rw [if_neg n10', if_neg (show ¬ o = 7 by omega), if_neg (show ¬ o = 8 by omega), if_pos e]
        show mx_sf (mx_sf (mx_sa (mx_sa m 7 (mx_gf m 0 17).toNatClampNeg _) 8 (mx_gf m 0 17).toNatClampNeg (m.1 0 8 + 6)) 0 11 1) 0 17 (mx_gf m 0 17 + 1) = _
        rw [hg, ew, nI_1]
        rfl
  · have hin' : vp_in (mx_gf m 0 17) 32 := by rw [hg]; exact hin
    unfold q_mm_controls
    exact ⟨fun q => absurd q n10, fun _ => ⟨fun _ => ⟨fun _ => ⟨hin', hin'⟩, fun _ => ⟨hin', hin'⟩⟩, fun _ => ⟨hin', hin'⟩⟩⟩
theorem pa_wait {m : mx_S} {w : Int32} (ho : mm_operation w = nI 10) : mm_controls w m = mx_sf m 0 9 (if (mx_gf m 0 9) < ((mm_second w m) &&& (15 : Int32)) then ((mm_second w m) &&& (15 : Int32)) else (mx_gf m 0 9)) ∧ q_mm_controls w m := by
  have y10 : (10 : Int32) ≤ mm_operation w := by rw [ho]; decide
  have y10' : mm_operation w = 10 := ho
  constructor
  · rw [mm_controls_eq]
    unfold mm_controls_b
    rw [if_pos y10, if_pos y10']
    by_cases g : ((mm_second w m) &&& (15 : Int32)) ≤ (mx_gf m 0 9)
    · rw [if_pos g, if_neg (Int32.not_lt.mpr g)]
    · rw [if_neg g, if_pos (Int32.not_le.mp g)]
  · exact ⟨fun _ => trivial, fun q => absurd y10 q⟩
theorem pa_halt {m : mx_S} {w : Int32} (ho : mm_operation w = nI 11) : mm_controls w m = m ∧ q_mm_controls w m := by
  have y10 : (10 : Int32) ≤ mm_operation w := by rw [ho]; decide
  have y10' : ¬ mm_operation w = 10 := by rw [ho]; decide
  constructor
  · rw [mm_controls_eq]
    unfold mm_controls_b
    rw [if_pos y10, if_neg y10']
  · exact ⟨fun _ => trivial, fun q => absurd y10 q⟩
