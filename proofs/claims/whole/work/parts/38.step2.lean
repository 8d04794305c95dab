/-! one word of the packet, both sides together -/
def px_to (np nd e i f : Nat) (x x' : mx_S) : Prop := xm_doPacket_l5 np nd (nI e) (f + 1) (nI i) x = xm_doPacket_l5 np nd (nI e) f (nI (i + 1)) x' ∧ (q_xm_doPacket_l5 np nd (nI e) f (nI (i + 1)) x' → q_xm_doPacket_l5 np nd (nI e) (f + 1) (nI i) x)
theorem pw_br (np nd : Nat) {w : Int32} {x : mx_S} (hk : pr_f w 5 2 = 1) {o : Nat} (ho : pr_f w 8 4 = o) (h7 : 7 ≤ o) (h9 : o ≤ 9) {b : Nat} (hc : x.1 8 2 = nI b) (hb : b < 12) :
    xm_doWord np nd w x = (if o = 9 then mx_sf (pa_xb x b (if o = 7 then xw_target w else if o = 8 then xm_operandB w x else x.1 0 9)) 0 11 1 else pa_xb x b (if o = 7 then xw_target w else if o = 8 then xm_operandB w x else x.1 0 9)) ∧ q_xm_doWord np nd w x := by
  have c23 : xw_code w = 23 ↔ o = 7 := (xf_cd w 23 (by omega)).trans (by omega)
  have c24 : xw_code w = 24 ↔ o = 8 := (xf_cd w 24 (by omega)).trans (by omega)
  have c25 : xw_code w = 25 ↔ o = 9 := (xf_cd w 25 (by omega)).trans (by omega)
  have hb2 := fun a => pa_badd np nd hc hb a
  constructor
  · rw [xm_doWord_eq]
    unfold xm_doWord_b
    rcases (show o = 7 ∨ o = 8 ∨ o = 9 by omega) with e | e | e
    · rw [if_pos (c23.mpr e), if_neg (show ¬ o = 9 by omega), if_pos e]
      exact (hb2 _).1
    · rw [if_neg (fun q => by have := c23.mp q; omega), if_pos (c24.mpr e), if_neg (show ¬ o = 9 by omega), if_neg (show ¬ o = 7 by omega), if_pos e]
      exact (hb2 _).1
    · rw [if_neg (fun q => by have := c23.mp q; omega), if_neg (fun q => by have := c24.mp q; omega), if_pos (c25.mpr e), if_pos e, if_neg (show ¬ o = 7 by omega), if_neg (show ¬ o = 8 by omega), (hb2 _).1]
      rfl
  · unfold q_xm_doWord
    refine ⟨fun _ => (hb2 _).2, fun n1 => ⟨fun _ => (hb2 _).2, fun n2 => ⟨fun _ => (hb2 _).2, fun n3 => ?_⟩⟩⟩
    exfalso
    rcases (show o = 7 ∨ o = 8 ∨ o = 9 by omega) with e | e | e
    · exact n1 (c23.mpr e)
    · exact n2 (c24.mpr e)
    · exact n3 (c25.mpr e)
theorem pw_wait (np nd : Nat) {w : Int32} {x : mx_S} (hk : pr_f w 5 2 = 1) (ho : pr_f w 8 4 = 10) :
    xm_doWord np nd w x = (mx_sf x 0 8 (if (mx_gf x 0 8) < ((xm_operandB w x) &&& (15 : Int32)) then ((xm_operandB w x) &&& (15 : Int32)) else (mx_gf x 0 8))) ∧ q_xm_doWord np nd w x := by
  have c : xw_code w = 26 := (xf_cd w 26 (by omega)).mpr (by omega)
  rw [xm_doWord_eq]
  unfold xm_doWord_b q_xm_doWord
  rw [c]
  rw [if_neg (by decide), if_neg (by decide), if_neg (by decide), if_pos rfl]
  exact ⟨rfl, fun q => absurd q (by decide), fun _ => ⟨fun q => absurd q (by decide), fun _ => ⟨fun q => absurd q (by decide), fun _ => ⟨fun _ => trivial, fun q => absurd rfl q⟩⟩⟩⟩
theorem pw_halt (np nd : Nat) {w : Int32} {x : mx_S} (hk : pr_f w 5 2 = 1) (ho : pr_f w 8 4 = 11) : xm_doWord np nd w x = mx_sf x 0 5 9 ∧ q_xm_doWord np nd w x := by
  have c : xw_code w = 27 := (xf_cd w 27 (by omega)).mpr (by omega)
  rw [xm_doWord_eq]
  unfold xm_doWord_b q_xm_doWord
  rw [c]
  rw [if_neg (by decide), if_neg (by decide), if_neg (by decide), if_neg (by decide), if_pos rfl]
  exact ⟨rfl, fun q => absurd q (by decide), fun _ => ⟨fun q => absurd q (by decide), fun _ => ⟨fun q => absurd q (by decide), fun _ => ⟨fun q => absurd q (by decide), fun _ => ⟨fun _ => trivial, fun q => absurd rfl q⟩⟩⟩⟩⟩
theorem pw_store (np nd : Nat) {w : Int32} {x : mx_S} (hk : pr_isSt w) : xm_doWord np nd w x = x ∧ q_xm_doWord np nd w x := by
  have c : xw_code w = 51 := (xf_c51 w).mpr hk
  rw [xm_doWord_eq]
  unfold xm_doWord_b q_xm_doWord
  rw [c]
  rw [if_neg (by decide), if_neg (by decide), if_neg (by decide), if_neg (by decide), if_neg (by decide), if_pos rfl]
  exact ⟨rfl, fun q => absurd q (by decide), fun _ => ⟨fun q => absurd q (by decide), fun _ => ⟨fun q => absurd q (by decide), fun _ => ⟨fun q => absurd q (by decide), fun _ => ⟨fun q => absurd q (by decide), fun _ => ⟨fun _ => trivial, fun q => absurd rfl q⟩⟩⟩⟩⟩⟩
theorem pw_write (np nd : Nat) {w : Int32} {x : mx_S} (h1 : ¬ (pr_f w 5 2 = 1 ∧ 7 ≤ pr_f w 8 4 ∧ pr_f w 8 4 ≤ 11)) (h2 : ¬ pr_isSt w) (hq : q_xm_valueOf np nd w x) {n : Nat} (hc : x.1 4 3 = nI n) (hn : n < 18) :
    xm_doWord np nd w x = pa_xw x n (xw_d w) (xm_valueOf np nd w x) (xw_timeOfWrite w) ∧ q_xm_doWord np nd w x := by
  have k0 := pr_flt w 5 2
  have o0 := pr_flt w 8 4
  have c23 : ¬ xw_code w = 23 := fun q => by have := (xf_cd w 23 (by omega)).mp q; omega
  have c24 : ¬ xw_code w = 24 := fun q => by have := (xf_cd w 24 (by omega)).mp q; omega
  have c25 : ¬ xw_code w = 25 := fun q => by have := (xf_cd w 25 (by omega)).mp q; omega
  have c26 : ¬ xw_code w = 26 := fun q => by have := (xf_cd w 26 (by omega)).mp q; omega
  have c27 : ¬ xw_code w = 27 := fun q => by have := (xf_cd w 27 (by omega)).mp q; omega
  have c51 : ¬ xw_code w = 51 := fun q => h2 ((xf_c51 w).mp q)
  obtain ⟨a1, a2⟩ := pa_qadd np nd hc hn (xw_d w) (xm_valueOf np nd w x) (xw_timeOfWrite w)
  rw [xm_doWord_eq]
  unfold xm_doWord_b q_xm_doWord
  rw [if_neg c23, if_neg c24, if_neg c25, if_neg c26, if_neg c27, if_neg c51]
  exact ⟨a1, fun q => absurd q c23, fun _ => ⟨fun q => absurd q c24, fun _ => ⟨fun q => absurd q c25, fun _ => ⟨fun q => absurd q c26, fun _ => ⟨fun q => absurd q c27, fun _ => ⟨fun q => absurd q c51, fun _ => ⟨hq, a2⟩⟩⟩⟩⟩⟩⟩
theorem pk_fr {x0 x x' : mx_S} (h : ∀ a, a = 1 ∨ a = 2 ∨ a = 3 → ∀ j, x.2 a j = x0.2 a j) (h1 : ∀ j, x'.2 1 j = x.2 1 j) (h2 : ∀ j, x'.2 2 j = x.2 2 j) (h3 : ∀ j, x'.2 3 j = x.2 3 j) : ∀ a, a = 1 ∨ a = 2 ∨ a = 3 → ∀ j, x'.2 a j = x0.2 a j := by
  intro a ha j
  rcases ha with e | e | e <;> subst e
  · exact (h1 j).trans (h 1 (by omega) j)
  · exact (h2 j).trans (h 2 (by omega) j)
  · exact (h3 j).trans (h 3 (by omega) j)
theorem pk_W_mv {x0 x m x' m' : mx_S} {k n : Nat} (h : pk_W x0 k n x m) (hx : x'.1 4 3 = x.1 4 3) (hm : m'.1 0 13 = m.1 0 13) (hc : m'.1 0 8 = m.1 0 8) (h5 : ∀ j, x'.2 5 j = x.2 5 j ∧ x'.2 6 j = x.2 6 j ∧ x'.2 7 j = x.2 7 j) (h4 : ∀ j, m'.2 4 j = m.2 4 j ∧ m'.2 5 j = m.2 5 j ∧ m'.2 6 j = m.2 6 j) : pk_W x0 k n x' m' := by
  obtain ⟨w, tm, ⟨b1, b2, b3⟩, a⟩ := h
  refine ⟨w, tm, ⟨hx.trans b1, hm.trans b2, fun i hi => ?_⟩, a⟩
  rw [(h5 i).1, (h5 i).2.1, (h5 i).2.2, (h4 i).1, (h4 i).2.1, (h4 i).2.2, hc]
  exact b3 i hi
theorem pk_B_mv {x0 x m x' m' : mx_S} {k n : Nat} (h : pk_B x0 k n x m) (hx : x'.1 8 2 = x.1 8 2) (hm : m'.1 0 17 = m.1 0 17) (hc : m'.1 0 8 = m.1 0 8) (h9 : ∀ j, x'.2 9 j = x.2 9 j ∧ x'.2 10 j = x.2 10 j) (h7 : ∀ j, m'.2 7 j = m.2 7 j ∧ m'.2 8 j = m.2 8 j) : pk_B x0 k n x' m' := by
  obtain ⟨b, c, bt, ⟨b1, b2⟩, b3, a⟩ := h
  refine ⟨b, c, bt, ⟨hx.trans b1, hm.trans b2⟩, fun i hi => ?_, a⟩
  rw [(h9 i).1, (h9 i).2, (h7 i).1, (h7 i).2, hc]
  exact b3 i hi
