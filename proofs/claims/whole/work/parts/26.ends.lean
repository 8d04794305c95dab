/-! the packet's end -/
theorem pr_and1 (w : Int32) : (w &&& (1 : Int32)) = 0 ∨ (w &&& (1 : Int32)) = 1 := by
  obtain ⟨j, h1, h2⟩ := pk_andE w (m := 1) 1 (by decide)
  rw [h2]
  rcases (show j = 0 ∨ j = 1 by omega) with e | e
  · left; rw [e]; rfl
  · right; rw [e]; rfl
theorem pr_goes (w : Int32) : (xw_goesOn w = 0 ↔ (w &&& (1 : Int32)) = 0) := by
  rw [xw_goesOn_eq]
  unfold xw_goesOn_b
  by_cases h : (w &&& (1 : Int32)) = 0
  · rw [if_pos h]; exact ⟨fun _ => h, fun _ => rfl⟩
  · rw [if_neg h]; exact ⟨fun q => absurd q (by decide), fun q => absurd q h⟩
noncomputable def pr_fin (m : mx_S) (e : Nat) : mx_S := if (mm_wrong (nI e) m) = 0 then (mm_packet (nI e) (mx_sf m 0 6 (mm_wrong (nI e) m))) else (mx_sf m 0 6 (mm_wrong (nI e) m))
def pr_qfin (m : mx_S) (e : Nat) : Prop := q_mm_wrong (nI e) m ∧ (mm_wrong (nI e) m = 0 → q_mm_packet (nI e) (mx_sf m 0 6 (mm_wrong (nI e) m)))
theorem mm_cy0 (n e : Nat) (m : mx_S) : mm_cycle_l61 (n + 1) (nI e) 0 m = pr_fin m e ∧ (pr_qfin m e → q_mm_cycle_l61 (n + 1) (nI e) 0 m) := by
  refine ⟨rfl, fun h => ?_⟩
  unfold q_mm_cycle_l61
  exact ⟨fun _ => ⟨h.1, fun _ => trivial, fun q => h.2 q⟩, fun q => absurd rfl q⟩
theorem ph_endL (np nd : Nat) (hn : np ≤ 256) {x m : mx_S} (hA : ∀ i, i < np → x.2 1 i = m.2 1 i) (hw : m.1 0 1 = nI np) (k R : Nat) (hR : R = k / 8 * 8 + 7) (hk : k < 256) : ∀ (n i : Nat), k ≤ i → i ≤ R → R + 1 < i + n →
    q_xm_endOfPacket_l22 np nd x n (nI R) (nI i) ∧
    ((∃ e, i < e ∧ e ≤ R + 1 ∧ e ≤ np ∧ xm_endOfPacket_l22 np nd x n (nI R) (nI i) = nI e ∧ mm_cycle_l61 n (nI i) 1 m = pr_fin m e ∧ (pr_qfin m e → q_mm_cycle_l61 n (nI i) 1 m)) ∨
     (np ≤ R ∧ xm_endOfPacket_l22 np nd x n (nI R) (nI i) = (-1) ∧ mm_cycle_l61 n (nI i) 1 m = mx_sf m 0 6 8 ∧ q_mm_cycle_l61 n (nI i) 1 m) ∨
     (R < np ∧ xm_endOfPacket_l22 np nd x n (nI R) (nI i) = (-1) ∧ mm_cycle_l61 n (nI i) 1 m = mx_sf m 0 6 1 ∧ q_mm_cycle_l61 n (nI i) 1 m)) := by
  intro n
  induction n with
  | zero => intro i h1 h2 h3; omega
  | succ n ih =>
    intro i h1 h2 h3
    obtain ⟨n', rfl⟩ : ∃ n', n = n' + 1 := ⟨n - 1, by omega⟩
    have hRk : R < 256 := by omega
    have ei : (nI i).toNatClampNeg = i := nI_clamp (by omega)
    have hlt : ¬ nI R < nI i := fun q => by have := (nI_ltI (by omega) (by omega)).mp q; omega
    have hneg : ¬ nI i < 0 := nI_pos (by omega)
    have hwm : mx_gf m 0 1 = nI np := hw
    have h10 : ¬ (1 : Int32) = 0 := by decide
    have h8 : ((nI (i + 1)) - (nI (i + 1)) / 8 * 8) = nI ((i + 1) % 8) := pk_rem (d := 8) (by omega) (by omega) (by omega)
    rw [show xm_endOfPacket_l22 np nd x (n' + 1 + 1) (nI R) (nI i) = if nI R < nI i then (-1) else if (nI np) ≤ nI i then (-1) else if (xw_goesOn (mx_ga x 1 (nI i).toNatClampNeg)) = 0 then (nI i + (1 : Int32)) else xm_endOfPacket_l22 np nd x (n' + 1) (nI R) (nI i + 1) from rfl]
    rw [show mm_cycle_l61 (n' + 1 + 1) (nI i) 1 m = if (1 : Int32) = 0 then pr_fin m i else if nI i < 0 then (mx_sf m 0 6 8) else if nI i < (mx_gf m 0 1) then (if ((mx_ga m 1 (nI i).toNatClampNeg) &&& (1 : Int32)) = 1 then (if ((nI i + 1) - (nI i + 1) / 8 * 8) = 0 then (mx_sf m 0 6 1) else mm_cycle_l61 (n' + 1) (nI i + 1) 1 m) else mm_cycle_l61 (n' + 1) (nI i + 1) 0 m) else (mx_sf m 0 6 8) from rfl]
    have hqx : ((nI R < nI i) → True) ∧ ((¬ (nI R < nI i)) → ((nI np ≤ nI i) → True) ∧ ((¬ (nI np ≤ nI i)) → (vp_in (nI i) np) ∧ (((¬ ((xw_goesOn (mx_ga x 1 (nI i).toNatClampNeg)) = 0)) → q_xm_endOfPacket_l22 np nd x (n' + 1) (nI R) (nI i + 1)) ∧ (((xw_goesOn (mx_ga x 1 (nI i).toNatClampNeg)) = 0) → True)))) → q_xm_endOfPacket_l22 np nd x (n' + 1 + 1) (nI R) (nI i) := fun h => h
    have hqm : (((1 : Int32) = 0) → (q_mm_wrong (nI i) m) ∧ (((¬ ((mx_gf (mx_sf m 0 6 (mm_wrong (nI i) m)) 0 6) = 0)) → True) ∧ (((mx_gf (mx_sf m 0 6 (mm_wrong (nI i) m)) 0 6) = 0) → (q_mm_packet (nI i) (mx_sf m 0 6 (mm_wrong (nI i) m)))))) ∧ ((¬ ((1 : Int32) = 0)) → ((nI i < 0) → True) ∧ ((¬ (nI i < 0)) → ((nI i < (mx_gf m 0 1)) → (vp_in (nI i) 256) ∧ (((¬ (((mx_ga m 1 (nI i).toNatClampNeg) &&& (1 : Int32)) = 1)) → q_mm_cycle_l61 (n' + 1) (nI i + 1) 0 m) ∧ ((((mx_ga m 1 (nI i).toNatClampNeg) &&& (1 : Int32)) = 1) → ((¬ (((nI i + 1) - (nI i + 1) / 8 * 8) = 0)) → q_mm_cycle_l61 (n' + 1) (nI i + 1) 1 m) ∧ ((((nI i + 1) - (nI i + 1) / 8 * 8) = 0) → True)))) ∧ ((¬ (nI i < (mx_gf m 0 1))) → True))) → q_mm_cycle_l61 (n' + 1 + 1) (nI i) 1 m := fun h => h
    rw [hwm, ei, nI_1, h8] at hqm
    rw [ei, nI_1] at hqx
    rw [hwm, ei, nI_1, h8, if_neg hlt, if_neg h10, if_neg hneg]
    by_cases g : np ≤ i
    · have g1 : nI np ≤ nI i := (nI_leI (by omega) (by omega)).mpr g
      have g2 : ¬ nI i < nI np := Int32.not_lt.mpr g1
      rw [if_pos g1, if_neg g2]
      exact ⟨hqx ⟨fun q => absurd q hlt, fun _ => ⟨fun _ => trivial, fun q => absurd g1 q⟩⟩, Or.inr (Or.inl ⟨by omega, rfl, rfl, hqm ⟨fun q => absurd q h10, fun _ => ⟨fun q => absurd q hneg, fun _ => ⟨fun q => absurd q g2, fun _ => trivial⟩⟩⟩⟩)⟩
    · have g1 : ¬ nI np ≤ nI i := fun q => g ((nI_leI (by omega) (by omega)).mp q)
      have g2 : nI i < nI np := Int32.not_le.mp g1
      rw [if_neg g1, if_pos g2]
      have hin : vp_in (nI i) np := vp_in_nI (by omega) (by omega)
      have hin2 : vp_in (nI i) 256 := vp_in_nI (by omega) (by omega)
      have ep : mx_ga m 1 i = mx_ga x 1 i := (hA i (by omega)).symm
      rw [ep] at hqm ⊢
      by_cases w0 : (mx_ga x 1 i &&& (1 : Int32)) = 0
      · have w1 : xw_goesOn (mx_ga x 1 i) = 0 := (pr_goes _).mpr w0
        have w2 : ¬ (mx_ga x 1 i &&& (1 : Int32)) = 1 := by rw [w0]; decide
        rw [if_pos w1, if_neg w2]
        obtain ⟨c1, c2⟩ := mm_cy0 n' (i + 1) m
        refine ⟨hqx ⟨fun q => absurd q hlt, fun _ => ⟨fun q => absurd q g1, fun _ => ⟨hin, fun q => absurd w1 q, fun _ => trivial⟩⟩⟩, Or.inl ⟨i + 1, by omega, by omega, by omega, rfl, c1, fun hq => hqm ⟨fun q => absurd q h10, fun _ => ⟨fun q => absurd q hneg, fun _ => ⟨fun _ => ⟨hin2, fun _ => c2 hq, fun q => absurd q w2⟩, fun q => absurd g2 q⟩⟩⟩⟩⟩
      · have w1 : ¬ xw_goesOn (mx_ga x 1 i) = 0 := fun q => w0 ((pr_goes _).mp q)
        have w2 : (mx_ga x 1 i &&& (1 : Int32)) = 1 := (pr_and1 _).resolve_left w0
        rw [if_neg w1, if_pos w2]
        by_cases hl : i = R
        · have h9 : nI ((i + 1) % 8) = 0 := by
            rw [show (i + 1) % 8 = 0 by omega]; rfl
          rw [if_pos h9]
          have hx2 : xm_endOfPacket_l22 np nd x (n' + 1) (nI R) (nI (i + 1)) = (-1) := by
            unfold xm_endOfPacket_l22
            rw [if_pos ((nI_ltI (by omega) (by omega)).mpr (by omega))]
          have hq2 : q_xm_endOfPacket_l22 np nd x (n' + 1) (nI R) (nI (i + 1)) := by
            unfold q_xm_endOfPacket_l22
            exact ⟨fun _ => trivial, fun q => absurd ((nI_ltI (by omega) (by omega)).mpr (by omega)) q⟩
          exact ⟨hqx ⟨fun q => absurd q hlt, fun _ => ⟨fun q => absurd q g1, fun _ => ⟨hin, fun _ => hq2, fun q => absurd q w1⟩⟩⟩, Or.inr (Or.inr ⟨by omega, hx2, rfl, hqm ⟨fun q => absurd q h10, fun _ => ⟨fun q => absurd q hneg, fun _ => ⟨fun _ => ⟨hin2, fun q => absurd w2 q, fun _ => ⟨fun q => absurd h9 q, fun _ => trivial⟩⟩, fun q => absurd g2 q⟩⟩⟩⟩)⟩
        · have h9 : ¬ nI ((i + 1) % 8) = 0 := fun q => by
            have := (nI_eq (a := (i + 1) % 8) (b := 0) (by omega) (by omega)).mp q
            omega
          rw [if_neg h9]
          obtain ⟨q1, c⟩ := ih (i + 1) (by omega) (by omega) (by omega)
          refine ⟨hqx ⟨fun q => absurd q hlt, fun _ => ⟨fun q => absurd q g1, fun _ => ⟨hin, fun _ => q1, fun q => absurd q w1⟩⟩⟩, ?_⟩
          have wrap : q_mm_cycle_l61 (n' + 1) (nI (i + 1)) 1 m → q_mm_cycle_l61 (n' + 1 + 1) (nI i) 1 m := fun hq => hqm ⟨fun q => absurd q h10, fun _ => ⟨fun q => absurd q hneg, fun _ => ⟨fun _ => ⟨hin2, fun q => absurd w2 q, fun _ => ⟨fun _ => hq, fun q => absurd q h9⟩⟩, fun q => absurd g2 q⟩⟩⟩
          rcases c with ⟨e, c1, c2, c3, c4, c5, c6⟩ | ⟨c1, c2, c3, c4⟩ | ⟨c1, c2, c3, c4⟩
          · exact Or.inl ⟨e, by omega, c2, c3, c4, c5, fun hq => wrap (c6 hq)⟩
          · exact Or.inr (Or.inl ⟨c1, c2, c3, wrap c4⟩)
          · exact Or.inr (Or.inr ⟨c1, c2, c3, wrap c4⟩)
theorem pr_or7 : ∀ k, k < 256 → nI k ||| (7 : Int32) = nI (k / 8 * 8 + 7) := by decide +kernel
theorem pr_nor (a b : Nat) : nI a ||| nI b = nI (a ||| b) := by
  apply Int32.toBitVec_inj.mp
  apply BitVec.eq_of_toNat_eq
  show (BitVec.ofNat 32 a ||| BitVec.ofNat 32 b).toNat = (BitVec.ofNat 32 (a ||| b)).toNat
  simp only [BitVec.toNat_or, BitVec.toNat_ofNat]
  rw [Nat.or_mod_two_pow]
theorem pr_le7 {a : Int32} (h : ¬ a < 0) : a ≤ (a ||| (7 : Int32)) := by
  obtain ⟨j, hj, rfl⟩ := nI_of h
  rw [show (7 : Int32) = nI 7 from rfl, pr_nor]
  have h2 : j ||| 7 < 2 ^ 31 := Nat.or_lt_two_pow hj (by decide)
  exact (nI_leI hj h2).mpr Nat.left_le_or
theorem ph_end {np nd : Nat} (hn : np ≤ 256) {x m : mx_S} (hA : ∀ i, i < np → x.2 1 i = m.2 1 i) (hw : m.1 0 1 = nI np) (ha : x.1 0 6 = m.1 0 7) :
    q_xm_endOfPacket np nd x ∧
    ((∃ k e, x.1 0 6 = nI k ∧ k < e ∧ e ≤ np ∧ e ≤ k + 8 ∧ xm_endOfPacket np nd x = nI e ∧ mm_cycle_l61 20 (mx_gf m 0 7) 1 m = pr_fin m e ∧ (pr_qfin m e → q_mm_cycle_l61 20 (mx_gf m 0 7) 1 m)) ∨
     (∃ s, (s = 8 ∨ s = 1) ∧ xm_endOfPacket np nd x = (-1) ∧ xm_faultOfPacket np nd (-1) x = s ∧ q_xm_faultOfPacket np nd (-1) x ∧ mm_cycle_l61 20 (mx_gf m 0 7) 1 m = mx_sf m 0 6 s ∧ q_mm_cycle_l61 20 (mx_gf m 0 7) 1 m)) := by
  rw [xm_endOfPacket_eq, xm_faultOfPacket_eq]
  unfold xm_endOfPacket_b xm_faultOfPacket_b q_xm_endOfPacket q_xm_faultOfPacket
  have e7 : mx_gf m 0 7 = mx_gf x 0 6 := ha.symm
  rw [e7]
  have hwm : mx_gf m 0 1 = nI np := hw
  have h10 : ¬ (1 : Int32) = 0 := by decide
  by_cases h0 : mx_gf x 0 6 < 0
  · have h1 : ¬ 0 ≤ mx_gf x 0 6 := Int32.not_le.mpr h0
    rw [if_neg h1, if_pos rfl, if_pos h0]
    refine ⟨⟨fun q => absurd q h1, fun _ => trivial⟩, Or.inr ⟨8, Or.inl rfl, rfl, rfl, ?_, ?_, ?_⟩⟩
    · first | exact ⟨fun q => absurd rfl q, fun _ => trivial⟩ | exact ⟨fun _ => trivial, fun q => absurd rfl q⟩
    · unfold mm_cycle_l61
      rw [if_neg h10, if_pos h0]
    · unfold q_mm_cycle_l61
      exact ⟨fun q => absurd q h10, fun _ => ⟨fun _ => trivial, fun q => absurd h0 q⟩⟩
  · have h1 : 0 ≤ mx_gf x 0 6 := Int32.not_lt.mp h0
    rw [if_pos h1, if_pos rfl, if_neg h0]
    by_cases h2 : nI np ≤ mx_gf x 0 6
    · have h3 : nI np ≤ (mx_gf x 0 6 ||| (7 : Int32)) := Int32.le_trans h2 (pr_le7 h0)
      have h4 : ¬ (mx_gf x 0 6 ||| (7 : Int32)) < mx_gf x 0 6 := Int32.not_lt.mpr (pr_le7 h0)
      have h5 : ¬ mx_gf x 0 6 < nI np := Int32.not_lt.mpr h2
      rw [if_pos h3]
      refine ⟨⟨fun _ => ?_, fun q => absurd h1 q⟩, Or.inr ⟨8, Or.inl rfl, ?_, rfl, ?_, ?_, ?_⟩⟩
      · unfold q_xm_endOfPacket_l22
        exact ⟨fun q => absurd q h4, fun _ => ⟨fun _ => trivial, fun q => absurd h2 q⟩⟩
      · unfold xm_endOfPacket_l22
        rw [if_neg h4, if_pos h2]
      · first | exact ⟨fun q => absurd rfl q, fun _ => trivial⟩ | exact ⟨fun _ => trivial, fun q => absurd rfl q⟩
      · unfold mm_cycle_l61
        rw [if_neg h10, if_neg h0, hwm, if_neg h5]
      · unfold q_mm_cycle_l61
        rw [hwm]
        exact ⟨fun q => absurd q h10, fun _ => ⟨fun q => absurd q h0, fun _ => ⟨fun q => absurd q h5, fun _ => trivial⟩⟩⟩
    · obtain ⟨k, hk, ek⟩ := pr_ix (by omega) h0 (Int32.not_le.mp h2)
      rw [ek, pr_or7 k (by omega)]
      obtain ⟨q1, c⟩ := ph_endL np nd hn hA hw k (k / 8 * 8 + 7) rfl (by omega) 20 k (by omega) (by omega) (by omega)
      refine ⟨⟨fun _ => q1, fun q => absurd (by rw [← ek]; exact h1) q⟩, ?_⟩
      rcases c with ⟨e, c1, c2, c3, c4, c5, c6⟩ | ⟨c1, c2, c3, c4⟩ | ⟨c1, c2, c3, c4⟩
      · exact Or.inl ⟨k, e, ek, by omega, c3, by omega, c4, c5, c6⟩
      · rw [if_pos ((nI_leI (by omega) (by omega)).mpr c1)]
        refine Or.inr ⟨8, Or.inl rfl, c2, rfl, ?_, c3, c4⟩
        first | exact ⟨fun q => absurd rfl q, fun _ => trivial⟩ | exact ⟨fun _ => trivial, fun q => absurd rfl q⟩
      · rw [if_neg (fun q => by have := (nI_leI (by omega) (by omega)).mp q; omega)]
        refine Or.inr ⟨1, Or.inr rfl, c2, rfl, ?_, c3, c4⟩
        first | exact ⟨fun q => absurd rfl q, fun _ => trivial⟩ | exact ⟨fun _ => trivial, fun q => absurd rfl q⟩
