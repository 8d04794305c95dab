/-! the packet as a whole -/
theorem pr_cnt0 {f : Nat → Nat} {r : Nat} : ∀ {w : Nat}, (∀ j, j < w → ¬ f j = r) → pr_cnt f r w = 0
  | 0, _ => rfl
  | w + 1, h => by
    show pr_cnt f r w + (if f w = r then 1 else 0) = 0
    rw [pr_cnt0 (fun j hj => h j (by omega)), if_neg (h w (by omega))]
theorem ph_packet {np nd k e : Nat} {x m : mx_S} (hR : pr_R2 np nd x m) (hx6 : x.1 0 6 = nI k) (hke : k < e) (he : e ≤ np) (hk8 : e ≤ k + 8) (hok : pr_ok nd k e x) :
    q_xm_doPacket np nd (nI e) (mx_sf x 0 5 0) ∧ q_mm_packet (nI e) (mx_sf m 0 6 0) ∧ pr_Rel np nd (mx_sf (xm_doPacket np nd (nI e) (mx_sf x 0 5 0)) 0 6 (nI e)) (mm_packet (nI e) (mx_sf m 0 6 0)) := by
  obtain ⟨hSz, ⟨s1, s2, s3, s4, s5, s6, s7⟩, hFl, ⟨hA1, hA2, hA3⟩, ⟨w, tm, w1, hWr, w3, w4, w5, w6⟩, ⟨b, bt, hBc, hBr, hb5⟩, h0⟩ := hR
  have hnp : np ≤ 256 := hSz.2.1
  have hnd : nd ≤ 256 := hSz.2.2.2.1
  have hm7 : m.1 0 7 = nI k := s2.symm.trans hx6
  have hI : pk_I np nd k 0 x (mx_sf x 0 5 0) (mx_sf (mx_sf m 0 6 0) 0 20 0) 0 := by
    refine ⟨⟨hSz, fun _ _ _ => rfl, ⟨hA1, hA2, hA3⟩, hx6, hm7, ⟨s3, s4, s5, s6, s7⟩, hFl, Or.inl ⟨rfl, rfl⟩⟩, ⟨w, tm, hWr, by omega, fun j hj => ⟨(w3 j hj).1, by have := (w3 j hj).2; omega⟩, w4, w5, ?_, ?_⟩, ⟨b, 0, bt, hBc, hBr, hb5, fun t t1 t2 => by omega, Nat.zero_le _⟩, ⟨0, rfl, Nat.le_refl _, fun t ht => absurd ht (Nat.not_lt_zero t), fun j hj => (hA2 j hj).symm⟩⟩
    · rw [pr_cnt0 (fun j hj => by have := (w3 j hj).2; omega)]
      exact Nat.zero_le _
    · exact Nat.le_trans w6 (Nat.le_add_right 2 _)
  obtain ⟨N, hN⟩ : ∃ N, e = k + N := ⟨e - k, by omega⟩
  obtain ⟨x', m', v', i1, i2, i3, i4, i5⟩ := pkt_loop (N := N) (by omega) hN he hok 20 0 _ _ _ (Nat.zero_le _) (by omega) hI
  obtain ⟨⟨hSz', hfr, ⟨b1, b2, b3⟩, x6', m7', hsc, hFl', hv⟩, hW, hB, ⟨s, c1, c2, c3, c4⟩⟩ := i1
  obtain ⟨j1, j2, j3, j4⟩ := xd_loop (x0 := x) (x' := x') hN he hnp hnd hok (hfr 1 (by omega)) (hfr 3 (by omega)) 20 0 x' (Nat.zero_le _) (by omega) rfl (fun _ _ _ => rfl) (fun j => hfr 2 (by omega) j)
  obtain ⟨l1, l2, l3, l4⟩ := md_loop (e := e) (v := v') (by omega) hnd c1 c3 20 0 m' (Nat.zero_le _) (by omega) rfl (fun _ _ _ => rfl) (fun _ => rfl)
  have e6' : mx_gf x' 0 6 = nI (k + 0) := x6'
  have ex : xm_doPacket np nd (nI e) (mx_sf x 0 5 0) = xm_doStores_l5 np nd (nI e) 20 (nI (k + 0)) x' := by
    rw [xm_doPacket_eq]
    unfold xm_doPacket_b
    rw [show mx_gf (mx_sf x 0 5 0) 0 6 = nI (k + 0) from hx6, i2, xm_doStores_eq]
    unfold xm_doStores_b
    rw [e6']
  have qs : q_xm_doStores np nd (nI e) x' := by
    unfold q_xm_doStores
    rw [e6']
    exact j4
  have em : mm_packet (nI e) (mx_sf m 0 6 0) = mm_packet_l139 (nI e) 20 v' (nI 0) m' := by
    rw [mm_packet_eq]
    unfold mm_packet_b
    rw [show mx_gf (mx_sf (mx_sf m 0 6 0) 0 20 0) 0 7 = nI (k + 0) from hm7, i4]
    rfl
  have qx : q_xm_doPacket np nd (nI e) (mx_sf x 0 5 0) := by
    unfold q_xm_doPacket
    rw [show mx_gf (mx_sf x 0 5 0) 0 6 = nI (k + 0) from hx6]
    exact i3 qs
  have qm : q_mm_packet (nI e) (mx_sf m 0 6 0) := by
    unfold q_mm_packet
    rw [show mx_gf (mx_sf (mx_sf m 0 6 0) 0 20 0) 0 7 = nI (k + 0) from hm7]
    exact i5 l4
  refine ⟨qx, qm, ?_⟩
  rw [ex, em]
  generalize xm_doStores_l5 np nd (nI e) 20 (nI (k + 0)) x' = X at j1 j2 j3
  generalize mm_packet_l139 (nI e) 20 v' (nI 0) m' = M at l1 l2 l3
  have lM : ∀ a b, ¬ (a = 0 ∧ (b = 7 ∨ b = 6)) → M.1 a b = m'.1 a b := fun a b hab => by
    rw [l1]
    show (if a = 0 then (if b = 6 then _ else if a = 0 then (if b = 7 then _ else m'.1 a b) else m'.1 a b) else if a = 0 then (if b = 7 then _ else m'.1 a b) else m'.1 a b) = m'.1 a b
    by_cases ga : a = 0
    · rw [if_pos ga, if_neg (fun q => hab ⟨ga, Or.inr q⟩), if_pos ga, if_neg (fun q => hab ⟨ga, Or.inl q⟩)]
    · rw [if_neg ga, if_neg ga]
  have lX : ∀ a b, X.1 a b = x'.1 a b := fun a b => by rw [j1]
  have m6 : M.1 0 6 = if v' = 0 then 0 else 9 := by rw [l1]; rfl
  have m7 : M.1 0 7 = nI e := by rw [l1]; rfl
  have hk3 : pr_kc x k 3 N ≤ 2 := pr_kc2 (by omega) (fun a j a1 a2 => hok.2.1 _ _ (by omega) (by omega) (by omega) (by omega))
  have hk2 : pr_kc x k 2 N ≤ 2 := pr_kc2 (by omega) (fun a j a1 a2 => hok.2.1 _ _ (by omega) (by omega) (by omega) (by omega))
  have hk1 : pr_kc x k 1 N ≤ 2 := pr_kc2 (by omega) (fun a j a1 a2 => hok.2.1 _ _ (by omega) (by omega) (by omega) (by omega))
  have hW' : pk_W x k N (mx_sf X 0 6 (nI e)) M := pk_W_mv hW (lX 4 3) (lM 0 13 (by omega)) (lM 0 8 (by omega)) (fun j => ⟨j2 5 j (by omega), j2 6 j (by omega), j2 7 j (by omega)⟩) (fun j => ⟨l2 4 j (by omega), l2 5 j (by omega), l2 6 j (by omega)⟩)
  have hB' : pk_B x k N (mx_sf X 0 6 (nI e)) M := pk_B_mv hB (lX 8 2) (lM 0 17 (by omega)) (lM 0 8 (by omega)) (fun j => ⟨j2 9 j (by omega), j2 10 j (by omega)⟩) (fun j => ⟨l2 7 j (by omega), l2 8 j (by omega)⟩)
  obtain ⟨w', tm', a1, a2, a3, a4, a5, a6, a7⟩ := hW'
  obtain ⟨b', c', bt', d1, d2, d3, d4, d5⟩ := hB'
  have hb10 := pr_b10 d3
  refine ⟨?_, ⟨?_, ?_, ?_, ?_, ?_, ?_, ?_⟩, ⟨?_, ?_⟩, ⟨?_, ?_, ?_⟩, ⟨w', tm', by omega, a1, fun _ => ⟨a3, by omega, a4, a5, by omega⟩⟩, ⟨b' + c', by omega, d1, fun _ => ⟨bt', d2, ?_, ?_, ?_⟩⟩⟩
  · obtain ⟨z1, z2, z3, z4, z5, z6⟩ := hSz'
    exact ⟨z1, z2, z3, z4, (lM 0 1 (by omega)).trans z5, (lM 0 2 (by omega)).trans z6⟩
  · show X.1 0 5 = M.1 0 6
    rw [m6, lX]
    rcases hv with ⟨q1, q2⟩ | ⟨q1, q2⟩
    · rw [q2, q1, if_pos rfl]
    · rw [q2, q1, if_neg (by decide)]
  · exact m7.symm
  · exact (lX 0 7).trans (hsc.1.trans (lM 0 8 (by omega)).symm)
  · exact (lX 0 8).trans (hsc.2.1.trans (lM 0 9 (by omega)).symm)
  · exact (lX 0 9).trans (hsc.2.2.1.trans (lM 0 10 (by omega)).symm)
  · exact (lX 0 10).trans (hsc.2.2.2.1.trans (lM 0 12 (by omega)).symm)
  · exact (lX 0 11).trans (hsc.2.2.2.2.trans (lM 0 11 (by omega)).symm)
  · show X.1 0 11 = 0 ∨ X.1 0 11 = 1
    rw [lX]; exact hFl'.1
  · show ∃ r, r < 16 ∧ X.1 0 10 = nI r
    rw [lX]; exact hFl'.2
  · intro i hi
    exact (j2 1 i (by omega)).trans ((b1 i hi).trans (l2 1 i (by omega)).symm)
  · intro i hi
    exact (j3 i).trans ((c4 i hi).symm.trans (l3 i).symm)
  · intro i hi
    exact (j2 3 i (by omega)).trans ((b3 i hi).trans (l2 3 i (by omega)).symm)
  · intro i hi
    by_cases g : i < b'
    · have := d3.1 i g; omega
    · have := d4 i (by omega) hi; omega
  · intro i hi
    by_cases g : i + 1 < b'
    · exact d3.2.1 i g
    · have e1 := d4 (i + 1) (by omega) hi
      by_cases g2 : i < b'
      · have := d3.1 i g2; omega
      · have := d4 i (by omega) (by omega); omega
  · intro i hi
    by_cases g : i + 2 < b'
    · exact d3.2.2 i g
    · have e1 := d4 (i + 2) (by omega) hi
      have := d3.1 i (by omega)
      omega
