/-! the packet: what holds between its words -/
def pr_kc (x : mx_S) (k c n : Nat) : Nat := pr_cnt (fun t => pr_f (x.2 1 (k + t)) 5 2) c n
def pr_isSt (w : Int32) : Prop := pr_f w 5 2 = 3 ∧ pr_f w 8 4 = 3
noncomputable def pr_dat (x : mx_S) (k : Nat) : Nat → Nat → Int32
  | 0, j => x.2 2 j
  | n + 1, j => @ite Int32 ((pr_isSt (x.2 1 (k + n)) ∧ pr_done (x.2 1 (k + n)) x) ∧ j = (xm_dataAddress (x.2 1 (k + n)) x).toNatClampNeg) (Classical.propDecidable _) (x.2 3 (pr_f (x.2 1 (k + n)) 12 5)) (pr_dat x k n j)
def pr_app (m : mx_S) : Nat → Nat → Int32
  | 0, j => m.2 2 j
  | s + 1, j => if j = (m.2 9 s).toNatClampNeg then m.2 10 s else pr_app m s j
def pk_W (x0 : mx_S) (k n : Nat) (x m : mx_S) : Prop := ∃ w tm, pr_Wr x m w tm ∧ w ≤ 10 + n ∧ (∀ j, j < w → 1 ≤ tm j ∧ tm j ≤ 5) ∧ pr_cnt tm 4 w ≤ 2 ∧ pr_cnt tm 3 w ≤ 2 ∧ pr_cnt tm 5 w ≤ pr_kc x0 k 3 n ∧ pr_cnt tm 2 w ≤ 2 + pr_kc x0 k 2 n
def pk_B (x0 : mx_S) (k n : Nat) (x m : mx_S) : Prop := ∃ b c bt, pr_Bc x m (b + c) ∧ pr_Br x m (b + c) bt ∧ pr_bt5 b bt ∧ (∀ t, b ≤ t → t < b + c → bt t = 6) ∧ c ≤ pr_kc x0 k 1 n
def pk_S (nd : Nat) (x0 : mx_S) (k n : Nat) (m : mx_S) : Prop := ∃ s, m.1 0 20 = nI s ∧ s ≤ n ∧ (∀ t, t < s → ∃ q, q < nd ∧ m.2 9 t = nI q) ∧ ∀ j, j < nd → pr_app m s j = pr_dat x0 k n j
def pk_C (np nd k : Nat) (x0 x m : mx_S) (v : Int32) : Prop := pr_Sz np nd m ∧ (∀ a, a = 1 ∨ a = 2 ∨ a = 3 → ∀ j, x.2 a j = x0.2 a j) ∧ pr_Ar np nd x m ∧ x.1 0 6 = nI k ∧ m.1 0 7 = nI k ∧ (x.1 0 7 = m.1 0 8 ∧ x.1 0 8 = m.1 0 9 ∧ x.1 0 9 = m.1 0 10 ∧ x.1 0 10 = m.1 0 12 ∧ x.1 0 11 = m.1 0 11) ∧ pr_Fl x ∧ ((v = 0 ∧ x.1 0 5 = 0) ∨ (v = 1 ∧ x.1 0 5 = 9))
def pk_I (np nd k n : Nat) (x0 x m : mx_S) (v : Int32) : Prop := pk_C np nd k x0 x m v ∧ pk_W x0 k n x m ∧ pk_B x0 k n x m ∧ pk_S nd x0 k n m
theorem pr_kc_s (x : mx_S) (k c n : Nat) : pr_kc x k c (n + 1) = pr_kc x k c n + (if pr_f (x.2 1 (k + n)) 5 2 = c then 1 else 0) := rfl
theorem pr_one {u : Nat → Nat} (v : Nat) : ∀ n, (∀ a j, a < n → j < a → ¬ u a = u j) → pr_cnt u v n ≤ 1 ∧ ((∃ j, j < n ∧ u j = v) ∨ pr_cnt u v n = 0)
  | 0, _ => ⟨Nat.zero_le _, Or.inr rfl⟩
  | n + 1, h => by
    obtain ⟨h1, h2⟩ := pr_one v n (fun a j a1 a2 => h a j (by omega) a2)
    have e : pr_cnt u v (n + 1) = pr_cnt u v n + (if u n = v then 1 else 0) := rfl
    by_cases g : u n = v
    · rw [if_pos g] at e
      have z : pr_cnt u v n = 0 := by
        rcases h2 with ⟨j, hj, ej⟩ | h2
        · exact absurd (g.trans ej.symm) (h n j (by omega) hj)
        · exact h2
      exact ⟨by omega, Or.inl ⟨n, by omega, g⟩⟩
    · rw [if_neg g] at e
      refine ⟨by omega, ?_⟩
      rcases h2 with ⟨j, hj, ej⟩ | h2
      · exact Or.inl ⟨j, by omega, ej⟩
      · exact Or.inr (by omega)
theorem pr_mod4 {u : Nat → Nat} (hu : ∀ j, u j < 8) {c : Nat} (hc : c < 4) : ∀ n, pr_cnt (fun t => u t % 4) c n = pr_cnt u c n + pr_cnt u (c + 4) n
  | 0 => rfl
  | n + 1 => by
    have ih := pr_mod4 hu hc n
    have := hu n
    show pr_cnt (fun t => u t % 4) c n + (if u n % 4 = c then 1 else 0) = (pr_cnt u c n + (if u n = c then 1 else 0)) + (pr_cnt u (c + 4) n + (if u n = c + 4 then 1 else 0))
    rw [ih]
    split <;> split <;> split <;> omega
theorem pr_kc2 {x : mx_S} {k n c : Nat} (hc : c < 4) (h : ∀ a j, a < n → j < a → ¬ pr_f (x.2 1 (k + a)) 5 3 = pr_f (x.2 1 (k + j)) 5 3) : pr_kc x k c n ≤ 2 := by
  have e : pr_kc x k c n = pr_cnt (fun t => pr_f (x.2 1 (k + t)) 5 3 % 4) c n := pr_cnt_congr (fun j _ => pf_uk _)
  have e2 := pr_mod4 (u := fun t => pr_f (x.2 1 (k + t)) 5 3) (fun j => pr_flt _ 5 3) hc n
  have h1 := (pr_one (u := fun t => pr_f (x.2 1 (k + t)) 5 3) c n h).1
  have h2 := (pr_one (u := fun t => pr_f (x.2 1 (k + t)) 5 3) (c + 4) n h).1
  rw [e, e2]
  omega
theorem pk_W_no {x0 x m : mx_S} {k n : Nat} (h : pk_W x0 k n x m) : pk_W x0 k (n + 1) x m := by
  obtain ⟨w, tm, a1, a2, a3, a4, a5, a6, a7⟩ := h
  have e3 := pr_kc_s x0 k 3 n
  have e2 := pr_kc_s x0 k 2 n
  exact ⟨w, tm, a1, by omega, a3, a4, a5, by omega, by omega⟩
theorem pk_B_no {x0 x m : mx_S} {k n : Nat} (h : pk_B x0 k n x m) : pk_B x0 k (n + 1) x m := by
  obtain ⟨b, c, bt, a1, a2, a3, a4, a5⟩ := h
  have e := pr_kc_s x0 k 1 n
  exact ⟨b, c, bt, a1, a2, a3, a4, by omega⟩
theorem pk_S_no {nd : Nat} {x0 m : mx_S} {k n : Nat} (hno : ¬ (pr_isSt (x0.2 1 (k + n)) ∧ pr_done (x0.2 1 (k + n)) x0)) (h : pk_S nd x0 k n m) : pk_S nd x0 k (n + 1) m := by
  obtain ⟨s, a1, a2, a3, a4⟩ := h
  refine ⟨s, a1, by omega, a3, fun j hj => (a4 j hj).trans ?_⟩
  unfold pr_dat
  rw [if_neg (fun q => hno q.1)]
  cases n <;> rfl
/-- a write is added -/
def pa_xw (x : mx_S) (w : Nat) (d v t : Int32) : mx_S := mx_sf (mx_sa (mx_sa (mx_sa x 5 w d) 6 w v) 7 w t) 4 3 (nI (w + 1))
def pa_mw (m : mx_S) (w : Nat) (d v t : Int32) : mx_S := mx_sf (mx_sa (mx_sa (mx_sa m 4 w d) 5 w v) 6 w (m.1 0 8 + t)) 0 13 (nI (w + 1))
theorem pk_W_add {x0 x m : mx_S} {k n : Nat} (h : pk_W x0 k n x m) (hn : n < 8) {d T : Nat} (v : Int32) (hd : d < 32) (hT : T = 1 ∨ (T = 2 ∧ pr_f (x0.2 1 (k + n)) 5 2 = 2) ∨ (T = 5 ∧ pr_f (x0.2 1 (k + n)) 5 2 = 3)) :
    ∃ w, x.1 4 3 = nI w ∧ m.1 0 13 = nI w ∧ w < 18 ∧ pk_W x0 k (n + 1) (pa_xw x w (nI d) v (nI T)) (pa_mw m w (nI d) v (nI T)) := by
  obtain ⟨w, tm, ⟨b1, b2, b3⟩, a2, a3, a4, a5, a6, a7⟩ := h
  have e3 := pr_kc_s x0 k 3 n
  have e2 := pr_kc_s x0 k 2 n
  have p4 := pr_cnt_push tm w T 4
  have p3 := pr_cnt_push tm w T 3
  have p5 := pr_cnt_push tm w T 5
  have p2 := pr_cnt_push tm w T 2
  refine ⟨w, b1, b2, by omega, w + 1, fun j => if j = w then T else tm j, ⟨rfl, rfl, fun i hi => ?_⟩, by omega, fun j hj => ?_, ?_, ?_, ?_, ?_⟩
  · by_cases e : i = w
    · subst e
      refine ⟨⟨d, hd, ?_⟩, ?_, ?_, ?_, ?_⟩
      · show (if i = i then nI d else x.2 5 i) = _
        rw [if_pos rfl]
      · show (if i = i then nI d else x.2 5 i) = (if i = i then nI d else m.2 4 i)
        rw [if_pos rfl, if_pos rfl]
      · show (if i = i then v else x.2 6 i) = (if i = i then v else m.2 5 i)
        rw [if_pos rfl, if_pos rfl]
      · show (if i = i then m.1 0 8 + nI T else m.2 6 i) = m.1 0 8 + (if i = i then nI T else x.2 7 i)
        rw [if_pos rfl, if_pos rfl]
      · show (if i = i then nI T else x.2 7 i) = nI (if i = i then T else tm i)
        rw [if_pos rfl, if_pos rfl]
    · obtain ⟨⟨s, hs, es⟩, c1, c2, c3, c4⟩ := b3 i (by omega)
      refine ⟨⟨s, hs, ?_⟩, ?_, ?_, ?_, ?_⟩
      · show (if i = w then nI d else x.2 5 i) = _
        rw [if_neg e]; exact es
      · show (if i = w then nI d else x.2 5 i) = (if i = w then nI d else m.2 4 i)
        rw [if_neg e, if_neg e]; exact c1
      · show (if i = w then v else x.2 6 i) = (if i = w then v else m.2 5 i)
        rw [if_neg e, if_neg e]; exact c2
      · show (if i = w then m.1 0 8 + nI T else m.2 6 i) = m.1 0 8 + (if i = w then nI T else x.2 7 i)
        rw [if_neg e, if_neg e]; exact c3
      · show (if i = w then nI T else x.2 7 i) = nI (if i = w then T else tm i)
        rw [if_neg e, if_neg e]; exact c4
  · show 1 ≤ (if j = w then T else tm j) ∧ (if j = w then T else tm j) ≤ 5
    by_cases e : j = w
    · rw [if_pos e]; omega
    · rw [if_neg e]; exact a3 j (by omega)
  · rw [p4, if_neg (by omega)]; omega
  · rw [p3, if_neg (by omega)]; omega
  · rw [p5]
    by_cases g : T = 5
    · rw [if_pos g]
      rw [if_pos (by omega)] at e3
      omega
    · rw [if_neg g]; omega
  · rw [p2]
    by_cases g : T = 2
    · rw [if_pos g]
      rw [if_pos (by omega)] at e2
      omega
    · rw [if_neg g]; omega
/-- a branch is added -/
def pa_xb (x : mx_S) (b : Nat) (t : Int32) : mx_S := mx_sf (mx_sa (mx_sa x 9 b t) 10 b 6) 8 2 (nI (b + 1))
theorem pk_B_add {x0 x m : mx_S} {k n : Nat} (h : pk_B x0 k n x m) (t l : Int32) (hk : pr_f (x0.2 1 (k + n)) 5 2 = 1) (h2 : pr_kc x0 k 1 (n + 1) ≤ 2) :
    ∃ b, x.1 8 2 = nI b ∧ m.1 0 17 = nI b ∧ b < 12 ∧ pk_B x0 k (n + 1) (pa_xb x b t) (pa_mb m b t l) := by
  obtain ⟨b, c, bt, ⟨a1, a1'⟩, a2, a3, a4, a5⟩ := h
  have e := pr_kc_s x0 k 1 n
  rw [if_pos hk] at e
  have hb := pr_b10 a3
  refine ⟨b + c, a1, a1', by omega, b, c + 1, fun i => if i = b + c then 6 else bt i, ⟨rfl, rfl⟩, fun i hi => ?_, ⟨fun i hi => ?_, fun i hi => ?_, fun i hi => ?_⟩, fun i hi hi2 => ?_, by omega⟩
  · by_cases g : i = b + c
    · refine ⟨?_, ?_, ?_⟩
      · show (if i = b + c then t else x.2 9 i) = (if i = b + c then t else m.2 7 i)
        rw [if_pos g, if_pos g]
      · show (if i = b + c then m.1 0 8 + 6 else m.2 8 i) = m.1 0 8 + (if i = b + c then 6 else x.2 10 i)
        rw [if_pos g, if_pos g]
      · show (if i = b + c then 6 else x.2 10 i) = nI (if i = b + c then 6 else bt i)
        rw [if_pos g, if_pos g]; rfl
    · obtain ⟨c1, c2, c3⟩ := a2 i (by omega)
      refine ⟨?_, ?_, ?_⟩
      · show (if i = b + c then t else x.2 9 i) = (if i = b + c then t else m.2 7 i)
        rw [if_neg g, if_neg g]; exact c1
      · show (if i = b + c then m.1 0 8 + 6 else m.2 8 i) = m.1 0 8 + (if i = b + c then 6 else x.2 10 i)
        rw [if_neg g, if_neg g]; exact c2
      · show (if i = b + c then 6 else x.2 10 i) = nI (if i = b + c then 6 else bt i)
        rw [if_neg g, if_neg g]; exact c3
  · show 1 ≤ (if i = b + c then 6 else bt i) ∧ (if i = b + c then 6 else bt i) ≤ 5
    rw [if_neg (by omega)]; exact a3.1 i hi
  · show (if i = b + c then 6 else bt i) ≤ (if i + 1 = b + c then 6 else bt (i + 1))
    rw [if_neg (by omega), if_neg (by omega)]; exact a3.2.1 i hi
  · show (if i = b + c then 6 else bt i) < (if i + 2 = b + c then 6 else bt (i + 2))
    rw [if_neg (by omega), if_neg (by omega)]; exact a3.2.2 i hi
  · show (if i = b + c then 6 else bt i) = 6
    by_cases g : i = b + c
    · rw [if_pos g]
    · rw [if_neg g]; exact a4 i hi (by omega)
/-- a store is kept for the packet's end -/
def pa_ms (m : mx_S) (s : Nat) (a v : Int32) : mx_S := mx_sf (mx_sa (mx_sa m 9 s a) 10 s v) 0 20 (nI (s + 1))
theorem pr_app_eq {m m' : mx_S} : ∀ s, (∀ j, m'.2 2 j = m.2 2 j) → (∀ t, t < s → m'.2 9 t = m.2 9 t ∧ m'.2 10 t = m.2 10 t) → ∀ j, pr_app m' s j = pr_app m s j
  | 0, h, _, j => h j
  | s + 1, h, h2, j => by
    show (if j = (m'.2 9 s).toNatClampNeg then m'.2 10 s else pr_app m' s j) = (if j = (m.2 9 s).toNatClampNeg then m.2 10 s else pr_app m s j)
    rw [(h2 s (by omega)).1, (h2 s (by omega)).2, pr_app_eq s h (fun t ht => h2 t (by omega)) j]
theorem pk_S_add {nd : Nat} {x0 m : mx_S} {k n : Nat} (hyes : pr_isSt (x0.2 1 (k + n)) ∧ pr_done (x0.2 1 (k + n)) x0) (h : pk_S nd x0 k n m) {q : Nat} (hq : q < nd) (hnd : nd ≤ 256) (eq : xm_dataAddress (x0.2 1 (k + n)) x0 = nI q) :
    ∃ s, m.1 0 20 = nI s ∧ s ≤ n ∧ pk_S nd x0 k (n + 1) (pa_ms m s (nI q) (x0.2 3 (pr_f (x0.2 1 (k + n)) 12 5))) := by
  obtain ⟨s, a1, a2, a3, a4⟩ := h
  refine ⟨s, a1, a2, s + 1, rfl, by omega, fun t ht => ?_, fun j hj => ?_⟩
  · show ∃ q', q' < nd ∧ (if t = s then nI q else m.2 9 t) = nI q'
    by_cases g : t = s
    · rw [if_pos g]; exact ⟨q, hq, rfl⟩
    · rw [if_neg g]; exact a3 t (by omega)
  · have ha : pr_app (pa_ms m s (nI q) (x0.2 3 (pr_f (x0.2 1 (k + n)) 12 5))) s j = pr_app m s j := by
      refine pr_app_eq (m := m) (m' := pa_ms m s (nI q) (x0.2 3 (pr_f (x0.2 1 (k + n)) 12 5))) s (fun _ => rfl) (fun t ht => ⟨?_, ?_⟩) j
      · show (if t = s then nI q else m.2 9 t) = m.2 9 t
        rw [if_neg (by omega)]
      · show (if t = s then _ else m.2 10 t) = m.2 10 t
        rw [if_neg (by omega)]
    unfold pr_dat
    rw [eq, nI_clamp (by omega)]
    show (if j = (if s = s then nI q else m.2 9 s).toNatClampNeg then (if s = s then _ else m.2 10 s) else pr_app (pa_ms m s (nI q) (x0.2 3 (pr_f (x0.2 1 (k + n)) 12 5))) s j) = _
    rw [if_pos rfl, if_pos rfl, nI_clamp (by omega), ha, a4 j hj]
    by_cases g : j = q
    · rw [if_pos g, if_pos ⟨hyes, g⟩]
    · rw [if_neg g, if_neg (fun z => g z.2)]
