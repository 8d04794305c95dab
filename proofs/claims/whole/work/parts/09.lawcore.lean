/-! the law's loop: two worlds side by side (the class's 11 cells, the Model's 11), the script beside them -/
theorem ml_fst (ad : Nat → Nat) (cA : ClassId) (u u' : mx_S) : ∀ (sk : mx_K) (i : Nat), (mx_w ad cA u i sk).map Prod.fst = (mx_w ad cA u' i sk).map Prod.fst
  | [], _ => rfl
  | q :: r, i => by
    show ad i :: (mx_w ad cA u (i + 1) r).map Prod.fst = ad i :: (mx_w ad cA u' (i + 1) r).map Prod.fst
    rw [ml_fst ad cA u u' r]
theorem ml_D {A : Nat → Prop} {ws ws' : va_W} (h : va_D A ws) (e : ws.map Prod.fst = ws'.map Prod.fst) : va_D A ws' := by
  have key : ∀ (k : Nat) (q : Nat × va_E), ws'[k]? = some q → ∃ q0, ws[k]? = some q0 ∧ q0.1 = q.1 := by
    intro k q hk
    have h1 : (ws'.map Prod.fst)[k]? = some q.1 := by rw [List.getElem?_map, hk]; rfl
    rw [← e, List.getElem?_map] at h1
    cases h0 : ws[k]? with
    | none => rw [h0] at h1; cases h1
    | some q0 => rw [h0] at h1; exact ⟨q0, rfl, Option.some.inj h1⟩
  refine ⟨fun i j x y hi hj hxy => ?_, fun k q hk => ?_⟩
  · obtain ⟨x0, h1, h2⟩ := key i x hi
    obtain ⟨y0, h3, h4⟩ := key j y hj
    exact h.1 i j x0 y0 h1 h3 (h2.trans (hxy.trans h4.symm))
  · obtain ⟨q0, h1, h2⟩ := key k q hk
    rw [← h2]
    exact h.2 k q0 h1
theorem ml_sub1 {D : va_G} {cl : List vw_C} {w1 w2 : va_W} {H : Heap} (h : va_P D cl (w1 ++ w2) H) : va_P D cl w1 H := by
  intro k q hk
  exact h k q (by rw [List.getElem?_append_left ((List.getElem?_eq_some_iff.mp hk).1)]; exact hk)
theorem ml_sub2 {D : va_G} {cl : List vw_C} {w1 w2 : va_W} {H : Heap} (h : va_P D cl (w1 ++ w2) H) : va_P D cl w2 H := by
  intro k q hk
  exact h (w1.length + k) q (by rw [List.getElem?_append_right (by omega), Nat.add_sub_cancel_left]; exact hk)
theorem ml_dsub1 {A : Nat → Prop} {w1 w2 : va_W} (h : va_D A (w1 ++ w2)) : va_D A w1 := by
  have key : ∀ (k : Nat) (q : Nat × va_E), w1[k]? = some q → (w1 ++ w2)[k]? = some q := fun k q hk => by rw [List.getElem?_append_left ((List.getElem?_eq_some_iff.mp hk).1)]; exact hk
  exact ⟨fun i j x y hi hj hxy => h.1 i j x y (key i x hi) (key j y hj) hxy, fun k q hk => h.2 k q (key k q hk)⟩
theorem ml_dsub2 {A : Nat → Prop} {w1 w2 : va_W} (h : va_D A (w1 ++ w2)) : va_D A w2 := by
  have key : ∀ (k : Nat) (q : Nat × va_E), w2[k]? = some q → (w1 ++ w2)[w1.length + k]? = some q := fun k q hk => by rw [List.getElem?_append_right (by omega), Nat.add_sub_cancel_left]; exact hk
  refine ⟨fun i j x y hi hj hxy => ?_, fun k q hk => h.2 _ q (key k q hk)⟩
  have := h.1 _ _ x y (key i x hi) (key j y hj) hxy
  omega
theorem ml_apart {A : Nat → Prop} {w1 w2 : va_W} (h : va_D A (w1 ++ w2)) {i j : Nat} {x y : Nat × va_E} (hi : w1[i]? = some x) (hj : w2[j]? = some y) : x.1 ≠ y.1 := by
  intro e
  have l1 := (List.getElem?_eq_some_iff.mp hi).1
  have := h.1 i (w1.length + j) x y (by rw [List.getElem?_append_left l1]; exact hi) (by rw [List.getElem?_append_right (by omega), Nat.add_sub_cancel_left]; exact hj) e
  omega
/-- the frame: what a callee's free cells don't name stays -/
theorem ml_kept {D : va_G} {cl : List vw_C} {w : va_W} {H H1 : Heap} {F : Nat → Prop} (hP : va_P D cl w H) (hk : ∀ q : Nat, q < H.size → ¬ F q → H1[q]? = H[q]?) (hF : ∀ (k : Nat) (q : Nat × va_E), w[k]? = some q → ¬ F q.1) : va_P D cl w H1 :=
  hP.kept (fun k q hq => hk q.1 (hP k q hq).lt (hF k q hq))
theorem ml_inA {ad : Nat → Nat} {cA : ClassId} {u : mx_S} {sk : mx_K} {k : Nat} (h : k < sk.length) : ∃ e, (mx_w ad cA u 0 sk)[k]? = some (ad k, e) :=
  ⟨_, mx_w_at ad cA u sk (List.getElem?_eq_getElem h)⟩
abbrev ml_S : Type := mx_S × mx_S
def ml_wd (np nd : Nat) : mx_WG ml_S := fun ad cA u => mx_w ad cA u.1 0 (kx np nd) ++ mx_w (fun k => ad (k + 11)) cA u.2 0 km
def ml_G (Ln : Nat) (xs : Nat → Int32) : State → (Nat → Nat) → Prop := fun s ad => va_X (ad 22) Ln xs s s.heap ∧ ad 22 < s.heap.size ∧ ∀ k, k < 22 → s.heap.size ≤ ad k
theorem ml_out {Ln : Nat} {xs : Nat → Int32} {s : State} {ad : Nat → Nat} (h : ml_G Ln xs s ad) : ¬ mx_A ad 22 s.heap.size (ad 22) := by
  intro q
  rcases q with ⟨k, hk, e⟩ | q
  · have := h.2.2 k hk
    have := h.2.1
    omega
  · have := h.2.1
    omega
section MLO
variable {np nd Ln : Nat} {xs : Nat → Int32} {l : Launch} {R rm : Room} {cc bytes : ByteArray} {nL maxL n index : Nat} {own : String} {ret rt : Option FieldType} {Ts : List Cond} {cl : List vw_C} {pc : Nat} {y : MethodName} {pre : List mx_V → mx_S → Prop} {fn : mx_F}
def ml_sld (Ln : Nat) (xs : Nat → Int32) (pc : Nat) : mx_TG ml_S := fun L st u K Rr => match st with
  | .inl i :: .inr (.inr k) :: r => k = 22 ∧ vp_in i Ln ∧ K (pc + 1) L (.inl (xs i.toNatClampNeg) :: r) u
  | _ => False
theorem ml_ok_sld (hdg : decode cc pc = .ok (.iaload, 1)) : mx_OkG (ml_wd np nd) 22 (ml_G Ln xs) l R cc nL own ret Ts cl pc (ml_sld Ln xs pc) := by
  intro p e s m args below meth c D cA ad cells slots Qf ⟨hx, hb, hml, hown, hts, hK, hcs, hG0⟩ Rr hE L st u K h hk ls H locs hl hP hD hS
  unfold ml_sld at h
  split at h
  · rename_i i k r
    obtain ⟨rfl, h1, h2⟩ := h
    exact va_sld hx hb hG0.1 hG0.2.1 (ml_out hG0) hS h1 hdg (hk _ _ _ _ h2 ls H locs hl hP hD hS)
  · exact h.elim
def ml_slen (Ln : Nat) (pc : Nat) : mx_TG ml_S := fun L st u K Rr => match st with
  | .inr (.inr k) :: r => k = 22 ∧ K (pc + 1) L (.inl (nI Ln) :: r) u
  | _ => False
theorem ml_ok_slen (hdg : decode cc pc = .ok (.arraylength, 1)) : mx_OkG (ml_wd np nd) 22 (ml_G Ln xs) l R cc nL own ret Ts cl pc (ml_slen Ln pc) := by
  intro p e s m args below meth c D cA ad cells slots Qf ⟨hx, hb, hml, hown, hts, hK, hcs, hG0⟩ Rr hE L st u K h hk ls H locs hl hP hD hS
  unfold ml_slen at h
  split at h
  · rename_i k r
    obtain ⟨rfl, h2⟩ := h
    exact va_slen hx hb hG0.1 hG0.2.1 (ml_out hG0) hS hdg (hk _ _ _ _ h2 ls H locs hl hP hD hS)
  · exact h.elim
def ml_ints : List mx_V → Bool
  | [] => true
  | .inl _ :: r => ml_ints r
  | _ => false
theorem ml_ints_c (ad ad' : Nat → Nat) : ∀ {as : List mx_V}, ml_ints as = true → as.map (mx_c ad) = as.map (mx_c ad')
  | [], _ => rfl
  | .inl x :: r, h => by
    have h1 : ml_ints r = true := h
    show Value.int x :: r.map (mx_c ad) = Value.int x :: r.map (mx_c ad')
    rw [ml_ints_c ad ad' h1]
  | .inr _ :: r, h => by cases h
/-- a call of one of the class's methods, by the law: receiver the cell 0; of the Model's: the cell 11 -/
def ml_invX (n : Nat) (pre : List mx_V → mx_S → Prop) (fn : mx_F) (pc : Nat) : mx_TG ml_S := fun L st u K _ =>
  (mx_fit (n + 1) st && ml_ints (st.take n)) = true ∧ st[n]? = some (.inr (.inr 0)) ∧ pre (.inr (.inr 0) :: (st.take n).reverse) u.1 ∧ K (pc + 3) L ((fn (.inr (.inr 0) :: (st.take n).reverse) u.1).1.toList ++ st.drop (n + 1)) ((fn (.inr (.inr 0) :: (st.take n).reverse) u.1).2, u.2)
def ml_invM (n : Nat) (pre : List mx_V → mx_S → Prop) (fn : mx_F) (pc : Nat) : mx_TG ml_S := fun L st u K _ =>
  (mx_fit (n + 1) st && ml_ints (st.take n)) = true ∧ st[n]? = some (.inr (.inr 11)) ∧ pre (.inr (.inr 0) :: (st.take n).reverse) u.2 ∧ (fn (.inr (.inr 0) :: (st.take n).reverse) u.2).1.toList.all (fun v => ml_ints [v]) = true ∧ K (pc + 3) L ((fn (.inr (.inr 0) :: (st.take n).reverse) u.2).1.toList ++ st.drop (n + 1)) (u.1, (fn (.inr (.inr 0) :: (st.take n).reverse) u.2).2)
theorem ml_stack {n : Nat} {st : List mx_V} {v : mx_V} (ad : Nat → Nat) (h : st[n]? = some v) : st.map (mx_c ad) = (((st.take n).reverse).map (mx_c ad)).reverse ++ mx_c ad v :: (st.drop (n + 1)).map (mx_c ad) := by
  have hl := (List.getElem?_eq_some_iff.mp h).1
  have e : st = st.take n ++ v :: st.drop (n + 1) := by
    have h1 : st.drop n = v :: st.drop (n + 1) := by
      rw [List.drop_eq_getElem_cons hl]
      rw [List.getElem?_eq_getElem hl] at h
      rw [Option.some.inj h]
    rw [← h1, List.take_append_drop]
  calc st.map (mx_c ad) = (st.take n ++ v :: st.drop (n + 1)).map (mx_c ad) := by rw [← e]
    _ = _ := by rw [List.map_append, List.map_cons, ← List.map_reverse, List.reverse_reverse]
/-- what the law's words say of a call -/
def ml_Cl (Ts Tc : List Cond) (own : String) (index : Nat) (R rm : Room) (y : MethodName) (bytes : ByteArray) (maxL : Nat) (rt : Option FieldType) (n : Nat) (C : String) : Prop :=
  GoodIn Ts (Cond.code y bytes maxL rt :: Tc) ∧ Cond.methodLink own index y ∈ Ts ∧ Cond.initialized y.cls ∈ Ts ∧ (y.cls ≠ "java/lang/invoke/MethodHandle" ∧ y.cls ≠ "java/lang/invoke/VarHandle" ∧ (parseMethodDescriptor y.desc).map (fun d => d.parameters.length) = some n) ∧ (rm.frames + 1 ≤ R.frames ∧ 8 + (maxL + 11) + rm.locals ≤ R.locals) ∧ rm.cells = 0 ∧ rm.slots = 0 ∧ Cond.instanceMethod y ∈ Ts ∧ Cond.selects C y y ∈ Ts
theorem ml_kx_len (np nd : Nat) : (kx np nd).length = 11 := rfl
theorem ml_km_len : km.length = 11 := rfl
theorem ml_ok_invX {C : String} {T : u_T} {N ci : Nat} {fs : List (Option Nat)} {Tc : List Cond} (hct : mx_Ct l Tc cl (kx np nd) rm y bytes maxL rt pre fn) (hC : ml_Cl Ts Tc own index R rm y bytes maxL rt n C) (hcl : cl[ci]? = some (C, T, N)) (h0 : (kx np nd)[0]? = some (.inl (ci, fs))) (hdg : decode cc pc = .ok (.invokevirtual index, 3)) : mx_OkG (ml_wd np nd) 22 (ml_G Ln xs) l R cc nL own ret Ts cl pc (ml_invX n pre fn pc) := by
  intro p e s m args below meth c D cA ad cells slots Qf ⟨hx, hb, hml, hown, hts, hK, hcs, hG0⟩ Rr hE L st u K h hk ls H locs hl hP hD hS
  obtain ⟨c1, c2, c3, c4, c5, c6, c7, c8, c9⟩ := hC
  obtain ⟨h1, h2, h3, h4⟩ := h
  rw [Bool.and_eq_true] at h1
  have hlen : (st.take n).length = n := by rw [List.length_take]; exact Nat.min_eq_left (Nat.le_of_succ_le (mx_fit_len h1.1))
  have hP1 : va_P D cl (mx_w ad cA u.1 0 (kx np nd)) H := ml_sub1 hP
  have hP2 : va_P D cl (mx_w (fun k => ad (k + 11)) cA u.2 0 km) H := ml_sub2 hP
  have hD1 : va_D (mx_A ad 22 s.heap.size) (mx_w ad cA u.1 0 (kx np nd)) := ml_dsub1 hD
  have hrun : va_Run p l e R s m args below meth c H locs cells slots 0 0 (F0 m pc ls (st.map (mx_c ad))) ((st.drop (n + 1)).map (mx_c ad)) (mx_Qc cl (kx np nd) D cA ad H.size (fn (.inr (.inr 0) :: (st.take n).reverse) u.1) (Value.ref (ad 0) :: (st.take n).reverse.map (mx_c ad)).toArray) (mx_A ad 11 H.size) :=
    va_runV (C := C) (b := ad 0) (As := (st.take n).reverse.map (mx_c ad)) (rest := (st.drop (n + 1)).map (mx_c ad)) ⟨hx, hb, hml, hown, hts⟩ (hct D cA ad H.size _ u.1 h3) ⟨callB_of n hts c1 rfl c6 c7 (hts _ c3) (hts _ c2) c4 c5, hts _ c8, hts _ c9⟩
      ⟨mx_blind cl (kx np nd) D cA ad H.size _ u.1, va_recv hK hP1 hcl (mx_w_at ad cA u.1 (kx np nd) h0), fun U hU hW => ⟨rfl, by rw [hU], by rw [hU]; exact hP1, va_K.moved hW.alike hK, mx_Dz _ hD1⟩⟩ rfl (by rw [List.length_map, List.length_reverse, hlen]) hl.1
      (ml_stack ad h2) (lv_room (mx_fit_room ad h1.1)) hdg hcs
  intro T0 hT X
  obtain ⟨v, st₀, t, T', L', g0, X', hL, e1, e2, ⟨⟨hv, hQ1⟩, hz, hkk⟩, go⟩ := hrun T0 hT X
  rw [g0] at hz hkk
  have hv : v = (fn (.inr (.inr 0) :: (st.take n).reverse) u.1).1.map (mx_c ad) := by injection hv
  have hA : ∀ q, mx_A ad 11 H.size q → mx_A ad 22 s.heap.size q := by
    intro q hq
    rcases hq with ⟨k, hk, h⟩ | h
    · exact Or.inl ⟨k, by omega, h⟩
    · exact Or.inr (Nat.le_trans hS.1 h)
  have hS' : va_S (mx_A ad 22 s.heap.size) s.heap T'.heap (locs ++ L') := by
    refine ⟨Nat.le_trans hS.1 (by rw [e1]; exact hz), fun q h1 h2 => ?_, fun q hq => ?_⟩
    · rw [e1, hkk q (Nat.lt_of_lt_of_le h1 hS.1) (fun z => h2 (hA q z))]
      exact hS.2.1 q h1 h2
    · rcases List.mem_append.mp hq with h | h
      · exact hS.2.2 q h
      · exact hA _ (hL q h)
  have hkeep : va_P D cl (mx_w (fun k => ad (k + 11)) cA u.2 0 km) t.heap := by
    refine ml_kept hP2 hkk (fun k q hq hF => ?_)
    rcases hF with ⟨j, hj, ej⟩ | h
    · obtain ⟨e0, he0⟩ := ml_inA (ad := ad) (cA := cA) (u := u.1) (sk := kx np nd) (k := j) hj
      exact ml_apart hD he0 hq ej.symm
    · have := (hP2 k q hq).lt
      omega
  have hst : v.toList ++ (st.drop (n + 1)).map (mx_c ad) = ((fn (.inr (.inr 0) :: (st.take n).reverse) u.1).1.toList ++ st.drop (n + 1)).map (mx_c ad) := by
    rw [hv, List.map_append]
    cases (fn (.inr (.inr 0) :: (st.take n).reverse) u.1).1 <;> rfl
  obtain ⟨t2, a1, b1⟩ := hk _ _ _ _ h4 ls T'.heap (locs ++ L') hl (by rw [e1]; exact hQ1.app hkeep) (ml_D hD (by show List.map Prod.fst (_ ++ _) = List.map Prod.fst (_ ++ _); rw [List.map_append, List.map_append, ml_fst ad cA u.1 _ (kx np nd) 0])) hS' T' rfl X'
  refine ⟨t2, go t2 ?_, b1⟩
  show Steps _ _ _ (T'.setTop (F0 m (pc + 3) ls (v.toList ++ (st.drop (n + 1)).map (mx_c ad)))) _
  rw [hst]
  exact a1
theorem ml_ok_invM {C : String} {T : u_T} {N ci : Nat} {fs : List (Option Nat)} {Tc : List Cond} (hct : mx_Ct l Tc cl km rm y bytes maxL rt pre fn) (hC : ml_Cl Ts Tc own index R rm y bytes maxL rt n C) (hcl : cl[ci]? = some (C, T, N)) (h0 : km[0]? = some (.inl (ci, fs))) (hdg : decode cc pc = .ok (.invokevirtual index, 3)) : mx_OkG (ml_wd np nd) 22 (ml_G Ln xs) l R cc nL own ret Ts cl pc (ml_invM n pre fn pc) := by
  intro p e s m args below meth c D cA ad cells slots Qf ⟨hx, hb, hml, hown, hts, hK, hcs, hG0⟩ Rr hE L st u K h hk ls H locs hl hP hD hS
  obtain ⟨c1, c2, c3, c4, c5, c6, c7, c8, c9⟩ := hC
  obtain ⟨h1, h2, h3, h5, h4⟩ := h
  rw [Bool.and_eq_true] at h1
  have hlen : (st.take n).length = n := by rw [List.length_take]; exact Nat.min_eq_left (Nat.le_of_succ_le (mx_fit_len h1.1))
  have hP1 : va_P D cl (mx_w ad cA u.1 0 (kx np nd)) H := ml_sub1 hP
  have hP2 : va_P D cl (mx_w (fun k => ad (k + 11)) cA u.2 0 km) H := ml_sub2 hP
  have hD1 : va_D (mx_A ad 22 s.heap.size) (mx_w (fun k => ad (k + 11)) cA u.2 0 km) := ml_dsub2 hD
  have hints : ml_ints (st.take n).reverse = true := by
    have key : ∀ l : List mx_V, ml_ints l = true ↔ ∀ v ∈ l, ∃ x, v = .inl x := by
      intro l
      induction l with
      | nil => simp [ml_ints]
      | cons a r ih =>
        cases a with
        | inl x => simp [ml_ints, ih]
        | inr x => simp [ml_ints]
    rw [key] at h1 ⊢
    exact fun v hv => h1.2 v (List.mem_reverse.mp hv)
  have hav : (st.take n).reverse.map (mx_c ad) = (st.take n).reverse.map (mx_c (fun k => ad (k + 11))) := ml_ints_c ad _ hints
  have hrun : va_Run p l e R s m args below meth c H locs cells slots 0 0 (F0 m pc ls (st.map (mx_c ad))) ((st.drop (n + 1)).map (mx_c ad)) (mx_Qc cl km D cA (fun k => ad (k + 11)) H.size (fn (.inr (.inr 0) :: (st.take n).reverse) u.2) (Value.ref (ad 11) :: (st.take n).reverse.map (mx_c ad)).toArray) (mx_A (fun k => ad (k + 11)) 11 H.size) :=
    va_runV (C := C) (b := ad 11) (As := (st.take n).reverse.map (mx_c ad)) (rest := (st.drop (n + 1)).map (mx_c ad)) ⟨hx, hb, hml, hown, hts⟩ (hct D cA (fun k => ad (k + 11)) H.size _ u.2 h3) ⟨callB_of n hts c1 rfl c6 c7 (hts _ c3) (hts _ c2) c4 c5, hts _ c8, hts _ c9⟩
      ⟨mx_blind cl km D cA (fun k => ad (k + 11)) H.size _ u.2, va_recv hK hP2 hcl (mx_w_at (fun k => ad (k + 11)) cA u.2 km h0), fun U hU hW => ⟨by rw [hav]; rfl, by rw [hU], by rw [hU]; exact hP2, va_K.moved hW.alike hK, mx_Dz _ hD1⟩⟩ rfl (by rw [List.length_map, List.length_reverse, hlen]) hl.1
      (ml_stack ad h2) (lv_room (mx_fit_room ad h1.1)) hdg hcs
  intro T0 hT X
  obtain ⟨v, st₀, t, T', L', g0, X', hL, e1, e2, ⟨⟨hv, hQ1⟩, hz, hkk⟩, go⟩ := hrun T0 hT X
  rw [g0] at hz hkk
  have hv : v = (fn (.inr (.inr 0) :: (st.take n).reverse) u.2).1.map (mx_c (fun k => ad (k + 11))) := by injection hv
  have hv' : v = (fn (.inr (.inr 0) :: (st.take n).reverse) u.2).1.map (mx_c ad) := by
    rw [hv]
    revert h5
    cases (fn (.inr (.inr 0) :: (st.take n).reverse) u.2).1 with
    | none => intro _; rfl
    | some z =>
      cases z with
      | inl x => intro _; rfl
      | inr x => intro h5; simp [ml_ints] at h5
  have hA : ∀ q, mx_A (fun k => ad (k + 11)) 11 H.size q → mx_A ad 22 s.heap.size q := by
    intro q hq
    rcases hq with ⟨k, hk, h⟩ | h
    · exact Or.inl ⟨k + 11, by omega, h⟩
    · exact Or.inr (Nat.le_trans hS.1 h)
  have hS' : va_S (mx_A ad 22 s.heap.size) s.heap T'.heap (locs ++ L') := by
    refine ⟨Nat.le_trans hS.1 (by rw [e1]; exact hz), fun q h1 h2 => ?_, fun q hq => ?_⟩
    · rw [e1, hkk q (Nat.lt_of_lt_of_le h1 hS.1) (fun z => h2 (hA q z))]
      exact hS.2.1 q h1 h2
    · rcases List.mem_append.mp hq with h | h
      · exact hS.2.2 q h
      · exact hA _ (hL q h)
  have hkeep : va_P D cl (mx_w ad cA u.1 0 (kx np nd)) t.heap := by
    refine ml_kept hP1 hkk (fun k q hq hF => ?_)
    rcases hF with ⟨j, hj, ej⟩ | h
    · obtain ⟨e0, he0⟩ := ml_inA (ad := fun k => ad (k + 11)) (cA := cA) (u := u.2) (sk := km) (k := j) hj
      exact ml_apart hD hq he0 ej
    · have := (hP1 k q hq).lt
      omega
  have hst : v.toList ++ (st.drop (n + 1)).map (mx_c ad) = ((fn (.inr (.inr 0) :: (st.take n).reverse) u.2).1.toList ++ st.drop (n + 1)).map (mx_c ad) := by
    rw [hv', List.map_append]
    cases (fn (.inr (.inr 0) :: (st.take n).reverse) u.2).1 <;> rfl
  obtain ⟨t2, a1, b1⟩ := hk _ _ _ _ h4 ls T'.heap (locs ++ L') hl (by rw [e1]; exact hkeep.app hQ1) (ml_D hD (by show List.map Prod.fst (_ ++ _) = List.map Prod.fst (_ ++ _); rw [List.map_append, List.map_append, ml_fst (fun k => ad (k + 11)) cA u.2 _ km 0])) hS' T' rfl X'
  refine ⟨t2, go t2 ?_, b1⟩
  show Steps _ _ _ (T'.setTop (F0 m (pc + 3) ls (v.toList ++ (st.drop (n + 1)).map (mx_c ad)))) _
  rw [hst]
  exact a1
end MLO
