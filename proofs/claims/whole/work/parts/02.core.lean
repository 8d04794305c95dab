/-! a small machine: values, worlds, transformers; each instruction's soundness by the kit's rows -/
abbrev mx_V : Type := Int32 ⊕ Int64 ⊕ Nat
abbrev mx_S : Type := (Nat → Nat → Int32) × (Nat → Nat → Int32)
abbrev mx_K : Type := List ((Nat × List (Option Nat)) ⊕ Nat)
abbrev mx_PG (σ : Type) : Type := Nat → List (Nat × mx_V) → List mx_V → σ → Prop
abbrev mx_RG (σ : Type) : Type := Option mx_V → σ → Prop
abbrev mx_TG (σ : Type) : Type := List (Nat × mx_V) → List mx_V → σ → mx_PG σ → mx_RG σ → Prop
abbrev mx_FG (σ : Type) : Type := List mx_V → σ → Option mx_V × σ
abbrev mx_P : Type := mx_PG mx_S
abbrev mx_R : Type := mx_RG mx_S
abbrev mx_T : Type := mx_TG mx_S
abbrev mx_F : Type := mx_FG mx_S
def mx_c (ad : Nat → Nat) (v : mx_V) : Value := match v with
  | .inl x => .int x
  | .inr (.inl y) => .long y
  | .inr (.inr k) => .ref (ad k)
def mx_cat (v : mx_V) : Nat := match v with
  | .inl _ => 1
  | .inr (.inl _) => 2
  | .inr (.inr _) => 1
theorem mx_cat_eq (ad : Nat → Nat) (v : mx_V) : (mx_c ad v).category = mx_cat v := by
  rcases v with x | y | k <;> rfl
def mx_lc (ad : Nat → Nat) (q : Nat × mx_V) : Nat × Value := (q.1, mx_c ad q.2)
/-- a state's reads and writes: an int field j of the cell k; the place i of the array k -/
def mx_gf (u : mx_S) (k j : Nat) : Int32 := u.1 k j
def mx_ga (u : mx_S) (k i : Nat) : Int32 := u.2 k i
def mx_sf (u : mx_S) (k j : Nat) (v : Int32) : mx_S := (fun a b => if a = k then (if b = j then v else u.1 a b) else u.1 a b, u.2)
def mx_sa (u : mx_S) (k i : Nat) (v : Int32) : mx_S := (u.1, fun a b => if a = k then (if b = i then v else u.2 a b) else u.2 a b)
def mx_fs (ad : Nat → Nat) (g : Nat → Int32) : Nat → List (Option Nat) → List Value
  | _, [] => []
  | j, some k :: r => .ref (ad k) :: mx_fs ad g (j + 1) r
  | j, none :: r => .int (g j) :: mx_fs ad g (j + 1) r
def mx_cell (ad : Nat → Nat) (cA : ClassId) (u : mx_S) (k : Nat) (q : (Nat × List (Option Nat)) ⊕ Nat) : Nat × va_E := (ad k, match q with
  | .inl q => .inr (q.1, mx_fs ad (u.1 k) 0 q.2)
  | .inr n => .inl (cA, n, .inl (u.2 k)))
def mx_w (ad : Nat → Nat) (cA : ClassId) (u : mx_S) : Nat → mx_K → va_W
  | _, [] => []
  | k, q :: r => mx_cell ad cA u k q :: mx_w ad cA u (k + 1) r
theorem mx_fs_len (ad : Nat → Nat) (g : Nat → Int32) : ∀ (fs : List (Option Nat)) (i : Nat), (mx_fs ad g i fs).length = fs.length
  | [], _ => rfl
  | some _ :: r, i => by simp [mx_fs, mx_fs_len ad g r (i + 1)]
  | none :: r, i => by simp [mx_fs, mx_fs_len ad g r (i + 1)]
theorem mx_fs_int (ad : Nat → Nat) (g : Nat → Int32) : ∀ (fs : List (Option Nat)) (i j : Nat), fs[j]? = some none → (mx_fs ad g i fs)[j]? = some (.int (g (i + j)))
  | [], _, _, h => by simp at h
  | a :: r, i, 0, h => by
    simp at h
    subst h
    rfl
  | a :: r, i, j + 1, h => by
    have h1 := mx_fs_int ad g r (i + 1) j (by simpa using h)
    rw [show i + 1 + j = i + (j + 1) by omega] at h1
    cases a <;> simpa [mx_fs] using h1
theorem mx_fs_ref (ad : Nat → Nat) (g : Nat → Int32) : ∀ (fs : List (Option Nat)) (i j k : Nat), fs[j]? = some (some k) → (mx_fs ad g i fs)[j]? = some (.ref (ad k))
  | [], _, _, _, h => by simp at h
  | a :: r, i, 0, k, h => by
    simp at h
    subst h
    rfl
  | a :: r, i, j + 1, k, h => by
    have h1 := mx_fs_ref ad g r (i + 1) j k (by simpa using h)
    cases a <;> simpa [mx_fs] using h1
theorem mx_fs_set (ad : Nat → Nat) (g : Nat → Int32) (fs : List (Option Nat)) (j : Nat) (v : Int32) (h : fs[j]? = some none) : (mx_fs ad g 0 fs).set j (.int v) = mx_fs ad (fun b => if b = j then v else g b) 0 fs := by
  have hl := (List.getElem?_eq_some_iff.mp h).1
  apply List.ext_getElem?
  intro n
  by_cases hn : n = j
  · subst hn
    rw [List.getElem?_set_self (by rw [mx_fs_len]; exact hl), mx_fs_int ad _ fs 0 n h, if_pos (Nat.zero_add n)]
  · rw [List.getElem?_set_ne (Ne.symm hn)]
    cases ho : fs[n]? with
    | none =>
      have h2 := List.getElem?_eq_none_iff.mp ho
      rw [List.getElem?_eq_none (by rw [mx_fs_len]; exact h2), List.getElem?_eq_none (by rw [mx_fs_len]; exact h2)]
    | some o =>
      cases o with
      | none => rw [mx_fs_int ad _ fs 0 n ho, mx_fs_int ad _ fs 0 n ho, if_neg (by rw [Nat.zero_add]; exact hn)]
      | some k => rw [mx_fs_ref ad _ fs 0 n k ho, mx_fs_ref ad _ fs 0 n k ho]
theorem mx_w_len (ad : Nat → Nat) (cA : ClassId) (u : mx_S) : ∀ (sk : mx_K) (i : Nat), (mx_w ad cA u i sk).length = sk.length
  | [], _ => rfl
  | _ :: r, i => by simp [mx_w, mx_w_len ad cA u r (i + 1)]
theorem mx_w_get (ad : Nat → Nat) (cA : ClassId) (u : mx_S) : ∀ (sk : mx_K) (i k : Nat) (q : (Nat × List (Option Nat)) ⊕ Nat), sk[k]? = some q → (mx_w ad cA u i sk)[k]? = some (mx_cell ad cA u (i + k) q)
  | [], _, _, _, h => by simp at h
  | a :: r, i, 0, q, h => by
    simp at h
    subst h
    rfl
  | a :: r, i, k + 1, q, h => by
    have h1 := mx_w_get ad cA u r (i + 1) k q (by simpa using h)
    rw [show i + 1 + k = i + (k + 1) by omega] at h1
    simpa [mx_w] using h1
theorem mx_w_at (ad : Nat → Nat) (cA : ClassId) (u : mx_S) (sk : mx_K) {k : Nat} {q : (Nat × List (Option Nat)) ⊕ Nat} (h : sk[k]? = some q) : (mx_w ad cA u 0 sk)[k]? = some (mx_cell ad cA u k q) := by
  have h1 := mx_w_get ad cA u sk 0 k q h
  rwa [Nat.zero_add] at h1
theorem mx_w_inv (ad : Nat → Nat) (cA : ClassId) (u : mx_S) (sk : mx_K) {k : Nat} {q : Nat × va_E} (h : (mx_w ad cA u 0 sk)[k]? = some q) : ∃ x, sk[k]? = some x ∧ q = mx_cell ad cA u k x := by
  have hl := (List.getElem?_eq_some_iff.mp h).1
  rw [mx_w_len] at hl
  refine ⟨sk[k], List.getElem?_eq_getElem hl, ?_⟩
  rw [mx_w_at ad cA u sk (List.getElem?_eq_getElem hl)] at h
  exact (Option.some.inj h).symm
theorem mx_w_sf (ad : Nat → Nat) (cA : ClassId) (u : mx_S) (sk : mx_K) {k j : Nat} (v : Int32) {q : Nat × List (Option Nat)} (h : sk[k]? = some (.inl q)) (hj : q.2[j]? = some none) :
    (mx_w ad cA u 0 sk).set k (ad k, .inr (q.1, (mx_fs ad (u.1 k) 0 q.2).set j (.int v))) = mx_w ad cA (mx_sf u k j v) 0 sk := by
  have hl := (List.getElem?_eq_some_iff.mp h).1
  apply List.ext_getElem?
  intro n
  by_cases hn : n = k
  · subst hn
    rw [List.getElem?_set_self (by rw [mx_w_len]; exact hl), mx_w_at ad cA _ sk h, mx_fs_set ad _ _ _ v hj]
    have e : (mx_sf u n j v).1 n = fun b => if b = j then v else u.1 n b := by
      funext b
      simp [mx_sf]
    simp only [mx_cell, e]
  · rw [List.getElem?_set_ne (Ne.symm hn)]
    cases ho : sk[n]? with
    | none =>
      have h2 := List.getElem?_eq_none_iff.mp ho
      rw [List.getElem?_eq_none (by rw [mx_w_len]; exact h2), List.getElem?_eq_none (by rw [mx_w_len]; exact h2)]
    | some o =>
      rw [mx_w_at ad cA _ sk ho, mx_w_at ad cA _ sk ho]
      have e : (mx_sf u k j v).1 n = u.1 n := by
        funext b
        simp [mx_sf, hn]
      cases o with
      | inl x => simp only [mx_cell, e]
      | inr x => simp only [mx_cell, mx_sf]
theorem mx_w_sa (ad : Nat → Nat) (cA : ClassId) (u : mx_S) (sk : mx_K) {k i n0 : Nat} (v : Int32) (h : sk[k]? = some (.inr n0)) :
    (mx_w ad cA u 0 sk).set k (ad k, .inl (cA, n0, .inl (upd (u.2 k) i v))) = mx_w ad cA (mx_sa u k i v) 0 sk := by
  have hl := (List.getElem?_eq_some_iff.mp h).1
  apply List.ext_getElem?
  intro n
  by_cases hn : n = k
  · subst hn
    rw [List.getElem?_set_self (by rw [mx_w_len]; exact hl), mx_w_at ad cA _ sk h]
    have e : (mx_sa u n i v).2 n = upd (u.2 n) i v := by
      funext b
      simp [mx_sa, upd]
    simp only [mx_cell, e]
  · rw [List.getElem?_set_ne (Ne.symm hn)]
    cases ho : sk[n]? with
    | none =>
      have h2 := List.getElem?_eq_none_iff.mp ho
      rw [List.getElem?_eq_none (by rw [mx_w_len]; exact h2), List.getElem?_eq_none (by rw [mx_w_len]; exact h2)]
    | some o =>
      rw [mx_w_at ad cA _ sk ho, mx_w_at ad cA _ sk ho]
      have e : (mx_sa u k i v).2 n = u.2 n := by
        funext b
        simp [mx_sa, hn]
      cases o with
      | inl x => simp only [mx_cell, mx_sa]
      | inr x => simp only [mx_cell, e]
/-- the cells that a method may change: the world's, and new ones -/
def mx_A (ad : Nat → Nat) (n sz : Nat) : Nat → Prop := fun q => (∃ k, k < n ∧ q = ad k) ∨ sz ≤ q
theorem mx_D {A : Nat → Prop} {ad : Nat → Nat} {cA : ClassId} {u : mx_S} (u' : mx_S) {sk : mx_K} (h : va_D A (mx_w ad cA u 0 sk)) : va_D A (mx_w ad cA u' 0 sk) := by
  refine ⟨fun i j x y hi hj hxy => ?_, fun k q hk => ?_⟩
  · obtain ⟨a, ha, rfl⟩ := mx_w_inv ad cA u' sk hi
    obtain ⟨b, hb, rfl⟩ := mx_w_inv ad cA u' sk hj
    exact h.1 i j _ _ (mx_w_at ad cA u sk ha) (mx_w_at ad cA u sk hb) hxy
  · obtain ⟨a, ha, rfl⟩ := mx_w_inv ad cA u' sk hk
    exact h.2 k (mx_cell ad cA u k a) (mx_w_at ad cA u sk ha)
theorem mx_Dz {A : Nat → Prop} {ad : Nat → Nat} {cA : ClassId} {u : mx_S} {sk : mx_K} (sz : Nat) (h : va_D A (mx_w ad cA u 0 sk)) : va_D (mx_A ad sk.length sz) (mx_w ad cA u 0 sk) := by
  refine ⟨h.1, fun k q hk => ?_⟩
  have hl := (List.getElem?_eq_some_iff.mp hk).1
  rw [mx_w_len] at hl
  obtain ⟨a, ha, rfl⟩ := mx_w_inv ad cA u sk hk
  exact Or.inl ⟨k, hl, rfl⟩
def mx_lk : List (Nat × mx_V) → Nat → Option mx_V
  | [], _ => none
  | q :: r, i => bif Nat.beq q.1 i then some q.2 else mx_lk r i
theorem mx_lk_mem : ∀ {L : List (Nat × mx_V)} {i : Nat} {v : mx_V}, mx_lk L i = some v → (i, v) ∈ L
  | [], _, _, h => by simp [mx_lk] at h
  | q :: r, i, v, h => by
    unfold mx_lk at h
    cases hq : Nat.beq q.1 i with
    | true =>
      rw [hq] at h
      have e := Nat.eq_of_beq_eq_true hq
      have e2 : q.2 = v := Option.some.inj h
      subst e
      subst e2
      exact List.mem_cons_self
    | false =>
      rw [hq] at h
      exact List.mem_cons_of_mem _ (mx_lk_mem h)
theorem mx_lv {ls : Array Slot} {nL : Nat} {ad : Nat → Nat} {L : List (Nat × mx_V)} (hl : lv_has ls nL (L.map (mx_lc ad))) {i : Nat} {v : mx_V} (h : mx_lk L i = some v) : ls[i]? = some (.val (mx_c ad v)) :=
  hl.2.2 (i, mx_c ad v) (List.mem_map.mpr ⟨(i, v), mx_lk_mem h, rfl⟩)
def mx_st (L : List (Nat × mx_V)) (i : Nat) (v : mx_V) : List (Nat × mx_V) := (i, v) :: L.filter (fun q => !(q.1 == i) && !(q.1 + 1 == i && mx_cat q.2 == 2))
theorem mx_st_eq (ad : Nat → Nat) (L : List (Nat × mx_V)) (i : Nat) (v : mx_V) : (i, mx_c ad v) :: (L.map (mx_lc ad)).filter (fun q => !(q.1 == i) && !(q.1 + 1 == i && q.2.category == 2)) = (mx_st L i v).map (mx_lc ad) := by
  rw [List.filter_map]
  show _ = mx_lc ad (i, v) :: _
  have e : ((fun q : Nat × Value => !(q.1 == i) && !(q.1 + 1 == i && q.2.category == 2)) ∘ mx_lc ad) = fun q : Nat × mx_V => !(q.1 == i) && !(q.1 + 1 == i && mx_cat q.2 == 2) := by
    funext q
    simp [mx_lc, mx_cat_eq]
  rw [e]
  rfl
def mx_st2 (L : List (Nat × mx_V)) (i : Nat) (v : mx_V) : List (Nat × mx_V) := (i, v) :: L.filter (fun q => !(q.1 == i) && (!(q.1 == i + 1) && !(q.1 + 1 == i && mx_cat q.2 == 2)))
theorem mx_st2_eq (ad : Nat → Nat) (L : List (Nat × mx_V)) (i : Nat) (v : mx_V) : (i, mx_c ad v) :: (L.map (mx_lc ad)).filter (fun q => !(q.1 == i) && (!(q.1 == i + 1) && !(q.1 + 1 == i && q.2.category == 2))) = (mx_st2 L i v).map (mx_lc ad) := by
  rw [List.filter_map]
  show _ = mx_lc ad (i, v) :: _
  have e : ((fun q : Nat × Value => !(q.1 == i) && (!(q.1 == i + 1) && !(q.1 + 1 == i && q.2.category == 2))) ∘ mx_lc ad) = fun q : Nat × mx_V => !(q.1 == i) && (!(q.1 == i + 1) && !(q.1 + 1 == i && mx_cat q.2 == 2)) := by
    funext q
    simp [mx_lc, mx_cat_eq]
  rw [e]
  rfl
/-- what holds of the machine while one method runs; G: what else its own words say of the start -/
def mx_Cx (G : State → (Nat → Nat) → Prop) (R : Room) (cells slots : Nat) (cc : ByteArray) (nL : Nat) (own : String) (ret : Option FieldType) (Ts : List Cond) (cl : List vw_C) (p : Program) (s : State) (m : MethodId) (args : Array Value) (meth : Method) (c : Code) (D : va_G) (cA : ClassId) (ad : Nat → Nat) : Prop :=
  p.tables.exec = Jvm.exec ∧ c.code = cc ∧ c.maxLocals = nL ∧ s.vm.findClass own = some m.cls ∧ (∀ w ∈ Ts, w.before args s = true) ∧ va_K D cl [(cA, .int)] s ∧ (cells ≤ R.cells ∧ slots ≤ R.slots) ∧ G s ad
abbrev mx_WG (σ : Type) : Type := (Nat → Nat) → ClassId → σ → va_W
/-- the machine comes, from this place with these locals, stack and world, to an end with Qf -/
def mx_AtG {σ : Type} (wd : mx_WG σ) (nc : Nat) (l : Launch) (R : Room) (cells slots : Nat) (nL : Nat) (cl : List vw_C) (p : Program) (e : Env) (s : State) (m : MethodId) (args : Array Value) (below : List Frame) (meth : Method) (c : Code) (D : va_G) (cA : ClassId) (ad : Nat → Nat) (Qf : State → Prop) : mx_PG σ := fun pc L st u =>
  ∀ (ls : Array Slot) (H : Heap) (locs : List Loc), lv_has ls nL (L.map (mx_lc ad)) → va_P D cl (wd ad cA u) H → va_D (mx_A ad nc s.heap.size) (wd ad cA u) → va_S (mx_A ad nc s.heap.size) s.heap H locs →
    W p l e R s m args below meth c H locs cells slots Qf (F0 m pc ls (st.map (mx_c ad)))
/-- a place where the method ends, and what it may answer there -/
def mx_rk (cc : ByteArray) (ret : Option FieldType) (pc : Nat) (v : Option mx_V) : Prop :=
  (decode cc pc = .ok (.ireturn, 1) ∧ ∃ x : Int32, v = some (.inl x) ∧ (ret = some .int ∨ (ret = some .boolean ∧ (x = 0 ∨ x = 1)))) ∨ (decode cc pc = .ok (.return_, 1) ∧ v = none ∧ ret = none)
def mx_EndG {σ : Type} (wd : mx_WG σ) (nc : Nat) (l : Launch) (R : Room) (cells slots : Nat) (cc : ByteArray) (ret : Option FieldType) (cl : List vw_C) (p : Program) (e : Env) (s : State) (m : MethodId) (args : Array Value) (below : List Frame) (meth : Method) (c : Code) (D : va_G) (cA : ClassId) (ad : Nat → Nat) (Qf : State → Prop) (Rr : mx_RG σ) : Prop :=
  ∀ (pc : Nat) (v : Option mx_V) (u : σ) (ls : Array Slot) (H : Heap) (locs : List Loc), mx_rk cc ret pc v → Rr v u → va_P D cl (wd ad cA u) H → va_S (mx_A ad nc s.heap.size) s.heap H locs → W p l e R s m args below meth c H locs cells slots Qf (F0 m pc ls (v.toList.map (mx_c ad)))
/-- an instruction at pc keeps to its transformer -/
def mx_OkG {σ : Type} (wd : mx_WG σ) (nc : Nat) (G : State → (Nat → Nat) → Prop) (l : Launch) (R : Room) (cc : ByteArray) (nL : Nat) (own : String) (ret : Option FieldType) (Ts : List Cond) (cl : List vw_C) (pc : Nat) (T : mx_TG σ) : Prop :=
  ∀ (p : Program) (e : Env) (s : State) (m : MethodId) (args : Array Value) (below : List Frame) (meth : Method) (c : Code) (D : va_G) (cA : ClassId) (ad : Nat → Nat) (cells slots : Nat) (Qf : State → Prop),
    mx_Cx G R cells slots cc nL own ret Ts cl p s m args meth c D cA ad → ∀ Rr : mx_RG σ, mx_EndG wd nc l R cells slots cc ret cl p e s m args below meth c D cA ad Qf Rr → ∀ (L : List (Nat × mx_V)) (st : List mx_V) (u : σ) (K : mx_PG σ), T L st u K Rr →
      (∀ (pc' : Nat) (L' : List (Nat × mx_V)) (st' : List mx_V) (u' : σ), K pc' L' st' u' → mx_AtG wd nc l R cells slots nL cl p e s m args below meth c D cA ad Qf pc' L' st' u') → mx_AtG wd nc l R cells slots nL cl p e s m args below meth c D cA ad Qf pc L st u
def mx_wd (sk : mx_K) : mx_WG mx_S := fun ad cA u => mx_w ad cA u 0 sk
abbrev mx_Ok (l : Launch) (R : Room) (cc : ByteArray) (nL : Nat) (own : String) (ret : Option FieldType) (Ts : List Cond) (cl : List vw_C) (sk : mx_K) (pc : Nat) (T : mx_T) : Prop := mx_OkG (mx_wd sk) sk.length (fun _ _ => True) l R cc nL own ret Ts cl pc T
section MXO
variable {σ : Type} {wd : mx_WG σ} {nc : Nat} {G : State → (Nat → Nat) → Prop} {l : Launch} {R : Room} {cc : ByteArray} {nL : Nat} {own : String} {ret : Option FieldType} {Ts : List Cond} {cl : List vw_C} {sk : mx_K} {pc : Nat}

def mx_iload_n {σ : Type} (i : Nat) (pc : Nat) : mx_TG σ := fun L st u K Rr => match mx_lk L i with
  | some v => match v with
    | .inl x => K (pc + 1) L (.inl x :: st) u
    | _ => False
  | none => False
theorem mx_ok_iload_n {k : Fin 4} {i : Nat} (hdg : decode cc pc = .ok (.iload_n k, 1)) (hi : (k : Nat) = i) : mx_OkG wd nc G l R cc nL own ret Ts cl pc (mx_iload_n i pc) := by
  intro p e s m args below meth c D cA ad cells slots Qf ⟨hx, hb, hml, hown, hts, hK, hcs, hG0⟩ Rr hE L st u K h hk ls H locs hl hP hD hS
  unfold mx_iload_n at h
  split at h
  · rename_i v hv
    split at h
    · exact lv_iload_n hx hb hdg hi (mx_lv hl hv) (hk _ _ _ _ h ls H locs hl hP hD hS)
    · exact h.elim
  · exact h.elim
def mx_iload {σ : Type} (i : Nat) (pc : Nat) : mx_TG σ := fun L st u K Rr => match mx_lk L i with
  | some v => match v with
    | .inl x => K (pc + 2) L (.inl x :: st) u
    | _ => False
  | none => False
theorem mx_ok_iload {i : Nat} (hdg : decode cc pc = .ok (.iload i, 2)) : mx_OkG wd nc G l R cc nL own ret Ts cl pc (mx_iload i pc) := by
  intro p e s m args below meth c D cA ad cells slots Qf ⟨hx, hb, hml, hown, hts, hK, hcs, hG0⟩ Rr hE L st u K h hk ls H locs hl hP hD hS
  unfold mx_iload at h
  split at h
  · rename_i v hv
    split at h
    · exact lv_iload hx hb hdg (mx_lv hl hv) (hk _ _ _ _ h ls H locs hl hP hD hS)
    · exact h.elim
  · exact h.elim
def mx_aload_n {σ : Type} (i : Nat) (pc : Nat) : mx_TG σ := fun L st u K Rr => match mx_lk L i with
  | some v => match v with
    | .inr (.inr x) => K (pc + 1) L (.inr (.inr x) :: st) u
    | _ => False
  | none => False
theorem mx_ok_aload_n {k : Fin 4} {i : Nat} (hdg : decode cc pc = .ok (.aload_n k, 1)) (hi : (k : Nat) = i) : mx_OkG wd nc G l R cc nL own ret Ts cl pc (mx_aload_n i pc) := by
  intro p e s m args below meth c D cA ad cells slots Qf ⟨hx, hb, hml, hown, hts, hK, hcs, hG0⟩ Rr hE L st u K h hk ls H locs hl hP hD hS
  unfold mx_aload_n at h
  split at h
  · rename_i v hv
    split at h
    · exact lv_aload_n hx hb hdg hi (mx_lv hl hv) (hk _ _ _ _ h ls H locs hl hP hD hS)
    · exact h.elim
  · exact h.elim
def mx_lload_n {σ : Type} (i : Nat) (pc : Nat) : mx_TG σ := fun L st u K Rr => match mx_lk L i with
  | some v => match v with
    | .inr (.inl x) => K (pc + 1) L (.inr (.inl x) :: st) u
    | _ => False
  | none => False
theorem mx_ok_lload_n {k : Fin 4} {i : Nat} (hdg : decode cc pc = .ok (.lload_n k, 1)) (hi : (k : Nat) = i) : mx_OkG wd nc G l R cc nL own ret Ts cl pc (mx_lload_n i pc) := by
  intro p e s m args below meth c D cA ad cells slots Qf ⟨hx, hb, hml, hown, hts, hK, hcs, hG0⟩ Rr hE L st u K h hk ls H locs hl hP hD hS
  unfold mx_lload_n at h
  split at h
  · rename_i v hv
    split at h
    · exact lv_lload_n hx hb hdg hi (mx_lv hl hv) (hk _ _ _ _ h ls H locs hl hP hD hS)
    · exact h.elim
  · exact h.elim
def mx_istore_n {σ : Type} (i : Nat) (pc : Nat) : mx_TG σ := fun L st u K Rr => match st with
  | .inl x :: r => K (pc + 1) (mx_st L i (.inl x)) r u
  | _ => False
theorem mx_ok_istore_n {k : Fin 4} {i : Nat} (hdg : decode cc pc = .ok (.istore_n k, 1)) (hi : (k : Nat) = i) (hn : i < nL) : mx_OkG wd nc G l R cc nL own ret Ts cl pc (mx_istore_n i pc) := by
  intro p e s m args below meth c D cA ad cells slots Qf ⟨hx, hb, hml, hown, hts, hK, hcs, hG0⟩ Rr hE L st u K h hk ls H locs hl hP hD hS
  unfold mx_istore_n at h
  split at h
  · rename_i x r
    exact lv_istore_n hx hb hdg hi hl hn (mx_st_eq ad L i (.inl x)) (fun ls' hl' => hk _ _ _ _ h ls' H locs hl' hP hD hS)
  · exact h.elim
def mx_istore {σ : Type} (i : Nat) (pc : Nat) : mx_TG σ := fun L st u K Rr => match st with
  | .inl x :: r => K (pc + 2) (mx_st L i (.inl x)) r u
  | _ => False
theorem mx_ok_istore {i : Nat} (hdg : decode cc pc = .ok (.istore i, 2)) (hn : i < nL) : mx_OkG wd nc G l R cc nL own ret Ts cl pc (mx_istore i pc) := by
  intro p e s m args below meth c D cA ad cells slots Qf ⟨hx, hb, hml, hown, hts, hK, hcs, hG0⟩ Rr hE L st u K h hk ls H locs hl hP hD hS
  unfold mx_istore at h
  split at h
  · rename_i x r
    exact lv_istore hx hb hdg hl hn (mx_st_eq ad L i (.inl x)) (fun ls' hl' => hk _ _ _ _ h ls' H locs hl' hP hD hS)
  · exact h.elim
def mx_lstore_n {σ : Type} (i : Nat) (pc : Nat) : mx_TG σ := fun L st u K Rr => match st with
  | .inr (.inl x) :: r => K (pc + 1) (mx_st2 L i (.inr (.inl x))) r u
  | _ => False
theorem mx_ok_lstore_n {k : Fin 4} {i : Nat} (hdg : decode cc pc = .ok (.lstore_n k, 1)) (hi : (k : Nat) = i) (hn : i + 1 < nL) : mx_OkG wd nc G l R cc nL own ret Ts cl pc (mx_lstore_n i pc) := by
  intro p e s m args below meth c D cA ad cells slots Qf ⟨hx, hb, hml, hown, hts, hK, hcs, hG0⟩ Rr hE L st u K h hk ls H locs hl hP hD hS
  unfold mx_lstore_n at h
  split at h
  · rename_i x r
    exact lv_lstore_n hx hb hdg hi hl hn (mx_st2_eq ad L i (.inr (.inl x))) (fun ls' hl' => hk _ _ _ _ h ls' H locs hl' hP hD hS)
  · exact h.elim
def mx_iinc {σ : Type} (i : Nat) (n : Int32) (pc : Nat) : mx_TG σ := fun L st u K Rr => match mx_lk L i with
  | some v => match v with
    | .inl x => K (pc + 3) (mx_st L i (.inl (x + n))) st u
    | _ => False
  | none => False
theorem mx_ok_iinc {i : Nat} {n : Int} {n' : Int32} (hdg : decode cc pc = .ok (.iinc i n, 3)) (hn' : Int32.ofInt n = n') (hn : i < nL) : mx_OkG wd nc G l R cc nL own ret Ts cl pc (mx_iinc i n' pc) := by
  intro p e s m args below meth c D cA ad cells slots Qf ⟨hx, hb, hml, hown, hts, hK, hcs, hG0⟩ Rr hE L st u K h hk ls H locs hl hP hD hS
  subst hn'
  unfold mx_iinc at h
  split at h
  · rename_i v hv
    split at h
    · rename_i x
      obtain ⟨k, hk2⟩ := List.getElem?_of_mem (List.mem_map.mpr ⟨(i, Sum.inl x), mx_lk_mem hv, rfl⟩ : mx_lc ad (i, Sum.inl x) ∈ L.map (mx_lc ad))
      exact lv_iinc hx hb hdg hl hk2 rfl hn (mx_st_eq ad _ _ (.inl _)) (fun ls' hl' => hk _ _ _ _ h ls' H locs hl' hP hD hS)
    · exact h.elim
  · exact h.elim
def mx_iconst {σ : Type} (v : Int32) (pc : Nat) : mx_TG σ := fun L st u K Rr => K (pc + 1) L (.inl v :: st) u
theorem mx_ok_iconst {n : Int} {v : Int32} (hdg : decode cc pc = .ok (.iconst n, 1)) (hv : Int32.ofInt n = v) : mx_OkG wd nc G l R cc nL own ret Ts cl pc (mx_iconst v pc) := by
  intro p e s m args below meth c D cA ad cells slots Qf ⟨hx, hb, hml, hown, hts, hK, hcs, hG0⟩ Rr hE L st u K h hk ls H locs hl hP hD hS
  exact lv_iconst hx hb hdg hv (hk _ _ _ _ h ls H locs hl hP hD hS)
def mx_bipush {σ : Type} (v : Int32) (pc : Nat) : mx_TG σ := fun L st u K Rr => K (pc + 2) L (.inl v :: st) u
theorem mx_ok_bipush {n : Int} {v : Int32} (hdg : decode cc pc = .ok (.bipush n, 2)) (hv : (Int8.ofInt n).toInt32 = v) : mx_OkG wd nc G l R cc nL own ret Ts cl pc (mx_bipush v pc) := by
  intro p e s m args below meth c D cA ad cells slots Qf ⟨hx, hb, hml, hown, hts, hK, hcs, hG0⟩ Rr hE L st u K h hk ls H locs hl hP hD hS
  exact lv_bipush hx hb hdg hv (hk _ _ _ _ h ls H locs hl hP hD hS)
def mx_sipush {σ : Type} (v : Int32) (pc : Nat) : mx_TG σ := fun L st u K Rr => K (pc + 3) L (.inl v :: st) u
theorem mx_ok_sipush {n : Int} {v : Int32} (hdg : decode cc pc = .ok (.sipush n, 3)) (hv : (Int16.ofInt n).toInt32 = v) : mx_OkG wd nc G l R cc nL own ret Ts cl pc (mx_sipush v pc) := by
  intro p e s m args below meth c D cA ad cells slots Qf ⟨hx, hb, hml, hown, hts, hK, hcs, hG0⟩ Rr hE L st u K h hk ls H locs hl hP hD hS
  exact lv_sipush hx hb hdg hv (hk _ _ _ _ h ls H locs hl hP hD hS)
def mx_ldc {σ : Type} (v : Int32) (pc : Nat) : mx_TG σ := fun L st u K Rr => K (pc + 2) L (.inl v :: st) u
theorem mx_ok_ldc {index : Nat} {v : Int32} (hdg : decode cc pc = .ok (.ldc index, 2)) (hc : Cond.constant own index v ∈ Ts) : mx_OkG wd nc G l R cc nL own ret Ts cl pc (mx_ldc v pc) := by
  intro p e s m args below meth c D cA ad cells slots Qf ⟨hx, hb, hml, hown, hts, hK, hcs, hG0⟩ Rr hE L st u K h hk ls H locs hl hP hD hS
  exact lv_ldc hx hb hown (hts _ hc) hdg (hk _ _ _ _ h ls H locs hl hP hD hS)
def mx_ldc2 {σ : Type} (v : Int64) (pc : Nat) : mx_TG σ := fun L st u K Rr => K (pc + 3) L (.inr (.inl v) :: st) u
theorem mx_ok_ldc2 {index : Nat} {v : Int64} (hdg : decode cc pc = .ok (.ldc2_w index, 3)) (hc : Cond.constantLong own index v ∈ Ts) : mx_OkG wd nc G l R cc nL own ret Ts cl pc (mx_ldc2 v pc) := by
  intro p e s m args below meth c D cA ad cells slots Qf ⟨hx, hb, hml, hown, hts, hK, hcs, hG0⟩ Rr hE L st u K h hk ls H locs hl hP hD hS
  exact lv_ldc2 hx hb hown (hts _ hc) hdg (hk _ _ _ _ h ls H locs hl hP hD hS)
def mx_iadd {σ : Type} (pc : Nat) : mx_TG σ := fun L st u K Rr => match st with
  | .inl y :: .inl x :: r => K (pc + 1) L (.inl (x + y) :: r) u
  | _ => False
theorem mx_ok_iadd (hdg : decode cc pc = .ok (.iadd, 1)) : mx_OkG wd nc G l R cc nL own ret Ts cl pc (mx_iadd pc) := by
  intro p e s m args below meth c D cA ad cells slots Qf ⟨hx, hb, hml, hown, hts, hK, hcs, hG0⟩ Rr hE L st u K h hk ls H locs hl hP hD hS
  unfold mx_iadd at h
  split at h
  · exact lv_iadd hx hb hdg (hk _ _ _ _ h ls H locs hl hP hD hS)
  · exact h.elim
def mx_isub {σ : Type} (pc : Nat) : mx_TG σ := fun L st u K Rr => match st with
  | .inl y :: .inl x :: r => K (pc + 1) L (.inl (x - y) :: r) u
  | _ => False
theorem mx_ok_isub (hdg : decode cc pc = .ok (.isub, 1)) : mx_OkG wd nc G l R cc nL own ret Ts cl pc (mx_isub pc) := by
  intro p e s m args below meth c D cA ad cells slots Qf ⟨hx, hb, hml, hown, hts, hK, hcs, hG0⟩ Rr hE L st u K h hk ls H locs hl hP hD hS
  unfold mx_isub at h
  split at h
  · exact lv_isub hx hb hdg (hk _ _ _ _ h ls H locs hl hP hD hS)
  · exact h.elim
def mx_imul {σ : Type} (pc : Nat) : mx_TG σ := fun L st u K Rr => match st with
  | .inl y :: .inl x :: r => K (pc + 1) L (.inl (x * y) :: r) u
  | _ => False
theorem mx_ok_imul (hdg : decode cc pc = .ok (.imul, 1)) : mx_OkG wd nc G l R cc nL own ret Ts cl pc (mx_imul pc) := by
  intro p e s m args below meth c D cA ad cells slots Qf ⟨hx, hb, hml, hown, hts, hK, hcs, hG0⟩ Rr hE L st u K h hk ls H locs hl hP hD hS
  unfold mx_imul at h
  split at h
  · exact lv_imul hx hb hdg (hk _ _ _ _ h ls H locs hl hP hD hS)
  · exact h.elim
def mx_iand {σ : Type} (pc : Nat) : mx_TG σ := fun L st u K Rr => match st with
  | .inl y :: .inl x :: r => K (pc + 1) L (.inl (x &&& y) :: r) u
  | _ => False
theorem mx_ok_iand (hdg : decode cc pc = .ok (.iand, 1)) : mx_OkG wd nc G l R cc nL own ret Ts cl pc (mx_iand pc) := by
  intro p e s m args below meth c D cA ad cells slots Qf ⟨hx, hb, hml, hown, hts, hK, hcs, hG0⟩ Rr hE L st u K h hk ls H locs hl hP hD hS
  unfold mx_iand at h
  split at h
  · exact lv_iand hx hb hdg (hk _ _ _ _ h ls H locs hl hP hD hS)
  · exact h.elim
def mx_ior {σ : Type} (pc : Nat) : mx_TG σ := fun L st u K Rr => match st with
  | .inl y :: .inl x :: r => K (pc + 1) L (.inl (x ||| y) :: r) u
  | _ => False
theorem mx_ok_ior (hdg : decode cc pc = .ok (.ior, 1)) : mx_OkG wd nc G l R cc nL own ret Ts cl pc (mx_ior pc) := by
  intro p e s m args below meth c D cA ad cells slots Qf ⟨hx, hb, hml, hown, hts, hK, hcs, hG0⟩ Rr hE L st u K h hk ls H locs hl hP hD hS
  unfold mx_ior at h
  split at h
  · exact lv_ior hx hb hdg (hk _ _ _ _ h ls H locs hl hP hD hS)
  · exact h.elim
def mx_ixor {σ : Type} (pc : Nat) : mx_TG σ := fun L st u K Rr => match st with
  | .inl y :: .inl x :: r => K (pc + 1) L (.inl (x ^^^ y) :: r) u
  | _ => False
theorem mx_ok_ixor (hdg : decode cc pc = .ok (.ixor, 1)) : mx_OkG wd nc G l R cc nL own ret Ts cl pc (mx_ixor pc) := by
  intro p e s m args below meth c D cA ad cells slots Qf ⟨hx, hb, hml, hown, hts, hK, hcs, hG0⟩ Rr hE L st u K h hk ls H locs hl hP hD hS
  unfold mx_ixor at h
  split at h
  · exact lv_ixor hx hb hdg (hk _ _ _ _ h ls H locs hl hP hD hS)
  · exact h.elim
def mx_ishl {σ : Type} (pc : Nat) : mx_TG σ := fun L st u K Rr => match st with
  | .inl y :: .inl x :: r => K (pc + 1) L (.inl (x <<< (y &&& 31)) :: r) u
  | _ => False
theorem mx_ok_ishl (hdg : decode cc pc = .ok (.ishl, 1)) : mx_OkG wd nc G l R cc nL own ret Ts cl pc (mx_ishl pc) := by
  intro p e s m args below meth c D cA ad cells slots Qf ⟨hx, hb, hml, hown, hts, hK, hcs, hG0⟩ Rr hE L st u K h hk ls H locs hl hP hD hS
  unfold mx_ishl at h
  split at h
  · exact lv_ishl hx hb hdg (hk _ _ _ _ h ls H locs hl hP hD hS)
  · exact h.elim
def mx_ishr {σ : Type} (pc : Nat) : mx_TG σ := fun L st u K Rr => match st with
  | .inl y :: .inl x :: r => K (pc + 1) L (.inl (x >>> (y &&& 31)) :: r) u
  | _ => False
theorem mx_ok_ishr (hdg : decode cc pc = .ok (.ishr, 1)) : mx_OkG wd nc G l R cc nL own ret Ts cl pc (mx_ishr pc) := by
  intro p e s m args below meth c D cA ad cells slots Qf ⟨hx, hb, hml, hown, hts, hK, hcs, hG0⟩ Rr hE L st u K h hk ls H locs hl hP hD hS
  unfold mx_ishr at h
  split at h
  · exact lv_ishr hx hb hdg (hk _ _ _ _ h ls H locs hl hP hD hS)
  · exact h.elim
def mx_iushr {σ : Type} (pc : Nat) : mx_TG σ := fun L st u K Rr => match st with
  | .inl y :: .inl x :: r => K (pc + 1) L (.inl ((x.toUInt32 >>> (y.toUInt32 &&& Int32.toUInt32 31)).toInt32) :: r) u
  | _ => False
theorem mx_ok_iushr (hdg : decode cc pc = .ok (.iushr, 1)) : mx_OkG wd nc G l R cc nL own ret Ts cl pc (mx_iushr pc) := by
  intro p e s m args below meth c D cA ad cells slots Qf ⟨hx, hb, hml, hown, hts, hK, hcs, hG0⟩ Rr hE L st u K h hk ls H locs hl hP hD hS
  unfold mx_iushr at h
  split at h
  · exact lv_iushr hx hb hdg rfl (hk _ _ _ _ h ls H locs hl hP hD hS)
  · exact h.elim
def mx_idiv {σ : Type} (pc : Nat) : mx_TG σ := fun L st u K Rr => match st with
  | .inl y :: .inl x :: r => ¬ y = 0 ∧ K (pc + 1) L (.inl (x / y) :: r) u
  | _ => False
theorem mx_ok_idiv (hdg : decode cc pc = .ok (.idiv, 1)) : mx_OkG wd nc G l R cc nL own ret Ts cl pc (mx_idiv pc) := by
  intro p e s m args below meth c D cA ad cells slots Qf ⟨hx, hb, hml, hown, hts, hK, hcs, hG0⟩ Rr hE L st u K h hk ls H locs hl hP hD hS
  unfold mx_idiv at h
  split at h
  · exact lv_idiv hx hb hdg h.1 (hk _ _ _ _ h.2 ls H locs hl hP hD hS)
  · exact h.elim
def mx_irem {σ : Type} (pc : Nat) : mx_TG σ := fun L st u K Rr => match st with
  | .inl y :: .inl x :: r => ¬ y = 0 ∧ K (pc + 1) L (.inl (x - x / y * y) :: r) u
  | _ => False
theorem mx_ok_irem (hdg : decode cc pc = .ok (.irem, 1)) : mx_OkG wd nc G l R cc nL own ret Ts cl pc (mx_irem pc) := by
  intro p e s m args below meth c D cA ad cells slots Qf ⟨hx, hb, hml, hown, hts, hK, hcs, hG0⟩ Rr hE L st u K h hk ls H locs hl hP hD hS
  unfold mx_irem at h
  split at h
  · exact lv_irem hx hb hdg h.1 (hk _ _ _ _ h.2 ls H locs hl hP hD hS)
  · exact h.elim
def mx_ladd {σ : Type} (pc : Nat) : mx_TG σ := fun L st u K Rr => match st with
  | .inr (.inl y) :: .inr (.inl x) :: r => K (pc + 1) L (.inr (.inl (x + y)) :: r) u
  | _ => False
theorem mx_ok_ladd (hdg : decode cc pc = .ok (.ladd, 1)) : mx_OkG wd nc G l R cc nL own ret Ts cl pc (mx_ladd pc) := by
  intro p e s m args below meth c D cA ad cells slots Qf ⟨hx, hb, hml, hown, hts, hK, hcs, hG0⟩ Rr hE L st u K h hk ls H locs hl hP hD hS
  unfold mx_ladd at h
  split at h
  · exact lv_ladd hx hb hdg (hk _ _ _ _ h ls H locs hl hP hD hS)
  · exact h.elim
def mx_lmul {σ : Type} (pc : Nat) : mx_TG σ := fun L st u K Rr => match st with
  | .inr (.inl y) :: .inr (.inl x) :: r => K (pc + 1) L (.inr (.inl (x * y)) :: r) u
  | _ => False
theorem mx_ok_lmul (hdg : decode cc pc = .ok (.lmul, 1)) : mx_OkG wd nc G l R cc nL own ret Ts cl pc (mx_lmul pc) := by
  intro p e s m args below meth c D cA ad cells slots Qf ⟨hx, hb, hml, hown, hts, hK, hcs, hG0⟩ Rr hE L st u K h hk ls H locs hl hP hD hS
  unfold mx_lmul at h
  split at h
  · exact lv_lmul hx hb hdg (hk _ _ _ _ h ls H locs hl hP hD hS)
  · exact h.elim
def mx_lcmp {σ : Type} (pc : Nat) : mx_TG σ := fun L st u K Rr => match st with
  | .inr (.inl y) :: .inr (.inl x) :: r => K (pc + 1) L (.inl (lg_cmp x y) :: r) u
  | _ => False
theorem mx_ok_lcmp (hdg : decode cc pc = .ok (.lcmp, 1)) : mx_OkG wd nc G l R cc nL own ret Ts cl pc (mx_lcmp pc) := by
  intro p e s m args below meth c D cA ad cells slots Qf ⟨hx, hb, hml, hown, hts, hK, hcs, hG0⟩ Rr hE L st u K h hk ls H locs hl hP hD hS
  unfold mx_lcmp at h
  split at h
  · exact W.lcmp hx hb hdg (hk _ _ _ _ h ls H locs hl hP hD hS)
  · exact h.elim
def mx_i2s {σ : Type} (pc : Nat) : mx_TG σ := fun L st u K Rr => match st with
  | .inl x :: r => K (pc + 1) L (.inl x.toInt16.toInt32 :: r) u
  | _ => False
theorem mx_ok_i2s (hdg : decode cc pc = .ok (.i2s, 1)) : mx_OkG wd nc G l R cc nL own ret Ts cl pc (mx_i2s pc) := by
  intro p e s m args below meth c D cA ad cells slots Qf ⟨hx, hb, hml, hown, hts, hK, hcs, hG0⟩ Rr hE L st u K h hk ls H locs hl hP hD hS
  unfold mx_i2s at h
  split at h
  · exact lv_i2s hx hb hdg rfl (hk _ _ _ _ h ls H locs hl hP hD hS)
  · exact h.elim
def mx_i2l {σ : Type} (pc : Nat) : mx_TG σ := fun L st u K Rr => match st with
  | .inl x :: r => K (pc + 1) L (.inr (.inl x.toInt64) :: r) u
  | _ => False
theorem mx_ok_i2l (hdg : decode cc pc = .ok (.i2l, 1)) : mx_OkG wd nc G l R cc nL own ret Ts cl pc (mx_i2l pc) := by
  intro p e s m args below meth c D cA ad cells slots Qf ⟨hx, hb, hml, hown, hts, hK, hcs, hG0⟩ Rr hE L st u K h hk ls H locs hl hP hD hS
  unfold mx_i2l at h
  split at h
  · exact lv_i2l hx hb hdg rfl (hk _ _ _ _ h ls H locs hl hP hD hS)
  · exact h.elim
def mx_l2i {σ : Type} (pc : Nat) : mx_TG σ := fun L st u K Rr => match st with
  | .inr (.inl x) :: r => K (pc + 1) L (.inl x.toInt32 :: r) u
  | _ => False
theorem mx_ok_l2i (hdg : decode cc pc = .ok (.l2i, 1)) : mx_OkG wd nc G l R cc nL own ret Ts cl pc (mx_l2i pc) := by
  intro p e s m args below meth c D cA ad cells slots Qf ⟨hx, hb, hml, hown, hts, hK, hcs, hG0⟩ Rr hE L st u K h hk ls H locs hl hP hD hS
  unfold mx_l2i at h
  split at h
  · exact lv_l2i hx hb hdg rfl (hk _ _ _ _ h ls H locs hl hP hD hS)
  · exact h.elim
def mx_dup {σ : Type} (pc : Nat) : mx_TG σ := fun L st u K Rr => match st with
  | .inl x :: r => K (pc + 1) L (.inl x :: .inl x :: r) u
  | .inr (.inr x) :: r => K (pc + 1) L (.inr (.inr x) :: .inr (.inr x) :: r) u
  | _ => False
theorem mx_ok_dup (hdg : decode cc pc = .ok (.dup, 1)) : mx_OkG wd nc G l R cc nL own ret Ts cl pc (mx_dup pc) := by
  intro p e s m args below meth c D cA ad cells slots Qf ⟨hx, hb, hml, hown, hts, hK, hcs, hG0⟩ Rr hE L st u K h hk ls H locs hl hP hD hS
  unfold mx_dup at h
  split at h
  · exact lv_dup hx hb hdg rfl (hk _ _ _ _ h ls H locs hl hP hD hS)
  · exact lv_dup hx hb hdg rfl (hk _ _ _ _ h ls H locs hl hP hD hS)
  · exact h.elim
def mx_dup2 {σ : Type} (pc : Nat) : mx_TG σ := fun L st u K Rr => match st with
  | .inl x :: .inr (.inr y) :: r => K (pc + 1) L (.inl x :: .inr (.inr y) :: .inl x :: .inr (.inr y) :: r) u
  | _ => False
theorem mx_ok_dup2 (hdg : decode cc pc = .ok (.dup2, 1)) : mx_OkG wd nc G l R cc nL own ret Ts cl pc (mx_dup2 pc) := by
  intro p e s m args below meth c D cA ad cells slots Qf ⟨hx, hb, hml, hown, hts, hK, hcs, hG0⟩ Rr hE L st u K h hk ls H locs hl hP hD hS
  unfold mx_dup2 at h
  split at h
  · exact lv_dup2_11 hx hb hdg rfl rfl (hk _ _ _ _ h ls H locs hl hP hD hS)
  · exact h.elim
def mx_pop {σ : Type} (pc : Nat) : mx_TG σ := fun L st u K Rr => match st with
  | .inl x :: r => K (pc + 1) L r u
  | _ => False
theorem mx_ok_pop (hdg : decode cc pc = .ok (.pop, 1)) : mx_OkG wd nc G l R cc nL own ret Ts cl pc (mx_pop pc) := by
  intro p e s m args below meth c D cA ad cells slots Qf ⟨hx, hb, hml, hown, hts, hK, hcs, hG0⟩ Rr hE L st u K h hk ls H locs hl hP hD hS
  unfold mx_pop at h
  split at h
  · exact lv_pop hx hb hdg rfl (hk _ _ _ _ h ls H locs hl hP hD hS)
  · exact h.elim
def mx_if_eq {σ : Type} (tgt : Nat) (pc : Nat) : mx_TG σ := fun L st u K Rr => match st with
  | .inl x :: r => (x = 0 → K tgt L r u) ∧ (¬ x = 0 → K (pc + 3) L r u)
  | _ => False
theorem mx_ok_if_eq {off : Int} {tgt : Nat} (hdg : decode cc pc = .ok (.ifCond .eq off, 3)) (ht : (pc : Int) + off = (tgt : Int)) : mx_OkG wd nc G l R cc nL own ret Ts cl pc (mx_if_eq tgt pc) := by
  intro p e s m args below meth c D cA ad cells slots Qf ⟨hx, hb, hml, hown, hts, hK, hcs, hG0⟩ Rr hE L st u K h hk ls H locs hl hP hD hS
  unfold mx_if_eq at h
  split at h
  · exact lv_if_eq hx hb hdg ht (fun q => hk _ _ _ _ (h.1 q) ls H locs hl hP hD hS) (fun q => hk _ _ _ _ (h.2 q) ls H locs hl hP hD hS)
  · exact h.elim
def mx_icmp_eq {σ : Type} (tgt : Nat) (pc : Nat) : mx_TG σ := fun L st u K Rr => match st with
  | .inl y :: .inl x :: r => (x = y → K tgt L r u) ∧ (¬ x = y → K (pc + 3) L r u)
  | _ => False
theorem mx_ok_icmp_eq {off : Int} {tgt : Nat} (hdg : decode cc pc = .ok (.if_icmp .eq off, 3)) (ht : (pc : Int) + off = (tgt : Int)) : mx_OkG wd nc G l R cc nL own ret Ts cl pc (mx_icmp_eq tgt pc) := by
  intro p e s m args below meth c D cA ad cells slots Qf ⟨hx, hb, hml, hown, hts, hK, hcs, hG0⟩ Rr hE L st u K h hk ls H locs hl hP hD hS
  unfold mx_icmp_eq at h
  split at h
  · exact lv_icmp_eq hx hb hdg ht (fun q => hk _ _ _ _ (h.1 q) ls H locs hl hP hD hS) (fun q => hk _ _ _ _ (h.2 q) ls H locs hl hP hD hS)
  · exact h.elim
def mx_if_ne {σ : Type} (tgt : Nat) (pc : Nat) : mx_TG σ := fun L st u K Rr => match st with
  | .inl x :: r => (¬ x = 0 → K tgt L r u) ∧ (x = 0 → K (pc + 3) L r u)
  | _ => False
theorem mx_ok_if_ne {off : Int} {tgt : Nat} (hdg : decode cc pc = .ok (.ifCond .ne off, 3)) (ht : (pc : Int) + off = (tgt : Int)) : mx_OkG wd nc G l R cc nL own ret Ts cl pc (mx_if_ne tgt pc) := by
  intro p e s m args below meth c D cA ad cells slots Qf ⟨hx, hb, hml, hown, hts, hK, hcs, hG0⟩ Rr hE L st u K h hk ls H locs hl hP hD hS
  unfold mx_if_ne at h
  split at h
  · exact lv_if_ne hx hb hdg ht (fun q => hk _ _ _ _ (h.1 q) ls H locs hl hP hD hS) (fun q => hk _ _ _ _ (h.2 q) ls H locs hl hP hD hS)
  · exact h.elim
def mx_icmp_ne {σ : Type} (tgt : Nat) (pc : Nat) : mx_TG σ := fun L st u K Rr => match st with
  | .inl y :: .inl x :: r => (¬ x = y → K tgt L r u) ∧ (x = y → K (pc + 3) L r u)
  | _ => False
theorem mx_ok_icmp_ne {off : Int} {tgt : Nat} (hdg : decode cc pc = .ok (.if_icmp .ne off, 3)) (ht : (pc : Int) + off = (tgt : Int)) : mx_OkG wd nc G l R cc nL own ret Ts cl pc (mx_icmp_ne tgt pc) := by
  intro p e s m args below meth c D cA ad cells slots Qf ⟨hx, hb, hml, hown, hts, hK, hcs, hG0⟩ Rr hE L st u K h hk ls H locs hl hP hD hS
  unfold mx_icmp_ne at h
  split at h
  · exact lv_icmp_ne hx hb hdg ht (fun q => hk _ _ _ _ (h.1 q) ls H locs hl hP hD hS) (fun q => hk _ _ _ _ (h.2 q) ls H locs hl hP hD hS)
  · exact h.elim
def mx_if_lt {σ : Type} (tgt : Nat) (pc : Nat) : mx_TG σ := fun L st u K Rr => match st with
  | .inl x :: r => (x < 0 → K tgt L r u) ∧ (¬ x < 0 → K (pc + 3) L r u)
  | _ => False
theorem mx_ok_if_lt {off : Int} {tgt : Nat} (hdg : decode cc pc = .ok (.ifCond .lt off, 3)) (ht : (pc : Int) + off = (tgt : Int)) : mx_OkG wd nc G l R cc nL own ret Ts cl pc (mx_if_lt tgt pc) := by
  intro p e s m args below meth c D cA ad cells slots Qf ⟨hx, hb, hml, hown, hts, hK, hcs, hG0⟩ Rr hE L st u K h hk ls H locs hl hP hD hS
  unfold mx_if_lt at h
  split at h
  · exact lv_if_lt hx hb hdg ht (fun q => hk _ _ _ _ (h.1 q) ls H locs hl hP hD hS) (fun q => hk _ _ _ _ (h.2 q) ls H locs hl hP hD hS)
  · exact h.elim
def mx_icmp_lt {σ : Type} (tgt : Nat) (pc : Nat) : mx_TG σ := fun L st u K Rr => match st with
  | .inl y :: .inl x :: r => (x < y → K tgt L r u) ∧ (¬ x < y → K (pc + 3) L r u)
  | _ => False
theorem mx_ok_icmp_lt {off : Int} {tgt : Nat} (hdg : decode cc pc = .ok (.if_icmp .lt off, 3)) (ht : (pc : Int) + off = (tgt : Int)) : mx_OkG wd nc G l R cc nL own ret Ts cl pc (mx_icmp_lt tgt pc) := by
  intro p e s m args below meth c D cA ad cells slots Qf ⟨hx, hb, hml, hown, hts, hK, hcs, hG0⟩ Rr hE L st u K h hk ls H locs hl hP hD hS
  unfold mx_icmp_lt at h
  split at h
  · exact lv_icmp_lt hx hb hdg ht (fun q => hk _ _ _ _ (h.1 q) ls H locs hl hP hD hS) (fun q => hk _ _ _ _ (h.2 q) ls H locs hl hP hD hS)
  · exact h.elim
def mx_if_ge {σ : Type} (tgt : Nat) (pc : Nat) : mx_TG σ := fun L st u K Rr => match st with
  | .inl x :: r => (0 ≤ x → K tgt L r u) ∧ (¬ 0 ≤ x → K (pc + 3) L r u)
  | _ => False
theorem mx_ok_if_ge {off : Int} {tgt : Nat} (hdg : decode cc pc = .ok (.ifCond .ge off, 3)) (ht : (pc : Int) + off = (tgt : Int)) : mx_OkG wd nc G l R cc nL own ret Ts cl pc (mx_if_ge tgt pc) := by
  intro p e s m args below meth c D cA ad cells slots Qf ⟨hx, hb, hml, hown, hts, hK, hcs, hG0⟩ Rr hE L st u K h hk ls H locs hl hP hD hS
  unfold mx_if_ge at h
  split at h
  · exact lv_if_ge hx hb hdg ht (fun q => hk _ _ _ _ (h.1 q) ls H locs hl hP hD hS) (fun q => hk _ _ _ _ (h.2 q) ls H locs hl hP hD hS)
  · exact h.elim
def mx_icmp_ge {σ : Type} (tgt : Nat) (pc : Nat) : mx_TG σ := fun L st u K Rr => match st with
  | .inl y :: .inl x :: r => (y ≤ x → K tgt L r u) ∧ (¬ y ≤ x → K (pc + 3) L r u)
  | _ => False
theorem mx_ok_icmp_ge {off : Int} {tgt : Nat} (hdg : decode cc pc = .ok (.if_icmp .ge off, 3)) (ht : (pc : Int) + off = (tgt : Int)) : mx_OkG wd nc G l R cc nL own ret Ts cl pc (mx_icmp_ge tgt pc) := by
  intro p e s m args below meth c D cA ad cells slots Qf ⟨hx, hb, hml, hown, hts, hK, hcs, hG0⟩ Rr hE L st u K h hk ls H locs hl hP hD hS
  unfold mx_icmp_ge at h
  split at h
  · exact lv_icmp_ge hx hb hdg ht (fun q => hk _ _ _ _ (h.1 q) ls H locs hl hP hD hS) (fun q => hk _ _ _ _ (h.2 q) ls H locs hl hP hD hS)
  · exact h.elim
def mx_if_gt {σ : Type} (tgt : Nat) (pc : Nat) : mx_TG σ := fun L st u K Rr => match st with
  | .inl x :: r => (0 < x → K tgt L r u) ∧ (¬ 0 < x → K (pc + 3) L r u)
  | _ => False
theorem mx_ok_if_gt {off : Int} {tgt : Nat} (hdg : decode cc pc = .ok (.ifCond .gt off, 3)) (ht : (pc : Int) + off = (tgt : Int)) : mx_OkG wd nc G l R cc nL own ret Ts cl pc (mx_if_gt tgt pc) := by
  intro p e s m args below meth c D cA ad cells slots Qf ⟨hx, hb, hml, hown, hts, hK, hcs, hG0⟩ Rr hE L st u K h hk ls H locs hl hP hD hS
  unfold mx_if_gt at h
  split at h
  · exact lv_if_gt hx hb hdg ht (fun q => hk _ _ _ _ (h.1 q) ls H locs hl hP hD hS) (fun q => hk _ _ _ _ (h.2 q) ls H locs hl hP hD hS)
  · exact h.elim
def mx_icmp_gt {σ : Type} (tgt : Nat) (pc : Nat) : mx_TG σ := fun L st u K Rr => match st with
  | .inl y :: .inl x :: r => (y < x → K tgt L r u) ∧ (¬ y < x → K (pc + 3) L r u)
  | _ => False
theorem mx_ok_icmp_gt {off : Int} {tgt : Nat} (hdg : decode cc pc = .ok (.if_icmp .gt off, 3)) (ht : (pc : Int) + off = (tgt : Int)) : mx_OkG wd nc G l R cc nL own ret Ts cl pc (mx_icmp_gt tgt pc) := by
  intro p e s m args below meth c D cA ad cells slots Qf ⟨hx, hb, hml, hown, hts, hK, hcs, hG0⟩ Rr hE L st u K h hk ls H locs hl hP hD hS
  unfold mx_icmp_gt at h
  split at h
  · exact lv_icmp_gt hx hb hdg ht (fun q => hk _ _ _ _ (h.1 q) ls H locs hl hP hD hS) (fun q => hk _ _ _ _ (h.2 q) ls H locs hl hP hD hS)
  · exact h.elim
def mx_if_le {σ : Type} (tgt : Nat) (pc : Nat) : mx_TG σ := fun L st u K Rr => match st with
  | .inl x :: r => (x ≤ 0 → K tgt L r u) ∧ (¬ x ≤ 0 → K (pc + 3) L r u)
  | _ => False
theorem mx_ok_if_le {off : Int} {tgt : Nat} (hdg : decode cc pc = .ok (.ifCond .le off, 3)) (ht : (pc : Int) + off = (tgt : Int)) : mx_OkG wd nc G l R cc nL own ret Ts cl pc (mx_if_le tgt pc) := by
  intro p e s m args below meth c D cA ad cells slots Qf ⟨hx, hb, hml, hown, hts, hK, hcs, hG0⟩ Rr hE L st u K h hk ls H locs hl hP hD hS
  unfold mx_if_le at h
  split at h
  · exact lv_if_le hx hb hdg ht (fun q => hk _ _ _ _ (h.1 q) ls H locs hl hP hD hS) (fun q => hk _ _ _ _ (h.2 q) ls H locs hl hP hD hS)
  · exact h.elim
def mx_icmp_le {σ : Type} (tgt : Nat) (pc : Nat) : mx_TG σ := fun L st u K Rr => match st with
  | .inl y :: .inl x :: r => (x ≤ y → K tgt L r u) ∧ (¬ x ≤ y → K (pc + 3) L r u)
  | _ => False
theorem mx_ok_icmp_le {off : Int} {tgt : Nat} (hdg : decode cc pc = .ok (.if_icmp .le off, 3)) (ht : (pc : Int) + off = (tgt : Int)) : mx_OkG wd nc G l R cc nL own ret Ts cl pc (mx_icmp_le tgt pc) := by
  intro p e s m args below meth c D cA ad cells slots Qf ⟨hx, hb, hml, hown, hts, hK, hcs, hG0⟩ Rr hE L st u K h hk ls H locs hl hP hD hS
  unfold mx_icmp_le at h
  split at h
  · exact lv_icmp_le hx hb hdg ht (fun q => hk _ _ _ _ (h.1 q) ls H locs hl hP hD hS) (fun q => hk _ _ _ _ (h.2 q) ls H locs hl hP hD hS)
  · exact h.elim
def mx_goto {σ : Type} (tgt : Nat) (pc : Nat) : mx_TG σ := fun L st u K Rr => K tgt L st u
theorem mx_ok_goto {off : Int} {tgt : Nat} (hdg : decode cc pc = .ok (.goto off, 3)) (ht : (pc : Int) + off = (tgt : Int)) : mx_OkG wd nc G l R cc nL own ret Ts cl pc (mx_goto tgt pc) := by
  intro p e s m args below meth c D cA ad cells slots Qf ⟨hx, hb, hml, hown, hts, hK, hcs, hG0⟩ Rr hE L st u K h hk ls H locs hl hP hD hS
  exact lv_goto hx hb hdg ht (hk _ _ _ _ h ls H locs hl hP hD hS)
def mx_swT (x : Int32) (K : Nat → Prop) (df : Nat) : List (Int32 × Nat) → Prop
  | [] => K df
  | q :: r => (x = q.1 → K q.2) ∧ (¬ x = q.1 → mx_swT x K df r)
theorem mx_sw_hit {x : Int32} {K : Nat → Prop} {df : Nat} : ∀ {l : List (Int32 × Nat)}, mx_swT x K df l → (∃ (i : Nat) (q : Int32 × Nat), l[i]? = some q ∧ x = q.1 ∧ K q.2) ∨ ((∀ q ∈ l, ¬ x = q.1) ∧ K df)
  | [], h => Or.inr ⟨fun q hq => (List.not_mem_nil hq).elim, h⟩
  | q :: r, h => by
    by_cases hq : x = q.1
    · exact Or.inl ⟨0, q, rfl, hq, h.1 hq⟩
    · rcases mx_sw_hit (h.2 hq) with ⟨i, q2, h1, h2, h3⟩ | ⟨h1, h2⟩
      · exact Or.inl ⟨i + 1, q2, by simpa using h1, h2, h3⟩
      · refine Or.inr ⟨fun q2 h3 => ?_, h2⟩
        rcases List.mem_cons.mp h3 with rfl | h4
        · exact hq
        · exact h1 q2 h4
def mx_tck (pc : Nat) (lo hi : Int) (offs : Array Int) (l : List (Int32 × Nat)) : Bool :=
  decide ((l.length : Int) = hi - lo + 1) && (List.range l.length).all (fun i => match l[i]?, offs[i]? with
    | some q, some o => decide (q.1.toInt = lo + i) && decide ((pc : Int) + o = (q.2 : Int))
    | _, _ => false)
theorem mx_tck_at {pc : Nat} {lo hi : Int} {offs : Array Int} {l : List (Int32 × Nat)} (h : mx_tck pc lo hi offs l = true) {i : Nat} {q : Int32 × Nat} (hq : l[i]? = some q) : q.1.toInt = lo + i ∧ ∃ o, offs[i]? = some o ∧ (pc : Int) + o = (q.2 : Int) := by
  unfold mx_tck at h
  rw [Bool.and_eq_true] at h
  have hl := (List.getElem?_eq_some_iff.mp hq).1
  have h1 := List.all_eq_true.mp h.2 i (List.mem_range.mpr hl)
  rw [hq] at h1
  cases ho : offs[i]? with
  | none => rw [ho] at h1; simp at h1
  | some o =>
    rw [ho] at h1
    simp only [Bool.and_eq_true, decide_eq_true_eq] at h1
    exact ⟨h1.1, o, rfl, h1.2⟩

def mx_tsw {σ : Type} (df : Nat) (l : List (Int32 × Nat)) (pc : Nat) : mx_TG σ := fun L st u K Rr => match st with
  | .inl x :: r => mx_swT x (fun t => K t L r u) df l
  | _ => False
theorem mx_ok_tsw {dflt lo hi : Int} {offs : Array Int} {len df : Nat} {l0 : List (Int32 × Nat)} (hdg : decode cc pc = .ok (.tableswitch dflt lo hi offs, len)) (hd : (pc : Int) + dflt = (df : Int)) (hc : mx_tck pc lo hi offs l0 = true) : mx_OkG wd nc G l R cc nL own ret Ts cl pc (mx_tsw df l0 pc) := by
  intro p e s m args below meth c D cA ad cells slots Qf ⟨hx, hb, hml, hown, hts, hK, hcs, hG0⟩ Rr hE L st u K h hk ls H locs hl hP hD hS
  unfold mx_tsw at h
  split at h
  · rename_i x r
    have hlen : ((l0.length : Nat) : Int) = hi - lo + 1 := by
      unfold mx_tck at hc
      rw [Bool.and_eq_true] at hc
      exact of_decide_eq_true hc.1
    rcases mx_sw_hit h with ⟨i, q, h1, h2, h3⟩ | ⟨h1, h2⟩
    · obtain ⟨e1, o, e2, e3⟩ := mx_tck_at hc h1
      have hl1 := (List.getElem?_eq_some_iff.mp h1).1
      have hxi : x.toInt = lo + i := by rw [h2]; exact e1
      exact lv_tableIn hx hb hdg (by omega) (by omega) (by rw [show (x.toInt - lo).toNat = i by omega]; exact e2) e3 (hk _ _ _ _ h3 ls H locs hl hP hD hS)
    · refine lv_tableOut hx hb hdg ?_ hd (hk _ _ _ _ h2 ls H locs hl hP hD hS)
      by_cases g1 : x.toInt < lo
      · exact Or.inl g1
      · by_cases g2 : hi < x.toInt
        · exact Or.inr g2
        · exfalso
          have hlt : (x.toInt - lo).toNat < l0.length := by omega
          have e0 := List.getElem?_eq_getElem hlt
          obtain ⟨e1, -⟩ := mx_tck_at hc e0
          exact h1 _ (List.getElem_mem hlt) (Int32.toInt_inj.mp (by rw [e1]; omega))
  · exact h.elim
def mx_lck (pc : Nat) : List (Int × Int) → List (Int32 × Nat) → Bool
  | [], [] => true
  | a :: r, q :: t => decide (q.1.toInt = a.1) && decide ((pc : Int) + a.2 = (q.2 : Int)) && mx_lck pc r t
  | _, _ => false
theorem mx_lsw {x : Int32} {K : Nat → Prop} {df pc : Nat} {dflt : Int} (hd : (pc : Int) + dflt = (df : Int)) : ∀ {ps : List (Int × Int)} {l : List (Int32 × Nat)}, mx_lck pc ps l = true → mx_swT x K df l → ∃ (tgt : Nat), (pc : Int) + Op.lookupswitch.offset ps dflt x.toInt = (tgt : Int) ∧ K tgt
  | [], [], _, h => ⟨df, hd, h⟩
  | a :: r, q :: t, hc, h => by
    simp only [mx_lck, Bool.and_eq_true, decide_eq_true_eq] at hc
    by_cases hq : x = q.1
    · refine ⟨q.2, ?_, h.1 hq⟩
      rw [hq, Op.lookupswitch.offset_cons, if_pos hc.1.1.symm]
      exact hc.1.2
    · obtain ⟨tgt, h1, h2⟩ := mx_lsw hd hc.2 (h.2 hq)
      refine ⟨tgt, ?_, h2⟩
      rw [lv_osw hq hc.1.1]
      exact h1
  | [], _ :: _, hc, _ => by simp [mx_lck] at hc
  | _ :: _, [], hc, _ => by simp [mx_lck] at hc

def mx_lsw0 {σ : Type} (df : Nat) (l : List (Int32 × Nat)) (pc : Nat) : mx_TG σ := fun L st u K Rr => match st with
  | .inl x :: r => mx_swT x (fun t => K t L r u) df l
  | _ => False
theorem mx_ok_lsw0 {dflt : Int} {ps : Array (Int × Int)} {len df : Nat} {l0 : List (Int32 × Nat)} (hdg : decode cc pc = .ok (.lookupswitch dflt ps, len)) (hs : (ps.toList.zip (ps.toList.drop 1)).all (fun (a, next) => a.1 < next.1) = true) (hd : (pc : Int) + dflt = (df : Int)) (hc : mx_lck pc ps.toList l0 = true) : mx_OkG wd nc G l R cc nL own ret Ts cl pc (mx_lsw0 df l0 pc) := by
  intro p e s m args below meth c D cA ad cells slots Qf ⟨hx, hb, hml, hown, hts, hK, hcs, hG0⟩ Rr hE L st u K h hk ls H locs hl hP hD hS
  unfold mx_lsw0 at h
  split at h
  · rename_i x r
    obtain ⟨tgt, h1, h2⟩ := mx_lsw hd hc h
    exact lv_lookup hx hb hdg hs rfl h1 (hk _ _ _ _ h2 ls H locs hl hP hD hS)
  · exact h.elim
def mx_slot (sk : mx_K) (k ci j : Nat) : Option (Option Nat) := match sk[k]? with
  | some (.inl q) => bif Nat.beq q.1 ci then q.2[j]? else none
  | _ => none
theorem mx_slot_at {sk : mx_K} {k ci j : Nat} {o : Option Nat} (h : mx_slot sk k ci j = some o) : ∃ fs : List (Option Nat), sk[k]? = some (.inl (ci, fs)) ∧ fs[j]? = some o := by
  unfold mx_slot at h
  split at h
  · rename_i q hq
    cases hb : Nat.beq q.1 ci with
    | true =>
      rw [hb] at h
      have e := Nat.eq_of_beq_eq_true hb
      obtain ⟨a, fs⟩ := q
      dsimp only at e
      subst e
      exact ⟨fs, hq, h⟩
    | false => rw [hb] at h; cases h
  · cases h
def mx_len (sk : mx_K) (k : Nat) : Option Nat := match sk[k]? with
  | some (.inr n) => some n
  | _ => none
theorem mx_len_at {sk : mx_K} {k n : Nat} (h : mx_len sk k = some n) : sk[k]? = some (.inr n) := by
  unfold mx_len at h
  split at h
  · rename_i q hq
    rw [hq, Option.some.inj h]
  · cases h
/-- what the tables say of a field: class ci of the list, place j, pool number -/
def mx_Fd (Ts : List Cond) (cl : List vw_C) (own : String) (ci j index : Nat) : Prop := ∃ (C : String) (T : u_T) (N : Nat), cl[ci]? = some (C, T, N) ∧ j < N ∧ (∀ w ∈ u_ws C T N, w ∈ Ts) ∧ Cond.fieldLink own index (T j).1 (T j).2.1 (T j).2.2.1 ∈ Ts
/-- and for a write of it: its type, not final, the class's names apart -/
def mx_Fw (cl : List vw_C) (ci j : Nat) (ty : FieldType) : Prop := ∃ (C : String) (T : u_T) (N : Nat) (ty0 : Nat → FieldType), cl[ci]? = some (C, T, N) ∧ (∀ k, k < N → parseFieldDescriptor (T k).2.2.1 = some (ty0 k)) ∧ (∀ a, a < N → ∀ b, b < N → a ≠ b → (T a).2.1 ≠ (T b).2.1) ∧ (T j).2.2.2 = false ∧ parseFieldDescriptor (T j).2.2.1 = some ty

def mx_getf (sk : mx_K) (ci j : Nat) (pc : Nat) : mx_T := fun L st u K Rr => match st with
  | .inr (.inr k) :: r => match mx_slot sk k ci j with
    | some (some k') => K (pc + 3) L (.inr (.inr k') :: r) u
    | some none => K (pc + 3) L (.inl (mx_gf u k j) :: r) u
    | none => False
  | _ => False
theorem mx_ok_getf {ci j index : Nat} (hF : mx_Fd Ts cl own ci j index) (hdg : decode cc pc = .ok (.getfield index, 3)) : mx_OkG (mx_wd sk) sk.length G l R cc nL own ret Ts cl pc (mx_getf sk ci j pc) := by
  intro p e s m args below meth c D cA ad cells slots Qf ⟨hx, hb, hml, hown, hts, hK, hcs, hG0⟩ Rr hE L st u K h hk ls H locs hl hP hD hS
  have hP : va_P D cl (mx_w ad cA u 0 sk) H := hP
  have hD : va_D (mx_A ad sk.length s.heap.size) (mx_w ad cA u 0 sk) := hD
  obtain ⟨C, T, N, hc, hj, hin, hln⟩ := hF
  unfold mx_getf at h
  split at h
  · rename_i k r
    split at h
    · rename_i k' hsl
      obtain ⟨fs, h1, h2⟩ := mx_slot_at hsl
      exact va_get hx hb hts hin hown hK hP k (mx_w_at ad cA u sk h1) hc j hj (hts _ hln) (fun _ h9 => h9) (mx_fs_ref ad _ fs 0 j k' h2) hdg (hk _ _ _ _ h ls H locs hl hP hD hS)
    · rename_i hsl
      obtain ⟨fs, h1, h2⟩ := mx_slot_at hsl
      exact va_get hx hb hts hin hown hK hP k (mx_w_at ad cA u sk h1) hc j hj (hts _ hln) (fun _ h9 => h9) (v := .int (mx_gf u k j)) ((mx_fs_int ad _ fs 0 j h2).trans (by rw [Nat.zero_add]; rfl)) hdg (hk _ _ _ _ h ls H locs hl hP hD hS)
    · exact h.elim
  · exact h.elim
def mx_putf (sk : mx_K) (ci j : Nat) (pc : Nat) : mx_T := fun L st u K Rr => match st with
  | .inl v :: .inr (.inr k) :: r => mx_slot sk k ci j = some none ∧ K (pc + 3) L r (mx_sf u k j v)
  | _ => False
theorem mx_ok_putf {ci j index : Nat} (hF : mx_Fd Ts cl own ci j index) (hw : mx_Fw cl ci j .int) (hdg : decode cc pc = .ok (.putfield index, 3)) : mx_OkG (mx_wd sk) sk.length G l R cc nL own ret Ts cl pc (mx_putf sk ci j pc) := by
  intro p e s m args below meth c D cA ad cells slots Qf ⟨hx, hb, hml, hown, hts, hK, hcs, hG0⟩ Rr hE L st u K h hk ls H locs hl hP hD hS
  have hP : va_P D cl (mx_w ad cA u 0 sk) H := hP
  have hD : va_D (mx_A ad sk.length s.heap.size) (mx_w ad cA u 0 sk) := hD
  obtain ⟨C, T, N, hc, hj, hin, hln⟩ := hF
  obtain ⟨C', T', N', ty0, hc', hty, hnm, hfin, hd⟩ := hw
  rw [hc] at hc'
  cases hc'
  unfold mx_putf at h
  split at h
  · rename_i v k r
    obtain ⟨fs, h1, h2⟩ := mx_slot_at h.1
    have hlj := (List.getElem?_eq_some_iff.mp h2).1
    refine va_put hx hb hts hin ty0 hty hnm hown hK hP hD hS k (mx_w_at ad cA u sk h1) hc j hj (hts _ hln) (fun _ h9 => h9) hfin (v := .int v) hd rfl rfl (by rw [mx_fs_len]; exact hlj) hdg (fun H1 locs1 hP1 hD1 hS1 => ?_)
    have e := mx_w_sf ad cA u sk v h1 h2
    exact hk _ _ _ _ h.2 ls H1 locs1 hl (show va_P D cl (mx_w ad cA (mx_sf u k j v) 0 sk) H1 by rw [← e]; exact hP1) (show va_D _ (mx_w ad cA (mx_sf u k j v) 0 sk) by rw [← e]; exact hD1) hS1
  · exact h.elim
def mx_putz (sk : mx_K) (ci j : Nat) (pc : Nat) : mx_T := fun L st u K Rr => match st with
  | .inl v :: .inr (.inr k) :: r => mx_slot sk k ci j = some none ∧ (v = 0 ∨ v = 1) ∧ K (pc + 3) L r (mx_sf u k j v)
  | _ => False
theorem mx_ok_putz {ci j index : Nat} (hF : mx_Fd Ts cl own ci j index) (hw : mx_Fw cl ci j .boolean) (hdg : decode cc pc = .ok (.putfield index, 3)) : mx_OkG (mx_wd sk) sk.length G l R cc nL own ret Ts cl pc (mx_putz sk ci j pc) := by
  intro p e s m args below meth c D cA ad cells slots Qf ⟨hx, hb, hml, hown, hts, hK, hcs, hG0⟩ Rr hE L st u K h hk ls H locs hl hP hD hS
  have hP : va_P D cl (mx_w ad cA u 0 sk) H := hP
  have hD : va_D (mx_A ad sk.length s.heap.size) (mx_w ad cA u 0 sk) := hD
  obtain ⟨C, T, N, hc, hj, hin, hln⟩ := hF
  obtain ⟨C', T', N', ty0, hc', hty, hnm, hfin, hd⟩ := hw
  rw [hc] at hc'
  cases hc'
  unfold mx_putz at h
  split at h
  · rename_i v k r
    obtain ⟨fs, h1, h2⟩ := mx_slot_at h.1
    have hlj := (List.getElem?_eq_some_iff.mp h2).1
    refine va_put hx hb hts hin ty0 hty hnm hown hK hP hD hS k (mx_w_at ad cA u sk h1) hc j hj (hts _ hln) (fun _ h9 => h9) hfin (v := .int v) hd (by rcases h.2.1 with e | e <;> rw [e] <;> rfl) (by rcases h.2.1 with e | e <;> rw [e] <;> rfl) (by rw [mx_fs_len]; exact hlj) hdg (fun H1 locs1 hP1 hD1 hS1 => ?_)
    have e := mx_w_sf ad cA u sk v h1 h2
    exact hk _ _ _ _ h.2.2 ls H1 locs1 hl (show va_P D cl (mx_w ad cA (mx_sf u k j v) 0 sk) H1 by rw [← e]; exact hP1) (show va_D _ (mx_w ad cA (mx_sf u k j v) 0 sk) by rw [← e]; exact hD1) hS1
  · exact h.elim
def mx_iald (sk : mx_K) (pc : Nat) : mx_T := fun L st u K Rr => match st with
  | .inl i :: .inr (.inr k) :: r => match mx_len sk k with
    | some n => vp_in i n ∧ K (pc + 1) L (.inl (mx_ga u k i.toNatClampNeg) :: r) u
    | none => False
  | _ => False
theorem mx_ok_iald (hdg : decode cc pc = .ok (.iaload, 1)) : mx_OkG (mx_wd sk) sk.length G l R cc nL own ret Ts cl pc (mx_iald sk pc) := by
  intro p e s m args below meth c D cA ad cells slots Qf ⟨hx, hb, hml, hown, hts, hK, hcs, hG0⟩ Rr hE L st u K h hk ls H locs hl hP hD hS
  have hP : va_P D cl (mx_w ad cA u 0 sk) H := hP
  have hD : va_D (mx_A ad sk.length s.heap.size) (mx_w ad cA u 0 sk) := hD
  unfold mx_iald at h
  split at h
  · rename_i i k r
    split at h
    · rename_i n hn
      exact va_iald hx hb hK hP k 0 (mx_w_at ad cA u sk (mx_len_at hn)) rfl h.1 hdg (hk _ _ _ _ h.2 ls H locs hl hP hD hS)
    · exact h.elim
  · exact h.elim
def mx_iast (sk : mx_K) (pc : Nat) : mx_T := fun L st u K Rr => match st with
  | .inl x :: .inl i :: .inr (.inr k) :: r => match mx_len sk k with
    | some n => vp_in i n ∧ K (pc + 1) L r (mx_sa u k i.toNatClampNeg x)
    | none => False
  | _ => False
theorem mx_ok_iast (hdg : decode cc pc = .ok (.iastore, 1)) : mx_OkG (mx_wd sk) sk.length G l R cc nL own ret Ts cl pc (mx_iast sk pc) := by
  intro p e s m args below meth c D cA ad cells slots Qf ⟨hx, hb, hml, hown, hts, hK, hcs, hG0⟩ Rr hE L st u K h hk ls H locs hl hP hD hS
  have hP : va_P D cl (mx_w ad cA u 0 sk) H := hP
  have hD : va_D (mx_A ad sk.length s.heap.size) (mx_w ad cA u 0 sk) := hD
  unfold mx_iast at h
  split at h
  · rename_i x i k r
    split at h
    · rename_i n hn
      refine va_iast hx hb hK hP hD hS k 0 (mx_w_at ad cA u sk (mx_len_at hn)) rfl h.1 hdg (fun H1 locs1 hP1 hD1 hS1 => ?_)
      have e := mx_w_sa ad cA u sk (i := i.toNatClampNeg) x (mx_len_at hn)
      exact hk _ _ _ _ h.2 ls H1 locs1 hl (show va_P D cl (mx_w ad cA (mx_sa u k i.toNatClampNeg x) 0 sk) H1 by rw [← e]; exact hP1) (show va_D _ (mx_w ad cA (mx_sa u k i.toNatClampNeg x) 0 sk) by rw [← e]; exact hD1) hS1
    · exact h.elim
  · exact h.elim
def mx_alen (sk : mx_K) (pc : Nat) : mx_T := fun L st u K Rr => match st with
  | .inr (.inr k) :: r => match mx_len sk k with
    | some n => K (pc + 1) L (.inl (nI n) :: r) u
    | none => False
  | _ => False
theorem mx_ok_alen (hdg : decode cc pc = .ok (.arraylength, 1)) : mx_OkG (mx_wd sk) sk.length G l R cc nL own ret Ts cl pc (mx_alen sk pc) := by
  intro p e s m args below meth c D cA ad cells slots Qf ⟨hx, hb, hml, hown, hts, hK, hcs, hG0⟩ Rr hE L st u K h hk ls H locs hl hP hD hS
  have hP : va_P D cl (mx_w ad cA u 0 sk) H := hP
  have hD : va_D (mx_A ad sk.length s.heap.size) (mx_w ad cA u 0 sk) := hD
  unfold mx_alen at h
  split at h
  · rename_i k r
    split at h
    · rename_i n hn
      exact va_alen hx hb hK hP k 0 (mx_w_at ad cA u sk (mx_len_at hn)) rfl rfl hdg (hk _ _ _ _ h ls H locs hl hP hD hS)
    · exact h.elim
  · exact h.elim
def mx_iret {σ : Type} (pc : Nat) : mx_TG σ := fun L st u K Rr => match st with
  | [.inl v] => Rr (some (.inl v)) u
  | _ => False
theorem mx_ok_iret (hdg : decode cc pc = .ok (.ireturn, 1)) (hrt : ret = some .int) : mx_OkG wd nc G l R cc nL own ret Ts cl pc (mx_iret pc) := by
  intro p e s m args below meth c D cA ad cells slots Qf ⟨hx, hb, hml, hown, hts, hK, hcs, hG0⟩ Rr hE L st u K h hk ls H locs hl hP hD hS
  unfold mx_iret at h
  split at h
  · rename_i v
    exact hE pc (some (.inl v)) u ls H locs (Or.inl ⟨hdg, v, rfl, Or.inl hrt⟩) h hP hS
  · exact h.elim
def mx_zret {σ : Type} (pc : Nat) : mx_TG σ := fun L st u K Rr => match st with
  | [.inl v] => (v = 0 ∨ v = 1) ∧ Rr (some (.inl v)) u
  | _ => False
theorem mx_ok_zret (hdg : decode cc pc = .ok (.ireturn, 1)) (hrt : ret = some .boolean) : mx_OkG wd nc G l R cc nL own ret Ts cl pc (mx_zret pc) := by
  intro p e s m args below meth c D cA ad cells slots Qf ⟨hx, hb, hml, hown, hts, hK, hcs, hG0⟩ Rr hE L st u K h hk ls H locs hl hP hD hS
  unfold mx_zret at h
  split at h
  · rename_i v
    exact hE pc (some (.inl v)) u ls H locs (Or.inl ⟨hdg, v, rfl, Or.inr ⟨hrt, h.1⟩⟩) h.2 hP hS
  · exact h.elim
def mx_vret {σ : Type} (pc : Nat) : mx_TG σ := fun L st u K Rr => match st with
  | [] => Rr none u
  | _ => False
theorem mx_ok_vret (hdg : decode cc pc = .ok (.return_, 1)) (hrt : ret = none) : mx_OkG wd nc G l R cc nL own ret Ts cl pc (mx_vret pc) := by
  intro p e s m args below meth c D cA ad cells slots Qf ⟨hx, hb, hml, hown, hts, hK, hcs, hG0⟩ Rr hE L st u K h hk ls H locs hl hP hD hS
  unfold mx_vret at h
  split at h
  · exact hE pc none u ls H locs (Or.inr ⟨hdg, rfl, hrt⟩) h hP hS
  · exact h.elim
def mx_mmax {σ : Type} (pc : Nat) : mx_TG σ := fun L st u K Rr => match st with
  | .inl y :: .inl x :: r => decide ((r.map mx_cat).sum ≤ 8) = true ∧ K (pc + 3) L (.inl (if x < y then y else x) :: r) u
  | _ => False
theorem mx_ok_mmax {index : Nat} (hln : Cond.methodLink own index Lib.Math.max.name ∈ Ts) (hst : Cond.static Lib.Math.max.name ∈ Ts) (hin : Cond.initialized "java/lang/Math" ∈ Ts) (hcd : Cond.code Lib.Math.max.name Lib.Math.max.code 2 (some .int) ∈ Ts) (hRf : 1 ≤ R.frames) (hRl : 21 ≤ R.locals) (hdg : decode cc pc = .ok (.invokestatic index, 3)) : mx_OkG wd nc G l R cc nL own ret Ts cl pc (mx_mmax pc) := by
  intro p e s m args below meth c D cA ad cells slots Qf ⟨hx, hb, hml, hown, hts, hK, hcs, hG0⟩ Rr hE L st u K h hk ls H locs hl hP hD hS
  unfold mx_mmax at h
  split at h
  · rename_i y x r
    have h8 : (r.map mx_cat).sum ≤ 8 := of_decide_eq_true h.1
    have h9 : ((r.map (mx_c ad)).map fun v => v.category).sum ≤ 8 := by
      rw [List.map_map]
      rw [show ((fun v : Value => v.category) ∘ mx_c ad) = mx_cat from funext (mx_cat_eq ad)]
      exact h8
    exact va_mmax hx hb (hml.trans hl.1.symm) hown (hts _ hln) (hts _ hst) (hts _ hin) (hts _ hcd) hRf (by omega) hcs.1 hcs.2 hdg (hk _ _ _ _ h.2 ls H locs hl hP hD hS)
  · exact h.elim
def mx_mmin {σ : Type} (pc : Nat) : mx_TG σ := fun L st u K Rr => match st with
  | .inl y :: .inl x :: r => decide ((r.map mx_cat).sum ≤ 8) = true ∧ K (pc + 3) L (.inl (if y < x then y else x) :: r) u
  | _ => False
theorem mx_ok_mmin {index : Nat} (hln : Cond.methodLink own index Lib.Math.min.name ∈ Ts) (hst : Cond.static Lib.Math.min.name ∈ Ts) (hin : Cond.initialized "java/lang/Math" ∈ Ts) (hcd : Cond.code Lib.Math.min.name Lib.Math.min.code 2 (some .int) ∈ Ts) (hRf : 1 ≤ R.frames) (hRl : 21 ≤ R.locals) (hdg : decode cc pc = .ok (.invokestatic index, 3)) : mx_OkG wd nc G l R cc nL own ret Ts cl pc (mx_mmin pc) := by
  intro p e s m args below meth c D cA ad cells slots Qf ⟨hx, hb, hml, hown, hts, hK, hcs, hG0⟩ Rr hE L st u K h hk ls H locs hl hP hD hS
  unfold mx_mmin at h
  split at h
  · rename_i y x r
    have h8 : (r.map mx_cat).sum ≤ 8 := of_decide_eq_true h.1
    have h9 : ((r.map (mx_c ad)).map fun v => v.category).sum ≤ 8 := by
      rw [List.map_map]
      rw [show ((fun v : Value => v.category) ∘ mx_c ad) = mx_cat from funext (mx_cat_eq ad)]
      exact h8
    exact va_mmin hx hb (hml.trans hl.1.symm) hown (hts _ hln) (hts _ hst) (hts _ hin) (hts _ hcd) hRf (by omega) hcs.1 hcs.2 hdg (hk _ _ _ _ h.2 ls H locs hl hP hD hS)
  · exact h.elim
end MXO
/-- a method's contract: where pre holds of its arguments and the world, it answers fn, and leaves fn's world -/
def mx_Qc (cl : List vw_C) (sk : mx_K) (D : va_G) (cA : ClassId) (ad : Nat → Nat) (sz : Nat) (z : Option mx_V × mx_S) : Array Value → State → Outcome → State → Prop := fun _ st oc t =>
  (oc = .returned (z.1.map (mx_c ad)) ∧ va_P D cl (mx_w ad cA z.2 0 sk) t.heap) ∧ va_F (mx_A ad sk.length sz) st t
def mx_Pc (cl : List vw_C) (sk : mx_K) (D : va_G) (cA : ClassId) (ad : Nat → Nat) (sz : Nat) (as : List mx_V) (u : mx_S) : Array Value → State → Prop :=
  va_Pc (as.map (mx_c ad)) (fun U => U.heap.size = sz ∧ va_P D cl (mx_w ad cA u 0 sk) U.heap ∧ va_K D cl [(cA, .int)] U ∧ va_D (mx_A ad sk.length sz) (mx_w ad cA u 0 sk))
def mx_Ct (l : Launch) (Ts : List Cond) (cl : List vw_C) (sk : mx_K) (rm : Room) (y : MethodName) (bytes : ByteArray) (maxL : Nat) (rt : Option FieldType) (pre : List mx_V → mx_S → Prop) (fn : mx_F) : Prop :=
  ∀ (D : va_G) (cA : ClassId) (ad : Nat → Nat) (sz : Nat) (as : List mx_V) (u : mx_S), pre as u → Met l y (Cond.code y bytes maxL rt :: Ts) rm (mx_Pc cl sk D cA ad sz as u) (mx_Qc cl sk D cA ad sz (fn as u)) 0 0 (mx_A ad sk.length sz)
def mx_fit (n : Nat) (st : List mx_V) : Bool := Nat.ble n st.length && Nat.ble ((st.drop n).map mx_cat).sum 8
theorem mx_fit_len {n : Nat} {st : List mx_V} (h : mx_fit n st = true) : n ≤ st.length := by
  unfold mx_fit at h
  rw [Bool.and_eq_true] at h
  exact Nat.le_of_ble_eq_true h.1
theorem mx_fit_room {n : Nat} {st : List mx_V} (ad : Nat → Nat) (h : mx_fit n st = true) : (((st.drop n).map (mx_c ad)).map fun v => v.category).sum ≤ 8 := by
  unfold mx_fit at h
  rw [Bool.and_eq_true] at h
  rw [List.map_map]
  rw [show ((fun v : Value => v.category) ∘ mx_c ad) = mx_cat from funext (mx_cat_eq ad)]
  exact Nat.le_of_ble_eq_true h.2
theorem mx_blind (cl : List vw_C) (sk : mx_K) (D : va_G) (cA : ClassId) (ad : Nat → Nat) (sz : Nat) (as : List mx_V) (u : mx_S) : FrameBlind (mx_Pc cl sk D cA ad sz as u) := by
  intro a U g mk q
  obtain ⟨q0, q1, qP, qK, qD⟩ := q
  exact ⟨q0, q1, qP, va_K.moved (u := U) (U := U.calling g mk a) (Vm.Alike.refl U.vm) qK, qD⟩
def mx_invS (n : Nat) (pre : List mx_V → mx_S → Prop) (fn : mx_F) (pc : Nat) : mx_T := fun L st u K _ =>
  mx_fit n st = true ∧ pre (st.take n).reverse u ∧ K (pc + 3) L ((fn (st.take n).reverse u).1.toList ++ st.drop n) (fn (st.take n).reverse u).2
def mx_isO (sk : mx_K) (ci : Nat) (v : Option mx_V) : Bool := match v with
  | some (.inr (.inr k)) => match sk[k]? with
    | some (.inl q) => Nat.beq q.1 ci
    | _ => false
  | _ => false
theorem mx_isO_at {sk : mx_K} {ci : Nat} {v : Option mx_V} (h : mx_isO sk ci v = true) : ∃ (k : Nat) (fs : List (Option Nat)), v = some (.inr (.inr k)) ∧ sk[k]? = some (.inl (ci, fs)) := by
  unfold mx_isO at h
  split at h
  · rename_i k
    split at h
    · rename_i q hq
      have e := Nat.eq_of_beq_eq_true h
      obtain ⟨a, fs⟩ := q
      dsimp only at e
      subst e
      exact ⟨k, fs, rfl, hq⟩
    · cases h
  · cases h
def mx_invV (sk : mx_K) (ci n : Nat) (pre : List mx_V → mx_S → Prop) (fn : mx_F) (pc : Nat) : mx_T := fun L st u K _ =>
  (mx_fit (n + 1) st && mx_isO sk ci (st.take (n + 1)).reverse.head?) = true ∧ pre (st.take (n + 1)).reverse u ∧ K (pc + 3) L ((fn (st.take (n + 1)).reverse u).1.toList ++ st.drop (n + 1)) (fn (st.take (n + 1)).reverse u).2
/-- what the tables say of a call: link, code, the class is initialized, the names, the number of parameters, the room -/
def mx_Cl (Ts : List Cond) (own : String) (index : Nat) (R rm : Room) (y : MethodName) (bytes : ByteArray) (maxL : Nat) (rt : Option FieldType) (n : Nat) : Prop :=
  Cond.methodLink own index y ∈ Ts ∧ Cond.code y bytes maxL rt ∈ Ts ∧ Cond.initialized y.cls ∈ Ts ∧ (y.cls ≠ "java/lang/invoke/MethodHandle" ∧ y.cls ≠ "java/lang/invoke/VarHandle" ∧ (parseMethodDescriptor y.desc).map (fun d => d.parameters.length) = some n) ∧ (rm.frames + 1 ≤ R.frames ∧ 8 + (maxL + 11) + rm.locals ≤ R.locals) ∧ rm.cells = 0 ∧ rm.slots = 0
theorem mx_good {Ts : List Cond} (hG : GoodIn Ts Ts) {y : MethodName} {bytes : ByteArray} {maxL : Nat} {rt : Option FieldType} (h : Cond.code y bytes maxL rt ∈ Ts) : GoodIn Ts (Cond.code y bytes maxL rt :: Ts) := by
  intro w hw
  rcases List.mem_cons.mp hw with rfl | h1
  · exact hG _ h
  · exact hG _ h1
section MXC
variable {l : Launch} {R rm : Room} {cc bytes : ByteArray} {nL maxL n index : Nat} {own : String} {ret rt : Option FieldType} {Ts : List Cond} {cl : List vw_C} {sk : mx_K} {pc : Nat} {y : MethodName} {pre : List mx_V → mx_S → Prop} {fn : mx_F}
/-- behind a call: the callee's world, the frame -/
theorem mx_behind {p : Program} {e : Env} {s : State} {m : MethodId} {args : Array Value} {below : List Frame} {meth : Method} {c : Code} {D : va_G} {cA : ClassId} {ad : Nat → Nat} {cells slots : Nat} {Qf : State → Prop} {ls : Array Slot} {H : Heap} {locs : List Loc} {L : List (Nat × mx_V)} {st rest : List mx_V} {u : mx_S} {z : Option mx_V × mx_S} {a : Array Value}
    (hl : lv_has ls nL (L.map (mx_lc ad))) (hD : va_D (mx_A ad sk.length s.heap.size) (mx_w ad cA u 0 sk)) (hS : va_S (mx_A ad sk.length s.heap.size) s.heap H locs)
    (hr : va_Run p l e R s m args below meth c H locs cells slots 0 0 (F0 m pc ls (st.map (mx_c ad))) (rest.map (mx_c ad)) (mx_Qc cl sk D cA ad H.size z a) (mx_A ad sk.length H.size))
    (hk : mx_AtG (mx_wd sk) sk.length l R cells slots nL cl p e s m args below meth c D cA ad Qf (pc + 3) L (z.1.toList ++ rest) z.2) : W p l e R s m args below meth c H locs cells slots Qf (F0 m pc ls (st.map (mx_c ad))) := by
  intro T hT X
  obtain ⟨v, st₀, t, T', L', h0, X', hL, e1, e2, ⟨⟨hv, hP1⟩, hz, hkk⟩, go⟩ := hr T hT X
  rw [h0] at hz hkk
  have hv : v = z.1.map (mx_c ad) := by
    injection hv
  have hA : ∀ q, mx_A ad sk.length H.size q → mx_A ad sk.length s.heap.size q := by
    intro q hq
    rcases hq with h | h
    · exact Or.inl h
    · exact Or.inr (Nat.le_trans hS.1 h)
  have hS' : va_S (mx_A ad sk.length s.heap.size) s.heap T'.heap (locs ++ L') := by
    refine ⟨Nat.le_trans hS.1 (by rw [e1]; exact hz), fun q h1 h2 => ?_, fun q hq => ?_⟩
    · rw [e1, hkk q (Nat.lt_of_lt_of_le h1 hS.1) (fun z => h2 (hA q z))]
      exact hS.2.1 q h1 h2
    · rcases List.mem_append.mp hq with h | h
      · exact hS.2.2 q h
      · exact hA _ (hL q h)
  have hst : v.toList ++ rest.map (mx_c ad) = (z.1.toList ++ rest).map (mx_c ad) := by
    rw [hv, List.map_append]
    cases z.1 <;> rfl
  obtain ⟨t2, a1, b1⟩ := hk ls T'.heap (locs ++ L') hl (by rw [e1]; exact hP1) (mx_D _ hD) hS' T' rfl X'
  refine ⟨t2, go t2 ?_, b1⟩
  show Steps _ _ _ (T'.setTop (F0 m (pc + 3) ls (v.toList ++ rest.map (mx_c ad)))) _
  rw [hst]
  exact a1
theorem mx_ok_invS (hG : GoodIn Ts Ts) (hct : mx_Ct l Ts cl sk rm y bytes maxL rt pre fn) (hC : mx_Cl Ts own index R rm y bytes maxL rt n) (hst : Cond.static y ∈ Ts) (hdg : decode cc pc = .ok (.invokestatic index, 3)) : mx_Ok l R cc nL own ret Ts cl sk pc (mx_invS n pre fn pc) := by
  intro p e s m args below meth c D cA ad cells slots Qf ⟨hx, hb, hml, hown, hts, hK, hcs, hG0⟩ Rr hE L st u K h hk ls H locs hl hP hD hS
  have hP : va_P D cl (mx_w ad cA u 0 sk) H := hP
  have hD : va_D (mx_A ad sk.length s.heap.size) (mx_w ad cA u 0 sk) := hD
  obtain ⟨c1, c2, c3, c4, c5, c6, c7⟩ := hC
  obtain ⟨h1, h2, h3⟩ := h
  have hlen : (st.take n).length = n := by rw [List.length_take]; exact Nat.min_eq_left (mx_fit_len h1)
  refine mx_behind (nL := nL) (cl := cl) (sk := sk) (D := D) (cA := cA) (L := L) (rest := st.drop n) (a := ((st.take n).reverse.map (mx_c ad)).toArray) hl hD hS ?_ (hk _ _ _ _ h3)
  exact va_runS (As := (st.take n).reverse.map (mx_c ad)) (rest := (st.drop n).map (mx_c ad)) ⟨hx, hb, hml, hown, hts⟩ (hct D cA ad H.size _ u h2) ⟨callB_of n hts (mx_good hG c2) rfl c6 c7 (hts _ c3) (hts _ c1) c4 c5, hts _ hst⟩
    ⟨mx_blind cl sk D cA ad H.size _ u, fun U hU hW => ⟨rfl, by rw [hU], by rw [hU]; exact hP, va_K.moved hW.alike hK, mx_Dz _ hD⟩⟩ rfl (by rw [List.length_map, List.length_reverse, hlen]) hl.1
    (by show st.map (mx_c ad) = _; rw [← List.map_reverse, List.reverse_reverse, ← List.map_append, List.take_append_drop]) (lv_room (mx_fit_room ad h1)) hdg hcs
theorem mx_ok_invV {C : String} {T : u_T} {N ci : Nat} (hG : GoodIn Ts Ts) (hct : mx_Ct l Ts cl sk rm y bytes maxL rt pre fn) (hC : mx_Cl Ts own index R rm y bytes maxL rt n) (hin : Cond.instanceMethod y ∈ Ts) (hse : Cond.selects C y y ∈ Ts) (hcl : cl[ci]? = some (C, T, N)) (hdg : decode cc pc = .ok (.invokevirtual index, 3)) : mx_Ok l R cc nL own ret Ts cl sk pc (mx_invV sk ci n pre fn pc) := by
  intro p e s m args below meth c D cA ad cells slots Qf ⟨hx, hb, hml, hown, hts, hK, hcs, hG0⟩ Rr hE L st u K h hk ls H locs hl hP hD hS
  have hP : va_P D cl (mx_w ad cA u 0 sk) H := hP
  have hD : va_D (mx_A ad sk.length s.heap.size) (mx_w ad cA u 0 sk) := hD
  obtain ⟨c1, c2, c3, c4, c5, c6, c7⟩ := hC
  obtain ⟨h1, h2, h3⟩ := h
  rw [Bool.and_eq_true] at h1
  have hlen : (st.take (n + 1)).length = n + 1 := by rw [List.length_take]; exact Nat.min_eq_left (mx_fit_len h1.1)
  obtain ⟨k, fs, e1, e2⟩ := mx_isO_at h1.2
  obtain ⟨as, has⟩ : ∃ as, (st.take (n + 1)).reverse = .inr (.inr k) :: as := by
    cases hq : (st.take (n + 1)).reverse with
    | nil => rw [hq] at e1; cases e1
    | cons a b =>
      rw [hq] at e1
      cases e1
      exact ⟨b, rfl⟩
  have hal : as.length = n := by
    have := congrArg List.length has
    rw [List.length_reverse, hlen] at this
    simp at this
    omega
  refine mx_behind (nL := nL) (cl := cl) (sk := sk) (D := D) (cA := cA) (L := L) (rest := st.drop (n + 1)) (a := (Value.ref (ad k) :: as.map (mx_c ad)).toArray) hl hD hS ?_ (hk _ _ _ _ h3)
  have hct' := hct D cA ad H.size _ u h2
  rw [has] at hct' ⊢
  exact va_runV (C := C) (b := ad k) (As := as.map (mx_c ad)) (rest := (st.drop (n + 1)).map (mx_c ad)) ⟨hx, hb, hml, hown, hts⟩ hct' ⟨callB_of n hts (mx_good hG c2) rfl c6 c7 (hts _ c3) (hts _ c1) c4 c5, hts _ hin, hts _ hse⟩
    ⟨mx_blind cl sk D cA ad H.size _ u, va_recv hK hP hcl (mx_w_at ad cA u sk e2), fun U hU hW => ⟨rfl, by rw [hU], by rw [hU]; exact hP, va_K.moved hW.alike hK, mx_Dz _ hD⟩⟩ rfl (by rw [List.length_map, hal]) hl.1
    (by
      show st.map (mx_c ad) = _
      have e3 : st.take (n + 1) = as.reverse ++ [.inr (.inr k)] := by
        have := congrArg List.reverse has
        rw [List.reverse_reverse, List.reverse_cons] at this
        exact this
      have e4 : st = as.reverse ++ .inr (.inr k) :: st.drop (n + 1) := by
        calc st = st.take (n + 1) ++ st.drop (n + 1) := (List.take_append_drop _ _).symm
          _ = _ := by rw [e3]; simp
      calc st.map (mx_c ad) = (as.reverse ++ .inr (.inr k) :: st.drop (n + 1)).map (mx_c ad) := by rw [← e4]
        _ = _ := by simp [mx_c]) (lv_room (mx_fit_room ad h1.1)) hdg hcs
end MXC
/-- the program of a method: its places and transformers -/
def mx_find {σ : Type} : List (Nat × mx_TG σ) → Nat → Option (mx_TG σ)
  | [], _ => none
  | q :: r, pc => bif Nat.beq q.1 pc then some q.2 else mx_find r pc
theorem mx_find_mem {σ : Type} : ∀ {tb : List (Nat × mx_TG σ)} {pc : Nat} {T : mx_TG σ}, mx_find tb pc = some T → (pc, T) ∈ tb
  | [], _, _, h => by simp [mx_find] at h
  | q :: r, pc, T, h => by
    unfold mx_find at h
    cases hq : Nat.beq q.1 pc with
    | true =>
      rw [hq] at h
      have e := Nat.eq_of_beq_eq_true hq
      have e2 : q.2 = T := Option.some.inj h
      subst e
      subst e2
      exact List.mem_cons_self
    | false =>
      rw [hq] at h
      exact List.mem_cons_of_mem _ (mx_find_mem h)
def mx_in : List Nat → Nat → Bool
  | [], _ => false
  | a :: r, x => bif Nat.beq a x then true else mx_in r x
/-- n steps, or up to one of the places 'cut' -/
def mx_sg {σ : Type} (tb : List (Nat × mx_TG σ)) (Rr : mx_RG σ) (cut : List Nat) (E : mx_PG σ) : Nat → mx_PG σ
  | 0 => E
  | n + 1 => fun pc L st u => match mx_find tb pc with
    | some T => T L st u (fun pc' L' st' u' => bif mx_in cut pc' then E pc' L' st' u' else mx_sg tb Rr cut E n pc' L' st' u') Rr
    | none => False
/-- what is to be shown of a method: every predicate that stretches of it keep holds -/
def mx_VC {σ : Type} (tb : List (Nat × mx_TG σ)) (Rr : mx_RG σ) : mx_PG σ := fun pc L st u => ∀ At : mx_PG σ, (∀ (n : Nat) (cut : List Nat) (pc : Nat) (L : List (Nat × mx_V)) (st : List mx_V) (u : σ), mx_sg tb Rr cut At n pc L st u → At pc L st u) → (∀ (ks : List Nat) (pc : Nat) (L : List (Nat × mx_V)) (st : List mx_V) (u : σ), At pc (ks.filterMap (fun k => L[k]?)) st u → At pc L st u) → At pc L st u
theorem mx_abs {a b c : Prop} (ha : a) (hb : b) (h : (a → ¬ b) := by first | exact fun x y => absurd x y | exact fun x y => absurd y x) : c := absurd hb (h ha)
theorem mx_in0 {n : Nat} (h : 0 < n) : vp_in 0 n := by
  intro q
  rcases q with q | q
  · exact absurd q (by decide)
  · rw [sb_cl0] at q
    omega
def mx_rI (u : mx_S) (z : Int32) : Option mx_V × mx_S := (some (.inl z), u)
def mx_rB (z : Int32 × mx_S) : Option mx_V × mx_S := (some (.inl z.1), z.2)
def mx_L0 : Nat → List mx_V → List (Nat × mx_V)
  | _, [] => []
  | i, v :: r => (i, v) :: mx_L0 (i + mx_cat v) r
theorem mx_L0_eq (ad : Nat → Nat) : ∀ (as : List mx_V) (i : Nat), lv_args i (as.map (mx_c ad)) = (mx_L0 i as).map (mx_lc ad)
  | [], _ => rfl
  | v :: r, i => by
    show (i, mx_c ad v) :: lv_args (if (mx_c ad v).category = 2 then i + 2 else i + 1) (r.map (mx_c ad)) = (i, mx_c ad v) :: (mx_L0 (i + mx_cat v) r).map (mx_lc ad)
    rw [show (if (mx_c ad v).category = 2 then i + 2 else i + 1) = i + mx_cat v by rcases v with x | y | k <;> rfl, mx_L0_eq ad r]
def mx_wid (as : List mx_V) : Nat := (as.map mx_cat).sum
theorem mx_sl_len (ad : Nat → Nat) : ∀ as : List mx_V, (lg_sl (as.map (mx_c ad))).length = mx_wid as
  | [] => rfl
  | v :: r => by
    have h := mx_sl_len ad r
    unfold lg_sl at h ⊢
    unfold mx_wid at h ⊢
    rw [List.map_cons, List.flatMap_cons, List.length_append, h, List.map_cons, List.sum_cons]
    rcases v with x | y | k <;> rfl
/-- stretches of a program whose instructions keep to their transformers -/
theorem mx_run {σ : Type} {wd : mx_WG σ} {nc : Nat} {G : State → (Nat → Nat) → Prop} {l : Launch} {R : Room} {cc : ByteArray} {nL : Nat} {own : String} {ret : Option FieldType} {Ts : List Cond} {cl : List vw_C} {p : Program} {e : Env} {s : State} {m : MethodId} {args : Array Value} {below : List Frame} {meth : Method} {c : Code} {D : va_G} {cA : ClassId} {ad : Nat → Nat} {cells slots : Nat} {Qf : State → Prop} {Rr : mx_RG σ} {tb : List (Nat × mx_TG σ)}
    (hOk : ∀ q ∈ tb, mx_OkG wd nc G l R cc nL own ret Ts cl q.1 q.2) (hCx : mx_Cx G R cells slots cc nL own ret Ts cl p s m args meth c D cA ad) (hE : mx_EndG wd nc l R cells slots cc ret cl p e s m args below meth c D cA ad Qf Rr) {pc : Nat} {L : List (Nat × mx_V)} {st : List mx_V} {u : σ} (h : mx_VC tb Rr pc L st u) : mx_AtG wd nc l R cells slots nL cl p e s m args below meth c D cA ad Qf pc L st u := by
  refine h _ ?_ ?_
  · intro n cut
    induction n with
    | zero => exact fun pc L st u h => h
    | succ n ih =>
      intro pc L st u h
      unfold mx_sg at h
      split at h
      · rename_i T hT
        refine hOk _ (mx_find_mem hT) p e s m args below meth c D cA ad cells slots Qf hCx _ hE L st u _ h ?_
        intro pc' L' st' u' h'
        cases hc : mx_in cut pc' with
        | true => rw [hc] at h'; exact h'
        | false => rw [hc] at h'; exact ih _ _ _ _ h'
      · exact h.elim
  · intro ks pc L st u h ls H locs hl
    refine h ls H locs ⟨hl.1, hl.2.1, fun q hq => hl.2.2 q ?_⟩
    obtain ⟨a, ha, rfl⟩ := List.mem_map.mp hq
    obtain ⟨k, -, hk⟩ := List.mem_filterMap.mp ha
    exact List.mem_map.mpr ⟨a, List.mem_of_getElem? hk, rfl⟩
theorem mx_ct_of {l : Launch} {Ts : List Cond} {cl : List vw_C} {sk : mx_K} {rm : Room} {y : MethodName} {cc : ByteArray} {nL : Nat} {ret : Option FieldType} {pre : List mx_V → mx_S → Prop} {fn : mx_F} (tb : List (Nat × mx_T)) (hy : plainName y.cls = true)
    (hOk : ∀ q ∈ tb, mx_Ok l rm cc nL y.cls ret Ts cl sk q.1 q.2) (hlen : ∀ (as : List mx_V) (u : mx_S), pre as u → mx_wid as ≤ nL) (hvc : ∀ (as : List mx_V) (u : mx_S), pre as u → mx_VC tb (fun v u' => (v, u') = fn as u) 0 (mx_L0 0 as) [] u) : mx_Ct l Ts cl sk rm y cc nL ret pre fn := by
  intro D cA ad sz as u hpre
  refine Met.ofW (cc := cc) (maxL := nL) (ret := ret) hy rfl ?_
  intro p e s m args below meth c s₁ B hml hv
  obtain ⟨rfl, hsz, hP, hK, hD⟩ := hv
  subst hsz
  have hx := B.exec
  have hb := B.bytes
  have hr := B.returns
  have hlk := B.notSynchronized
  have hts0 := atoms_spec (ws := Cond.code y cc nL ret :: Ts) B.pre
  have hts : ∀ w ∈ Ts, w.before (as.map (mx_c ad)).toArray s = true := fun w hw => hts0 w (List.mem_cons_of_mem _ hw)
  have hown : s.vm.findClass y.cls = some m.cls := findClass_of_methodNamed B.named
  have hCx : mx_Cx (fun _ _ => True) rm 0 0 cc nL y.cls ret Ts cl p s m (as.map (mx_c ad)).toArray meth c D cA ad := ⟨hx, hb, hml, hown, hts, hK, ⟨Nat.zero_le _, Nat.zero_le _⟩, trivial⟩
  have hl := lv_entry (as.map (mx_c ad)) (n := nL) (by rw [mx_sl_len]; exact hlen as u hpre)
  rw [mx_L0_eq] at hl
  rw [lg_entry_eq]
  have hQ : ∀ (v : Option mx_V) (u' : mx_S) (H : Heap) (locs : List Loc) (t : State), (v, u') = fn as u → va_P D cl (mx_w ad cA u' 0 sk) H → va_S (mx_A ad sk.length s.heap.size) s.heap H locs → t.heap = H → mx_Qc cl sk D cA ad s.heap.size (fn as u) (as.map (mx_c ad)).toArray s (.returned (v.map (mx_c ad))) t := by
    intro v u' H locs t h hP hS ht
    rw [← h]
    exact ⟨⟨rfl, by rw [ht]; exact hP⟩, hS.F ht⟩
  have hE : mx_EndG (mx_wd sk) sk.length l rm 0 0 cc ret cl p e s m (as.map (mx_c ad)).toArray below meth c D cA ad (MQ below (mx_Qc cl sk D cA ad s.heap.size (fn as u)) (as.map (mx_c ad)).toArray s 0 0 (mx_A ad sk.length s.heap.size)) (fun v u' => (v, u') = fn as u) := by
    intro pc v u' ls H locs hk h hP hS
    rcases hk with ⟨hdg, x, rfl, hk | ⟨hk, h01⟩⟩ | ⟨hdg, rfl, hk⟩
    · exact W.iret hx hb (by rw [hr, hk]) (fun t ht hW => hQ (some (.inl x)) u' H locs t h hP hS ht) hS.2.2 hdg hlk
    · exact W.zret hx hb (by rw [hr, hk]) (by rcases h01 with e1 | e1 <;> rw [e1] <;> rfl) (fun t ht hW => hQ (some (.inl x)) u' H locs t h hP hS ht) hS.2.2 hdg hlk
    · exact W.vret hx hb (by rw [hr, hk]) (fun t ht hW => hQ none u' H locs t h hP hS ht) hS.2.2 hdg hlk
  exact mx_run hOk hCx hE (hvc as u hpre) _ _ [] hl hP hD va_S.rf

def kx (np nd : Nat) : mx_K := [.inl (0, [some 1, some 2, some 3, some 4, some 8, none, none, none, none, none, none, none]), .inr np, .inr nd, .inr 32, .inl (1, [some 5, some 6, some 7, none]), .inr 18, .inr 18, .inr 18, .inl (2, [some 9, some 10, none]), .inr 12, .inr 12]
def km : mx_K := [.inl (3, [none, none, none, some 1, some 2, some 3, none, none, none, none, none, none, none, none, some 4, some 5, some 6, none, some 7, some 8, none, some 9, some 10]), .inr 256, .inr 256, .inr 32, .inr 64, .inr 64, .inr 64, .inr 32, .inr 32, .inr 8, .inr 8]
theorem fd_xm_13 : mx_Fd vw_T vw_cl "WideMachine" 0 0 13 := ⟨_, _, _, rfl, by decide, ui_0, vm_42⟩
theorem fd_xm_17 : mx_Fd vw_T vw_cl "WideMachine" 0 1 17 := ⟨_, _, _, rfl, by decide, ui_0, vm_43⟩
theorem fd_xm_20 : mx_Fd vw_T vw_cl "WideMachine" 0 2 20 := ⟨_, _, _, rfl, by decide, ui_0, vm_49⟩
theorem fd_xq_19 : mx_Fd vw_T vw_cl "WideMachine$Writes" 1 3 19 := ⟨_, _, _, rfl, by decide, ui_1, vm_50⟩
theorem fd_xq_16 : mx_Fd vw_T vw_cl "WideMachine$Writes" 1 2 16 := ⟨_, _, _, rfl, by decide, ui_1, vm_51⟩
theorem fd_xq_9 : mx_Fd vw_T vw_cl "WideMachine$Writes" 1 0 9 := ⟨_, _, _, rfl, by decide, ui_1, vm_52⟩
theorem fd_xq_13 : mx_Fd vw_T vw_cl "WideMachine$Writes" 1 1 13 := ⟨_, _, _, rfl, by decide, ui_1, vm_53⟩
theorem fd_xm_26 : mx_Fd vw_T vw_cl "WideMachine" 0 3 26 := ⟨_, _, _, rfl, by decide, ui_0, vm_54⟩
theorem fd_xm_41 : mx_Fd vw_T vw_cl "WideMachine" 0 5 41 := ⟨_, _, _, rfl, by decide, ui_0, vm_64⟩
theorem fd_xb_16 : mx_Fd vw_T vw_cl "WideMachine$Branches" 2 2 16 := ⟨_, _, _, rfl, by decide, ui_2, vm_69⟩
theorem fd_xb_13 : mx_Fd vw_T vw_cl "WideMachine$Branches" 2 1 13 := ⟨_, _, _, rfl, by decide, ui_2, vm_70⟩
theorem fd_xb_9 : mx_Fd vw_T vw_cl "WideMachine$Branches" 2 0 9 := ⟨_, _, _, rfl, by decide, ui_2, vm_71⟩
theorem fd_xm_33 : mx_Fd vw_T vw_cl "WideMachine" 0 4 33 := ⟨_, _, _, rfl, by decide, ui_0, vm_72⟩
theorem fd_xm_48 : mx_Fd vw_T vw_cl "WideMachine" 0 6 48 := ⟨_, _, _, rfl, by decide, ui_0, vm_86⟩
theorem fd_xm_68 : mx_Fd vw_T vw_cl "WideMachine" 0 10 68 := ⟨_, _, _, rfl, by decide, ui_0, vm_87⟩
theorem fd_xm_64 : mx_Fd vw_T vw_cl "WideMachine" 0 11 64 := ⟨_, _, _, rfl, by decide, ui_0, vm_88⟩
theorem fd_xm_57 : mx_Fd vw_T vw_cl "WideMachine" 2 2 57 := ⟨_, _, _, rfl, by decide, ui_2, vm_89⟩
theorem fd_xm_61 : mx_Fd vw_T vw_cl "WideMachine" 0 9 61 := ⟨_, _, _, rfl, by decide, ui_0, vm_94⟩
theorem fd_xm_58 : mx_Fd vw_T vw_cl "WideMachine" 0 8 58 := ⟨_, _, _, rfl, by decide, ui_0, vm_230⟩
theorem fd_xm_51 : mx_Fd vw_T vw_cl "WideMachine" 0 7 51 := ⟨_, _, _, rfl, by decide, ui_0, vm_258⟩
theorem fd_xm_54 : mx_Fd vw_T vw_cl "WideMachine" 1 3 54 := ⟨_, _, _, rfl, by decide, ui_1, vm_287⟩
theorem fd_xm_71 : mx_Fd vw_T vw_cl "WideMachine" 1 0 71 := ⟨_, _, _, rfl, by decide, ui_1, vm_288⟩
theorem fd_xm_74 : mx_Fd vw_T vw_cl "WideMachine" 1 1 74 := ⟨_, _, _, rfl, by decide, ui_1, vm_289⟩
theorem fd_xm_77 : mx_Fd vw_T vw_cl "WideMachine" 1 2 77 := ⟨_, _, _, rfl, by decide, ui_1, vm_290⟩
theorem fd_mm_47 : mx_Fd vw_T vw_cl "WideMachineModel" 3 0 47 := ⟨_, _, _, rfl, by decide, ui_3, vm_302⟩
theorem fd_mm_40 : mx_Fd vw_T vw_cl "WideMachineModel" 3 1 40 := ⟨_, _, _, rfl, by decide, ui_3, vm_303⟩
theorem fd_mm_7 : mx_Fd vw_T vw_cl "WideMachineModel" 3 3 7 := ⟨_, _, _, rfl, by decide, ui_3, vm_304⟩
theorem fd_mm_44 : mx_Fd vw_T vw_cl "WideMachineModel" 3 2 44 := ⟨_, _, _, rfl, by decide, ui_3, vm_305⟩
theorem fd_mm_13 : mx_Fd vw_T vw_cl "WideMachineModel" 3 4 13 := ⟨_, _, _, rfl, by decide, ui_3, vm_306⟩
theorem fd_mm_16 : mx_Fd vw_T vw_cl "WideMachineModel" 3 5 16 := ⟨_, _, _, rfl, by decide, ui_3, vm_307⟩
theorem fd_mm_50 : mx_Fd vw_T vw_cl "WideMachineModel" 3 6 50 := ⟨_, _, _, rfl, by decide, ui_3, vm_308⟩
theorem fd_mm_53 : mx_Fd vw_T vw_cl "WideMachineModel" 3 7 53 := ⟨_, _, _, rfl, by decide, ui_3, vm_309⟩
theorem fd_mm_56 : mx_Fd vw_T vw_cl "WideMachineModel" 3 8 56 := ⟨_, _, _, rfl, by decide, ui_3, vm_310⟩
theorem fd_mm_59 : mx_Fd vw_T vw_cl "WideMachineModel" 3 13 59 := ⟨_, _, _, rfl, by decide, ui_3, vm_311⟩
theorem fd_mm_62 : mx_Fd vw_T vw_cl "WideMachineModel" 3 17 62 := ⟨_, _, _, rfl, by decide, ui_3, vm_312⟩
theorem fd_mm_65 : mx_Fd vw_T vw_cl "WideMachineModel" 3 9 65 := ⟨_, _, _, rfl, by decide, ui_3, vm_313⟩
theorem fd_mm_68 : mx_Fd vw_T vw_cl "WideMachineModel" 3 10 68 := ⟨_, _, _, rfl, by decide, ui_3, vm_314⟩
theorem fd_mm_71 : mx_Fd vw_T vw_cl "WideMachineModel" 3 11 71 := ⟨_, _, _, rfl, by decide, ui_3, vm_315⟩
theorem fd_mm_75 : mx_Fd vw_T vw_cl "WideMachineModel" 3 12 75 := ⟨_, _, _, rfl, by decide, ui_3, vm_316⟩
theorem fd_mm_19 : mx_Fd vw_T vw_cl "WideMachineModel" 3 14 19 := ⟨_, _, _, rfl, by decide, ui_3, vm_317⟩
theorem fd_mm_22 : mx_Fd vw_T vw_cl "WideMachineModel" 3 15 22 := ⟨_, _, _, rfl, by decide, ui_3, vm_318⟩
theorem fd_mm_25 : mx_Fd vw_T vw_cl "WideMachineModel" 3 16 25 := ⟨_, _, _, rfl, by decide, ui_3, vm_319⟩
theorem fd_mm_31 : mx_Fd vw_T vw_cl "WideMachineModel" 3 19 31 := ⟨_, _, _, rfl, by decide, ui_3, vm_320⟩
theorem fd_mm_28 : mx_Fd vw_T vw_cl "WideMachineModel" 3 18 28 := ⟨_, _, _, rfl, by decide, ui_3, vm_321⟩
theorem fd_mm_34 : mx_Fd vw_T vw_cl "WideMachineModel" 3 21 34 := ⟨_, _, _, rfl, by decide, ui_3, vm_381⟩
theorem fd_mm_150 : mx_Fd vw_T vw_cl "WideMachineModel" 3 20 150 := ⟨_, _, _, rfl, by decide, ui_3, vm_382⟩
theorem fd_mm_37 : mx_Fd vw_T vw_cl "WideMachineModel" 3 22 37 := ⟨_, _, _, rfl, by decide, ui_3, vm_383⟩
theorem fw_1_3 : mx_Fw vw_cl 1 3 .int := ⟨_, _, _, ft_1, rfl, fo_1, fn_1, rfl, by decide +kernel⟩
theorem fw_0_5 : mx_Fw vw_cl 0 5 .int := ⟨_, _, _, ft_0, rfl, fo_0, fn_0, rfl, by decide +kernel⟩
theorem fw_2_2 : mx_Fw vw_cl 2 2 .int := ⟨_, _, _, ft_2, rfl, fo_2, fn_2, rfl, by decide +kernel⟩
theorem fw_0_6 : mx_Fw vw_cl 0 6 .int := ⟨_, _, _, ft_0, rfl, fo_0, fn_0, rfl, by decide +kernel⟩
theorem fw_0_10 : mx_Fw vw_cl 0 10 .int := ⟨_, _, _, ft_0, rfl, fo_0, fn_0, rfl, by decide +kernel⟩
theorem fw_0_11 : mx_Fw vw_cl 0 11 .boolean := ⟨_, _, _, ft_0, rfl, fo_0, fn_0, rfl, by decide +kernel⟩
theorem fw_0_9 : mx_Fw vw_cl 0 9 .int := ⟨_, _, _, ft_0, rfl, fo_0, fn_0, rfl, by decide +kernel⟩
theorem fw_0_8 : mx_Fw vw_cl 0 8 .int := ⟨_, _, _, ft_0, rfl, fo_0, fn_0, rfl, by decide +kernel⟩
theorem fw_0_7 : mx_Fw vw_cl 0 7 .int := ⟨_, _, _, ft_0, rfl, fo_0, fn_0, rfl, by decide +kernel⟩
theorem fw_3_0 : mx_Fw vw_cl 3 0 .int := ⟨_, _, _, ft_3, rfl, fo_3, fn_3, rfl, by decide +kernel⟩
theorem fw_3_12 : mx_Fw vw_cl 3 12 .int := ⟨_, _, _, ft_3, rfl, fo_3, fn_3, rfl, by decide +kernel⟩
theorem fw_3_11 : mx_Fw vw_cl 3 11 .boolean := ⟨_, _, _, ft_3, rfl, fo_3, fn_3, rfl, by decide +kernel⟩
theorem fw_3_6 : mx_Fw vw_cl 3 6 .int := ⟨_, _, _, ft_3, rfl, fo_3, fn_3, rfl, by decide +kernel⟩
theorem fw_3_9 : mx_Fw vw_cl 3 9 .int := ⟨_, _, _, ft_3, rfl, fo_3, fn_3, rfl, by decide +kernel⟩
theorem fw_3_13 : mx_Fw vw_cl 3 13 .int := ⟨_, _, _, ft_3, rfl, fo_3, fn_3, rfl, by decide +kernel⟩
theorem fw_3_17 : mx_Fw vw_cl 3 17 .int := ⟨_, _, _, ft_3, rfl, fo_3, fn_3, rfl, by decide +kernel⟩
theorem fw_3_7 : mx_Fw vw_cl 3 7 .int := ⟨_, _, _, ft_3, rfl, fo_3, fn_3, rfl, by decide +kernel⟩
theorem fw_3_10 : mx_Fw vw_cl 3 10 .int := ⟨_, _, _, ft_3, rfl, fo_3, fn_3, rfl, by decide +kernel⟩
theorem fw_3_20 : mx_Fw vw_cl 3 20 .int := ⟨_, _, _, ft_3, rfl, fo_3, fn_3, rfl, by decide +kernel⟩
theorem fw_3_8 : mx_Fw vw_cl 3 8 .int := ⟨_, _, _, ft_3, rfl, fo_3, fn_3, rfl, by decide +kernel⟩
