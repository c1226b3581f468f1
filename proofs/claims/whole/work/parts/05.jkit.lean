/-! the abstract state of a system of cells, its world, and the judgement Jd: rows of the machine over an abstract state -/
def U0 : List Cond := lw_tbl.filter goodWord
theorem U0_of {w : Cond} (h : w ∈ lw_tbl) (g : goodWord w = true) : w ∈ U0 := List.mem_filter.mpr ⟨h, g⟩
theorem U0_tbl {w : Cond} (h : w ∈ U0) : w ∈ lw_tbl := (List.mem_filter.mp h).1
theorem U0_good {w : Cond} (h : w ∈ U0) : goodWord w = true := (List.mem_filter.mp h).2
abbrev St : Type := (Nat → Nat → Int32) × (Nat → Nat → Int64) × (Nat → Nat → Nat) × List (Nat × List Int32)
def setR (σ : St) (i : Nat) (f : Nat → Int32) : St := (fun a => if a = i then f else σ.1 a, σ.2)
def setL (σ : St) (i : Nat) (f : Nat → Int64) : St := (σ.1, fun a => if a = i then f else σ.2.1 a, σ.2.2)
def setI (σ : St) (i j : Nat) (v : Int32) : St := setR σ i (upd (σ.1 i) j v)
def setJ (σ : St) (i j : Nat) (v : Int64) : St := setL σ i (vp_updL (σ.2.1 i) j v)
def setP (σ : St) (i j : Nat) (v : Nat) : St := (σ.1, σ.2.1, fun a b => if a = i ∧ b = j then v else σ.2.2.1 a b, σ.2.2.2)
/-- the cells' layout: how many, the kind of each (an array: type tag, length; an object: its class's number, how many fields, their kinds), what the array of objects holds -/
abbrev LyT : Type := Nat × (Nat → (Nat × Nat) ⊕ (Nat × Nat × (Nat → Nat × Nat))) × (Nat → Nat)
/-- a world: layout, class numbers and slots, addresses of the cells, array classes by tag, addresses of constants, the two arrays that are there from the start, what may change, from where on cells are new, what else holds -/
abbrev WT : Type := LyT × va_G × (Nat → Nat) × (Nat → ClassId) × (Nat → Nat) × (Nat × Nat) × (Nat → Prop) × Nat × (State → Heap → Prop)
abbrev wLy (w : WT) : Nat → (Nat × Nat) ⊕ (Nat × Nat × (Nat → Nat × Nat)) := w.1.2.1
abbrev wD (w : WT) : va_G := w.2.1
abbrev wad (w : WT) : Nat → Nat := w.2.2.1
abbrev wcT (w : WT) : Nat → ClassId := w.2.2.2.1
abbrev wadW (w : WT) : Nat → Nat := w.2.2.2.2.1
abbrev wSt2 (w : WT) : Nat × Nat := w.2.2.2.2.2.1
abbrev wReg (w : WT) : Nat → Prop := w.2.2.2.2.2.2.1
abbrev wB (w : WT) : Nat := w.2.2.2.2.2.2.2.1
abbrev wSx (w : WT) : State → Heap → Prop := w.2.2.2.2.2.2.2.2
/-- the address of a law's row by its number -/
def lawad (w : WT) (σ : St) (d : Nat) : Nat := match d with
  | 0 => (wSt2 w).1
  | 1 => (wSt2 w).2
  | k + 2 => (σ.2.2.2.getD k (0, [])).1
def fvl (w : WT) (σ : St) (i k : Nat) (q : Nat × Nat) : Value := match q.1 with
  | 0 => .int (σ.1 i k)
  | 1 => .long (σ.2.1 i k)
  | 2 => .ref (wad w q.2)
  | 3 => .ref (wadW w (σ.2.2.1 i k))
  | _ => .ref (lawad w σ (σ.2.2.1 i k))
def arw (w : WT) (σ : St) (i ty : Nat) : (Nat → Int32) ⊕ (Nat → Int64) ⊕ (Nat → UInt32) ⊕ (Nat → UInt64) ⊕ (Nat → Option Nat) := match ty with
  | 1 => .inr (.inl (σ.2.1 i))
  | 4 => .inr (.inr (.inr (.inr (fun j => some (wad w (w.1.2.2 j))))))
  | _ => .inl (σ.1 i)
def cel (w : WT) (σ : St) (i : Nat) : va_E := match wLy w i with
  | .inl q => .inl (wcT w q.1, q.2, arw w σ i q.1)
  | .inr q => .inr (q.1, (List.range q.2.1).map (fun k => fvl w σ i k (q.2.2 k)))
def wws (w : WT) (σ : St) : va_W := (List.range w.1.1).map (fun i => (wad w i, cel w σ i))
def wdy (w : WT) (σ : St) : va_W := σ.2.2.2.map (fun q => (q.1, .inl (wcT w 0, q.2.length, .inl (fun j => q.2.getD j 0))))
abbrev wal (w : WT) (σ : St) : va_W := wws w σ ++ wdy w σ
abbrev wtys (w : WT) : List (ClassId × FieldType) := [(wcT w 0, .int), (wcT w 1, .long), (wcT w 2, .byte), (wcT w 3, .boolean), (wcT w 4, .object "SkinCarriers$Day")]
/-- what else holds is blind to what may change -/
def Wok (w : WT) : Prop := (∀ q, wB w ≤ q → wReg w q) ∧ ∀ (u U : State) (H H1 : Heap), u.WarmedH U.vm → H.size ≤ H1.size → (∀ q, q < H.size → ¬ wReg w q → H1[q]? = H[q]?) → wSx w u H → wSx w U H1
def Hw (w : WT) (σ : St) (H : Heap) : Prop := va_P (wD w) vwCl (wal w σ) H ∧ va_D (wReg w) (wal w σ)
/-- the world at a state of the machine -/
def Wd (w : WT) (σ : St) (s : State) : Prop := Wok w ∧ va_K (wD w) vwCl (wtys w) s ∧ wSx w s s.heap ∧ wB w ≤ s.heap.size ∧ Hw w σ s.heap
theorem wws_len (w : WT) (σ : St) : (wws w σ).length = w.1.1 := by simp [wws]
theorem wws_get {w : WT} (σ : St) {i : Nat} (h : i < w.1.1) : (wws w σ)[i]? = some (wad w i, cel w σ i) := by simp [wws, h]
theorem wal_get {w : WT} (σ : St) {i : Nat} (h : i < w.1.1) : (wal w σ)[i]? = some (wad w i, cel w σ i) := by
  rw [List.getElem?_append_left (by rw [wws_len]; exact h)]
  exact wws_get σ h
theorem wws_set {w : WT} {σ τ : St} {i : Nat} {e : va_E} (h : i < w.1.1) (hi : cel w τ i = e) (ho : ∀ j, j ≠ i → cel w τ j = cel w σ j) : (wws w σ).set i (wad w i, e) = wws w τ := by
  apply List.ext_getElem?
  intro k
  by_cases hk : k < w.1.1
  · rw [wws_get τ hk]
    by_cases e1 : k = i
    · subst e1
      rw [List.getElem?_set_self (by rw [wws_len]; exact hk), hi]
    · rw [List.getElem?_set_ne (Ne.symm e1), wws_get σ hk, ho k e1]
  · rw [List.getElem?_eq_none (by rw [List.length_set, wws_len]; omega), List.getElem?_eq_none (by rw [wws_len]; omega)]
theorem wal_set {w : WT} {σ τ : St} {i : Nat} {e : va_E} (h : i < w.1.1) (hi : cel w τ i = e) (ho : ∀ j, j ≠ i → cel w τ j = cel w σ j) (hk : τ.2.2.2 = σ.2.2.2) : (wal w σ).set i (wad w i, e) = wal w τ := by
  unfold wal
  rw [List.set_append, if_pos (by rw [wws_len]; exact h), wws_set h hi ho]
  unfold wdy
  rw [hk]
theorem cel_arr {w : WT} {σ : St} {i ty n : Nat} (h : wLy w i = .inl (ty, n)) : cel w σ i = .inl (wcT w ty, n, arw w σ i ty) := by
  unfold cel; rw [h]
theorem cel_obj {w : WT} {σ : St} {i ci N : Nat} {fk : Nat → Nat × Nat} (h : wLy w i = .inr (ci, N, fk)) : cel w σ i = .inr (ci, (List.range N).map (fun k => fvl w σ i k (fk k))) := by
  unfold cel; rw [h]
theorem lawad_K {w : WT} {σ τ : St} (h : τ.2.2.2 = σ.2.2.2) (d : Nat) : lawad w τ d = lawad w σ d := by
  unfold lawad; rw [h]
theorem fvl_eq {w : WT} {σ τ : St} {i k : Nat} (q : Nat × Nat) (h1 : τ.1 i k = σ.1 i k) (h2 : τ.2.1 i k = σ.2.1 i k) (h3 : τ.2.2.1 i k = σ.2.2.1 i k) (h4 : τ.2.2.2 = σ.2.2.2) : fvl w τ i k q = fvl w σ i k q := by
  unfold fvl; rw [h1, h2, h3, lawad_K h4]
theorem cel_eq {w : WT} {σ τ : St} {i : Nat} (h1 : τ.1 i = σ.1 i) (h2 : τ.2.1 i = σ.2.1 i) (h3 : τ.2.2.1 i = σ.2.2.1 i) (h4 : τ.2.2.2 = σ.2.2.2) : cel w τ i = cel w σ i := by
  unfold cel
  split
  · unfold arw; rw [h1, h2]
  · congr 2
    apply List.map_congr_left
    intro k _
    exact fvl_eq _ (by rw [h1]) (by rw [h2]) (by rw [h3]) h4
theorem setR_same (σ : St) (i : Nat) (f : Nat → Int32) : (setR σ i f).1 i = f := by simp [setR]
theorem setR_ne (σ : St) {i j : Nat} (f : Nat → Int32) (h : j ≠ i) : (setR σ i f).1 j = σ.1 j := by simp [setR, h]
theorem setL_same (σ : St) (i : Nat) (f : Nat → Int64) : (setL σ i f).2.1 i = f := by simp [setL]
theorem setL_ne (σ : St) {i j : Nat} (f : Nat → Int64) (h : j ≠ i) : (setL σ i f).2.1 j = σ.2.1 j := by simp [setL, h]
theorem setI_same (σ : St) (i j : Nat) (v : Int32) : (setI σ i j v).1 i = upd (σ.1 i) j v := setR_same σ i _
theorem setJ_same (σ : St) (i j : Nat) (v : Int64) : (setJ σ i j v).2.1 i = vp_updL (σ.2.1 i) j v := setL_same σ i _
theorem cel_setR_ne {w : WT} (σ : St) {i j : Nat} (f : Nat → Int32) (h : j ≠ i) : cel w (setR σ i f) j = cel w σ j := cel_eq (setR_ne σ f h) rfl rfl rfl
theorem cel_setL_ne {w : WT} (σ : St) {i j : Nat} (f : Nat → Int64) (h : j ≠ i) : cel w (setL σ i f) j = cel w σ j := cel_eq rfl (setL_ne σ f h) rfl rfl
theorem cel_setP_ne {w : WT} (σ : St) {i j k : Nat} (v : Nat) (h : j ≠ i) : cel w (setP σ i k v) j = cel w σ j := cel_eq rfl rfl (by funext b; simp [setP, h]) rfl
theorem map_set_range {N k : Nat} {f g : Nat → Value} {v : Value} (hk : k < N) (h1 : g k = v) (h2 : ∀ j, j ≠ k → g j = f j) : ((List.range N).map f).set k v = (List.range N).map g := by
  apply List.ext_getElem?
  intro j
  by_cases e : j = k
  · subst e
    rw [List.getElem?_set_self (by simpa using hk)]
    simp [hk, h1]
  · rw [List.getElem?_set_ne (Ne.symm e)]
    by_cases hj : j < N
    · simp [hj, h2 j e]
    · simp [hj]
theorem cel_setI_obj {w : WT} {σ : St} {i ci N k t : Nat} {fk : Nat → Nat × Nat} {v : Int32} (h : wLy w i = .inr (ci, N, fk)) (hk : k < N) (hq : fk k = (0, t)) : cel w (setI σ i k v) i = .inr (ci, ((List.range N).map (fun k => fvl w σ i k (fk k))).set k (.int v)) := by
  rw [cel_obj h, map_set_range hk]
  · show fvl w (setI σ i k v) i k (fk k) = _
    rw [hq]
    show Value.int ((setI σ i k v).1 i k) = _
    rw [setI_same]; simp [upd]
  · intro j hj
    exact fvl_eq _ (by rw [setI_same]; simp [upd, hj]) rfl rfl rfl
theorem cel_setJ_obj {w : WT} {σ : St} {i ci N k t : Nat} {fk : Nat → Nat × Nat} {v : Int64} (h : wLy w i = .inr (ci, N, fk)) (hk : k < N) (hq : fk k = (1, t)) : cel w (setJ σ i k v) i = .inr (ci, ((List.range N).map (fun k => fvl w σ i k (fk k))).set k (.long v)) := by
  rw [cel_obj h, map_set_range hk]
  · show fvl w (setJ σ i k v) i k (fk k) = _
    rw [hq]
    show Value.long ((setJ σ i k v).2.1 i k) = _
    rw [setJ_same]; simp [vp_updL]
  · intro j hj
    exact fvl_eq _ rfl (by rw [setJ_same]; simp [vp_updL, hj]) rfl rfl
theorem cel_setP_obj {w : WT} {σ : St} {i ci N k : Nat} {fk : Nat → Nat × Nat} {d : Nat} {v : Value} (h : wLy w i = .inr (ci, N, fk)) (hk : k < N) (hv : fvl w (setP σ i k d) i k (fk k) = v) : cel w (setP σ i k d) i = .inr (ci, ((List.range N).map (fun k => fvl w σ i k (fk k))).set k v) := by
  rw [cel_obj h, map_set_range hk]
  · exact hv
  · intro j hj
    exact fvl_eq _ rfl rfl (by simp [setP, hj]) rfl
theorem fields_get {w : WT} {σ : St} {i N k : Nat} {fk : Nat → Nat × Nat} (hk : k < N) : ((List.range N).map (fun k => fvl w σ i k (fk k)))[k]? = some (fvl w σ i k (fk k)) := by simp [hk]
