/-! the judgement Jd, and its rows -/
abbrev CX : Type := Program × Launch × Env × Room × State × MethodId × Array Value × List Frame × Method × Code × WT × (Nat → Nat × Nat) × (Option Value × St) × (Nat × Nat × Bool) × (State → Prop)
abbrev xp (X : CX) : Program := X.1
abbrev xl (X : CX) : Launch := X.2.1
abbrev xe (X : CX) : Env := X.2.2.1
abbrev xR (X : CX) : Room := X.2.2.2.1
abbrev xs (X : CX) : State := X.2.2.2.2.1
abbrev xm (X : CX) : MethodId := X.2.2.2.2.2.1
abbrev xa (X : CX) : Array Value := X.2.2.2.2.2.2.1
abbrev xb (X : CX) : List Frame := X.2.2.2.2.2.2.2.1
abbrev xme (X : CX) : Method := X.2.2.2.2.2.2.2.2.1
abbrev xc (X : CX) : Code := X.2.2.2.2.2.2.2.2.2.1
abbrev xw (X : CX) : WT := X.2.2.2.2.2.2.2.2.2.2.1
abbrev xg (X : CX) : Nat → Nat × Nat := X.2.2.2.2.2.2.2.2.2.2.2.1
abbrev xr (X : CX) : Option Value × St := X.2.2.2.2.2.2.2.2.2.2.2.2.1
abbrev xk (X : CX) : Nat × Nat × Bool := X.2.2.2.2.2.2.2.2.2.2.2.2.2.1
abbrev xQ (X : CX) : State → Prop := X.2.2.2.2.2.2.2.2.2.2.2.2.2.2
abbrev Kn (σ : St) : Nat := σ.2.2.2.length
def QcW (w : WT) (r : Option Value) (τ : St) (mc : Nat) (z : Bool) : Array Value → State → Outcome → State → Prop := fun _ st oc t => oc = .returned r ∧ Wd w τ t ∧ va_F (wReg w) st t ∧ (z = true → t.heap.size = st.heap.size + mc)
def gd (X : CX) (cc : ByteArray) (nL : Nat) (own : String) (ret : Option FieldType) : Prop :=
  (xp X).tables.exec = Jvm.exec ∧ (xc X).code = cc ∧ (xc X).maxLocals = nL ∧ (xs X).vm.findClass own = some (xm X).cls ∧ (∀ w ∈ U0, w.before (xa X) (xs X) = true) ∧ Wok (xw X) ∧ va_K (wD (xw X)) vwCl (wtys (xw X)) (xs X) ∧ wSx (xw X) (xs X) (xs X).heap ∧ wB (xw X) ≤ (xs X).heap.size ∧ (xme X).locks = false ∧ (xme X).sig.returnType = ret ∧ (((xg X) (Kn (xr X).2)).1 ≤ (xk X).1 ∧ ((xk X).2.2 = true → ((xg X) (Kn (xr X).2)).1 = (xk X).1)) ∧ ((xg X) (Kn (xr X).2)).2 ≤ (xk X).2.1 ∧ ∀ t, MQ (xb X) (QcW (xw X) (xr X).1 (xr X).2 (xk X).1 (xk X).2.2) (xa X) (xs X) (xk X).1 (xk X).2.1 (wReg (xw X)) t → xQ X t
def Jd (X : CX) (nL pc : Nat) (lv : List (Nat × Value)) (st : List Value) (σ : St) : Prop := ∀ (H : Heap) (locs : List Loc) (ls : Array Slot), Hw (xw X) σ H → va_S (wReg (xw X)) (xs X).heap H locs → H.size = (xs X).heap.size + ((xg X) (Kn σ)).1 → lv_has ls nL lv →
  W (xp X) (xl X) (xe X) (xR X) (xs X) (xm X) (xa X) (xb X) (xme X) (xc X) H locs ((xg X) (Kn σ)).1 ((xg X) (Kn σ)).2 (xQ X) (F0 (xm X) pc ls st)
theorem stand_le {p : Program} {l : Launch} {e : Env} {R : Room} {s : State} {m : MethodId} {args : Array Value} {below : List Frame} {meth : Method} {c : Code} {T : State} {locs : List Loc} {cells slots : Nat} (X : Stand p l e R s m args below meth c T locs cells slots) : T.heap.size ≤ s.heap.size + cells := X.same.2.2.1
theorem va_S_tr {A : Nat → Prop} {H0 H H1 : Heap} {locs locs1 : List Loc} (h : va_S A H0 H locs) (h1 : va_S A H H1 locs1) : va_S A H0 H1 locs1 := ⟨Nat.le_trans h.1 h1.1, fun q a b => (h1.2.1 q (Nat.lt_of_lt_of_le a h.1) b).trans (h.2.1 q a b), h1.2.2⟩
theorem va_S_hh {A : Nat → Prop} {H0 H : Heap} {locs : List Loc} (h : va_S A H0 H locs) : va_S A H H locs := ⟨Nat.le_refl _, fun _ _ _ => rfl, h.2.2⟩
theorem W_imp {p : Program} {l : Launch} {e : Env} {R : Room} {s : State} {m : MethodId} {args : Array Value} {below : List Frame} {meth : Method} {c : Code} {H : Heap} {locs : List Loc} {cells slots : Nat} {Q Q' : State → Prop} {g : JFrame} (hq : ∀ t, Q t → Q' t) (k : W p l e R s m args below meth c H locs cells slots Q g) : W p l e R s m args below meth c H locs cells slots Q' g := fun T hT X => by
  obtain ⟨t, a, b⟩ := k T hT X
  exact ⟨t, a, hq t b⟩
theorem Wd_of {X : CX} {cc : ByteArray} {nL : Nat} {own : String} {ret : Option FieldType} (hX : gd X cc nL own ret) {σ : St} {H : Heap} {locs : List Loc} (hH : Hw (xw X) σ H) (hS : va_S (wReg (xw X)) (xs X).heap H locs) {U : State} (hU : U.heap = H) (hW : (xs X).WarmedH U.vm) : Wd (xw X) σ U := by
  obtain ⟨-, -, -, -, -, h1, h2, h3, h4, -⟩ := hX
  refine ⟨h1, va_K.moved hW.alike h2, ?_, by rw [hU]; exact Nat.le_trans h4 hS.1, by rw [hU]; exact hH⟩
  rw [hU]
  exact h1.2 _ _ _ _ hW hS.1 hS.2.1 h3
theorem Wd_blind {w : WT} {σ : St} {avs : List Value} : FrameBlind (va_Pc avs (fun s => Wd w σ s)) := by
  intro a U g mk h
  obtain ⟨h0, h1, h2, h3, h4⟩ := h
  exact ⟨h0, h1, va_K.moved (u := U) (U := U.calling g mk a) (Vm.Alike.refl U.vm) h2, h1.2 U (U.calling g mk a) U.heap U.heap (State.WarmedH.refl U) (Nat.le_refl _) (fun _ _ _ => rfl) h3, h4⟩
theorem goodIn_U0 {ws : List Cond} (h : ∀ w ∈ ws, w ∈ U0) : GoodIn U0 ws := fun w hw => ⟨h w hw, good_of_word (U0_good (h w hw))⟩
/-- a class of the tables, as rows need it -/
def clsOK (ci : Nat) (C : String) (T : u_T) (N : Nat) (ty : Nat → FieldType) : Prop := vwCl[ci]? = some (C, T, N) ∧ (∀ w ∈ u_ws C T N, w ∈ U0) ∧ (∀ k, k < N → parseFieldDescriptor (T k).2.2.1 = some (ty k)) ∧ (∀ a, a < N → ∀ b, b < N → a ≠ b → (T a).2.1 ≠ (T b).2.1)
/-- a cell of the layout -/
def isC (w : WT) (i : Nat) (q : (Nat × Nat) ⊕ (Nat × Nat × (Nat → Nat × Nat))) : Prop := i < w.1.1 ∧ wLy w i = q
section JR
variable {X : CX} {cc : ByteArray} {nL : Nat} {own : String} {ret : Option FieldType} {pc : Nat} {lv : List (Nat × Value)} {rest : List Value} {σ : St}
theorem J_iconst {n : Int} {v : Int32} (hX : gd X cc nL own ret) (hd : decode cc pc = .ok (.iconst n, 1)) (hv : Int32.ofInt n = v)
    (kk : Jd X nL (pc + 1) lv (.int v :: rest) σ) : Jd X nL pc lv (rest) σ := fun H locs ls hH hS hz hl => lv_iconst hX.1 hX.2.1 hd hv (kk H locs ls hH hS hz hl)
theorem J_bipush {n : Int} {v : Int32} (hX : gd X cc nL own ret) (hd : decode cc pc = .ok (.bipush n, 2)) (hv : (Int8.ofInt n).toInt32 = v)
    (kk : Jd X nL (pc + 2) lv (.int v :: rest) σ) : Jd X nL pc lv (rest) σ := fun H locs ls hH hS hz hl => lv_bipush hX.1 hX.2.1 hd hv (kk H locs ls hH hS hz hl)
theorem J_sipush {n : Int} {v : Int32} (hX : gd X cc nL own ret) (hd : decode cc pc = .ok (.sipush n, 3)) (hv : (Int16.ofInt n).toInt32 = v)
    (kk : Jd X nL (pc + 3) lv (.int v :: rest) σ) : Jd X nL pc lv (rest) σ := fun H locs ls hH hS hz hl => lv_sipush hX.1 hX.2.1 hd hv (kk H locs ls hH hS hz hl)
theorem J_lconst {n : Fin 2} {v : Int64} (hX : gd X cc nL own ret) (hd : decode cc pc = .ok (.lconst n, 1)) (hv : Int64.ofNat (n : Nat) = v)
    (kk : Jd X nL (pc + 1) lv (.long v :: rest) σ) : Jd X nL pc lv (rest) σ := fun H locs ls hH hS hz hl => lv_lconst hX.1 hX.2.1 hd hv (kk H locs ls hH hS hz hl)
theorem J_iadd {x y : Int32} (hX : gd X cc nL own ret) (hd : decode cc pc = .ok (.iadd, 1)) 
    (kk : Jd X nL (pc + 1) lv (.int (x + y) :: rest) σ) : Jd X nL pc lv (.int y :: .int x :: rest) σ := fun H locs ls hH hS hz hl => lv_iadd hX.1 hX.2.1 hd  (kk H locs ls hH hS hz hl)
theorem J_isub {x y : Int32} (hX : gd X cc nL own ret) (hd : decode cc pc = .ok (.isub, 1)) 
    (kk : Jd X nL (pc + 1) lv (.int (x - y) :: rest) σ) : Jd X nL pc lv (.int y :: .int x :: rest) σ := fun H locs ls hH hS hz hl => lv_isub hX.1 hX.2.1 hd  (kk H locs ls hH hS hz hl)
theorem J_imul {x y : Int32} (hX : gd X cc nL own ret) (hd : decode cc pc = .ok (.imul, 1)) 
    (kk : Jd X nL (pc + 1) lv (.int (x * y) :: rest) σ) : Jd X nL pc lv (.int y :: .int x :: rest) σ := fun H locs ls hH hS hz hl => lv_imul hX.1 hX.2.1 hd  (kk H locs ls hH hS hz hl)
theorem J_iand {x y : Int32} (hX : gd X cc nL own ret) (hd : decode cc pc = .ok (.iand, 1)) 
    (kk : Jd X nL (pc + 1) lv (.int (x &&& y) :: rest) σ) : Jd X nL pc lv (.int y :: .int x :: rest) σ := fun H locs ls hH hS hz hl => lv_iand hX.1 hX.2.1 hd  (kk H locs ls hH hS hz hl)
theorem J_ior {x y : Int32} (hX : gd X cc nL own ret) (hd : decode cc pc = .ok (.ior, 1)) 
    (kk : Jd X nL (pc + 1) lv (.int (x ||| y) :: rest) σ) : Jd X nL pc lv (.int y :: .int x :: rest) σ := fun H locs ls hH hS hz hl => lv_ior hX.1 hX.2.1 hd  (kk H locs ls hH hS hz hl)
theorem J_ixor {x y : Int32} (hX : gd X cc nL own ret) (hd : decode cc pc = .ok (.ixor, 1)) 
    (kk : Jd X nL (pc + 1) lv (.int (x ^^^ y) :: rest) σ) : Jd X nL pc lv (.int y :: .int x :: rest) σ := fun H locs ls hH hS hz hl => lv_ixor hX.1 hX.2.1 hd  (kk H locs ls hH hS hz hl)
theorem J_idiv {x y : Int32} (hX : gd X cc nL own ret) (hd : decode cc pc = .ok (.idiv, 1)) (hne : ¬ y = 0)
    (kk : Jd X nL (pc + 1) lv (.int (x / y) :: rest) σ) : Jd X nL pc lv (.int y :: .int x :: rest) σ := fun H locs ls hH hS hz hl => lv_idiv hX.1 hX.2.1 hd hne (kk H locs ls hH hS hz hl)
theorem J_irem {x y : Int32} (hX : gd X cc nL own ret) (hd : decode cc pc = .ok (.irem, 1)) (hne : ¬ y = 0)
    (kk : Jd X nL (pc + 1) lv (.int (x - x / y * y) :: rest) σ) : Jd X nL pc lv (.int y :: .int x :: rest) σ := fun H locs ls hH hS hz hl => lv_irem hX.1 hX.2.1 hd hne (kk H locs ls hH hS hz hl)
theorem J_ishl {x y : Int32} (hX : gd X cc nL own ret) (hd : decode cc pc = .ok (.ishl, 1)) 
    (kk : Jd X nL (pc + 1) lv (.int (x <<< (y &&& 31)) :: rest) σ) : Jd X nL pc lv (.int y :: .int x :: rest) σ := fun H locs ls hH hS hz hl => lv_ishl hX.1 hX.2.1 hd  (kk H locs ls hH hS hz hl)
theorem J_ishr {x y : Int32} (hX : gd X cc nL own ret) (hd : decode cc pc = .ok (.ishr, 1)) 
    (kk : Jd X nL (pc + 1) lv (.int (x >>> (y &&& 31)) :: rest) σ) : Jd X nL pc lv (.int y :: .int x :: rest) σ := fun H locs ls hH hS hz hl => lv_ishr hX.1 hX.2.1 hd  (kk H locs ls hH hS hz hl)
theorem J_ladd {x y : Int64} (hX : gd X cc nL own ret) (hd : decode cc pc = .ok (.ladd, 1)) 
    (kk : Jd X nL (pc + 1) lv (.long (x + y) :: rest) σ) : Jd X nL pc lv (.long y :: .long x :: rest) σ := fun H locs ls hH hS hz hl => lv_ladd hX.1 hX.2.1 hd  (kk H locs ls hH hS hz hl)
theorem J_lsub {x y : Int64} (hX : gd X cc nL own ret) (hd : decode cc pc = .ok (.lsub, 1)) 
    (kk : Jd X nL (pc + 1) lv (.long (x - y) :: rest) σ) : Jd X nL pc lv (.long y :: .long x :: rest) σ := fun H locs ls hH hS hz hl => lv_lsub hX.1 hX.2.1 hd  (kk H locs ls hH hS hz hl)
theorem J_lmul {x y : Int64} (hX : gd X cc nL own ret) (hd : decode cc pc = .ok (.lmul, 1)) 
    (kk : Jd X nL (pc + 1) lv (.long (x * y) :: rest) σ) : Jd X nL pc lv (.long y :: .long x :: rest) σ := fun H locs ls hH hS hz hl => lv_lmul hX.1 hX.2.1 hd  (kk H locs ls hH hS hz hl)
theorem J_land {x y : Int64} (hX : gd X cc nL own ret) (hd : decode cc pc = .ok (.land, 1)) 
    (kk : Jd X nL (pc + 1) lv (.long (x &&& y) :: rest) σ) : Jd X nL pc lv (.long y :: .long x :: rest) σ := fun H locs ls hH hS hz hl => lv_land hX.1 hX.2.1 hd  (kk H locs ls hH hS hz hl)
theorem J_lor {x y : Int64} (hX : gd X cc nL own ret) (hd : decode cc pc = .ok (.lor, 1)) 
    (kk : Jd X nL (pc + 1) lv (.long (x ||| y) :: rest) σ) : Jd X nL pc lv (.long y :: .long x :: rest) σ := fun H locs ls hH hS hz hl => lv_lor hX.1 hX.2.1 hd  (kk H locs ls hH hS hz hl)
theorem J_ldiv {x y : Int64} (hX : gd X cc nL own ret) (hd : decode cc pc = .ok (.ldiv, 1)) (hne : ¬ y = 0)
    (kk : Jd X nL (pc + 1) lv (.long (x / y) :: rest) σ) : Jd X nL pc lv (.long y :: .long x :: rest) σ := fun H locs ls hH hS hz hl => lv_ldiv hX.1 hX.2.1 hd hne (kk H locs ls hH hS hz hl)
theorem J_lrem {x y : Int64} (hX : gd X cc nL own ret) (hd : decode cc pc = .ok (.lrem, 1)) (hne : ¬ y = 0)
    (kk : Jd X nL (pc + 1) lv (.long (x - x / y * y) :: rest) σ) : Jd X nL pc lv (.long y :: .long x :: rest) σ := fun H locs ls hH hS hz hl => lv_lrem hX.1 hX.2.1 hd hne (kk H locs ls hH hS hz hl)
theorem J_lushr {x : Int64} {y : Int32} (hX : gd X cc nL own ret) (hd : decode cc pc = .ok (.lushr, 1)) 
    (kk : Jd X nL (pc + 1) lv (.long (x.toUInt64 >>> (y.toInt64.toUInt64 &&& Int64.toUInt64 63)).toInt64 :: rest) σ) : Jd X nL pc lv (.int y :: .long x :: rest) σ := fun H locs ls hH hS hz hl => lv_lushr hX.1 hX.2.1 hd rfl (kk H locs ls hH hS hz hl)
theorem J_lshl {x : Int64} {y : Int32} (hX : gd X cc nL own ret) (hd : decode cc pc = .ok (.lshl, 1)) 
    (kk : Jd X nL (pc + 1) lv (.long (x <<< (y.toInt64 &&& 63)) :: rest) σ) : Jd X nL pc lv (.int y :: .long x :: rest) σ := fun H locs ls hH hS hz hl => lv_lshl hX.1 hX.2.1 hd rfl (kk H locs ls hH hS hz hl)
theorem J_lshr {x : Int64} {y : Int32} (hX : gd X cc nL own ret) (hd : decode cc pc = .ok (.lshr, 1)) 
    (kk : Jd X nL (pc + 1) lv (.long (x >>> (y.toInt64 &&& 63)) :: rest) σ) : Jd X nL pc lv (.int y :: .long x :: rest) σ := fun H locs ls hH hS hz hl => lv_lshr hX.1 hX.2.1 hd rfl (kk H locs ls hH hS hz hl)
theorem J_i2l {x : Int32} (hX : gd X cc nL own ret) (hd : decode cc pc = .ok (.i2l, 1)) 
    (kk : Jd X nL (pc + 1) lv (.long x.toInt64 :: rest) σ) : Jd X nL pc lv (.int x :: rest) σ := fun H locs ls hH hS hz hl => lv_i2l hX.1 hX.2.1 hd rfl (kk H locs ls hH hS hz hl)
theorem J_l2i {x : Int64} (hX : gd X cc nL own ret) (hd : decode cc pc = .ok (.l2i, 1)) 
    (kk : Jd X nL (pc + 1) lv (.int x.toInt32 :: rest) σ) : Jd X nL pc lv (.long x :: rest) σ := fun H locs ls hH hS hz hl => lv_l2i hX.1 hX.2.1 hd rfl (kk H locs ls hH hS hz hl)
theorem J_i2b {x : Int32} (hX : gd X cc nL own ret) (hd : decode cc pc = .ok (.i2b, 1)) 
    (kk : Jd X nL (pc + 1) lv (.int x.toInt8.toInt32 :: rest) σ) : Jd X nL pc lv (.int x :: rest) σ := fun H locs ls hH hS hz hl => lv_i2b hX.1 hX.2.1 hd rfl (kk H locs ls hH hS hz hl)
theorem J_lcmp {x y : Int64} (hX : gd X cc nL own ret) (hd : decode cc pc = .ok (.lcmp, 1)) 
    (kk : Jd X nL (pc + 1) lv (.int (lg_cmp x y) :: rest) σ) : Jd X nL pc lv (.long y :: .long x :: rest) σ := fun H locs ls hH hS hz hl => W.lcmp hX.1 hX.2.1 hd  (kk H locs ls hH hS hz hl)
theorem J_dup {va : Value} (hX : gd X cc nL own ret) (hd : decode cc pc = .ok (.dup, 1)) (hva : va.category = 1)
    (kk : Jd X nL (pc + 1) lv (va :: va :: rest) σ) : Jd X nL pc lv (va :: rest) σ := fun H locs ls hH hS hz hl => lv_dup hX.1 hX.2.1 hd hva (kk H locs ls hH hS hz hl)
theorem J_dup2 {va vb : Value} (hX : gd X cc nL own ret) (hd : decode cc pc = .ok (.dup2, 1)) (hva : va.category = 1) (hvb : vb.category = 1)
    (kk : Jd X nL (pc + 1) lv (va :: vb :: va :: vb :: rest) σ) : Jd X nL pc lv (va :: vb :: rest) σ := fun H locs ls hH hS hz hl => lv_dup2_11 hX.1 hX.2.1 hd hva hvb (kk H locs ls hH hS hz hl)
theorem J_pop {va : Value} (hX : gd X cc nL own ret) (hd : decode cc pc = .ok (.pop, 1)) (hva : va.category = 1)
    (kk : Jd X nL (pc + 1) lv (rest) σ) : Jd X nL pc lv (va :: rest) σ := fun H locs ls hH hS hz hl => lv_pop hX.1 hX.2.1 hd hva (kk H locs ls hH hS hz hl)
theorem J_iload_n {k : Fin 4} {i q : Nat} {x : Int32} (hX : gd X cc nL own ret) (hd : decode cc pc = .ok (.iload_n k, 1)) (hi : (k : Nat) = i) (hg : lv[q]? = some (i, .int x))
    (kk : Jd X nL (pc + 1) lv (.int x :: rest) σ) : Jd X nL pc lv rest σ := fun H locs ls hH hS hz hl => lv_iload_n hX.1 hX.2.1 hd hi (lv_at hl q hg) (kk H locs ls hH hS hz hl)
theorem J_iload {i q : Nat} {x : Int32} (hX : gd X cc nL own ret) (hd : decode cc pc = .ok (.iload i, 2)) (hg : lv[q]? = some (i, .int x))
    (kk : Jd X nL (pc + 2) lv (.int x :: rest) σ) : Jd X nL pc lv rest σ := fun H locs ls hH hS hz hl => lv_iload hX.1 hX.2.1 hd (lv_at hl q hg) (kk H locs ls hH hS hz hl)
theorem J_istore_n {k : Fin 4} {i : Nat} {x v : Int32} {lv' : List (Nat × Value)} (hX : gd X cc nL own ret) (hd : decode cc pc = .ok (.istore_n k, 1)) (hi : (k : Nat) = i) (hn : i < nL) (hv : v = x) (hl : (i, Value.int v) :: lv.filter (fun q => !(q.1 == i) && !(q.1 + 1 == i && q.2.category == 2)) = lv')
    (kk : Jd X nL (pc + 1) lv' rest σ) : Jd X nL pc lv (.int x :: rest) σ := fun H locs ls hH hS hz h => by
  subst hv
  exact lv_istore_n hX.1 hX.2.1 hd hi h hn hl (fun ls' h' => kk H locs ls' hH hS hz h')
theorem J_istore {i : Nat} {x v : Int32} {lv' : List (Nat × Value)} (hX : gd X cc nL own ret) (hd : decode cc pc = .ok (.istore i, 2)) (hn : i < nL) (hv : v = x) (hl : (i, Value.int v) :: lv.filter (fun q => !(q.1 == i) && !(q.1 + 1 == i && q.2.category == 2)) = lv')
    (kk : Jd X nL (pc + 2) lv' rest σ) : Jd X nL pc lv (.int x :: rest) σ := fun H locs ls hH hS hz h => by
  subst hv
  exact lv_istore hX.1 hX.2.1 hd h hn hl (fun ls' h' => kk H locs ls' hH hS hz h')
theorem J_lload_n {k : Fin 4} {i q : Nat} {x : Int64} (hX : gd X cc nL own ret) (hd : decode cc pc = .ok (.lload_n k, 1)) (hi : (k : Nat) = i) (hg : lv[q]? = some (i, .long x))
    (kk : Jd X nL (pc + 1) lv (.long x :: rest) σ) : Jd X nL pc lv rest σ := fun H locs ls hH hS hz hl => lv_lload_n hX.1 hX.2.1 hd hi (lv_at hl q hg) (kk H locs ls hH hS hz hl)
theorem J_lload {i q : Nat} {x : Int64} (hX : gd X cc nL own ret) (hd : decode cc pc = .ok (.lload i, 2)) (hg : lv[q]? = some (i, .long x))
    (kk : Jd X nL (pc + 2) lv (.long x :: rest) σ) : Jd X nL pc lv rest σ := fun H locs ls hH hS hz hl => lv_lload hX.1 hX.2.1 hd (lv_at hl q hg) (kk H locs ls hH hS hz hl)
theorem J_lstore_n {k : Fin 4} {i : Nat} {x v : Int64} {lv' : List (Nat × Value)} (hX : gd X cc nL own ret) (hd : decode cc pc = .ok (.lstore_n k, 1)) (hi : (k : Nat) = i) (hn : i + 1 < nL) (hv : v = x) (hl : (i, Value.long v) :: lv.filter (fun q => !(q.1 == i) && (!(q.1 == i + 1) && !(q.1 + 1 == i && q.2.category == 2))) = lv')
    (kk : Jd X nL (pc + 1) lv' rest σ) : Jd X nL pc lv (.long x :: rest) σ := fun H locs ls hH hS hz h => by
  subst hv
  exact lv_lstore_n hX.1 hX.2.1 hd hi h hn hl (fun ls' h' => kk H locs ls' hH hS hz h')
theorem J_lstore {i : Nat} {x v : Int64} {lv' : List (Nat × Value)} (hX : gd X cc nL own ret) (hd : decode cc pc = .ok (.lstore i, 2)) (hn : i + 1 < nL) (hv : v = x) (hl : (i, Value.long v) :: lv.filter (fun q => !(q.1 == i) && (!(q.1 == i + 1) && !(q.1 + 1 == i && q.2.category == 2))) = lv')
    (kk : Jd X nL (pc + 2) lv' rest σ) : Jd X nL pc lv (.long x :: rest) σ := fun H locs ls hH hS hz h => by
  subst hv
  exact lv_lstore hX.1 hX.2.1 hd h hn hl (fun ls' h' => kk H locs ls' hH hS hz h')
theorem J_aload_n {k : Fin 4} {i q : Nat} {x : Nat} (hX : gd X cc nL own ret) (hd : decode cc pc = .ok (.aload_n k, 1)) (hi : (k : Nat) = i) (hg : lv[q]? = some (i, .ref x))
    (kk : Jd X nL (pc + 1) lv (.ref x :: rest) σ) : Jd X nL pc lv rest σ := fun H locs ls hH hS hz hl => lv_aload_n hX.1 hX.2.1 hd hi (lv_at hl q hg) (kk H locs ls hH hS hz hl)
theorem J_aload {i q : Nat} {x : Nat} (hX : gd X cc nL own ret) (hd : decode cc pc = .ok (.aload i, 2)) (hg : lv[q]? = some (i, .ref x))
    (kk : Jd X nL (pc + 2) lv (.ref x :: rest) σ) : Jd X nL pc lv rest σ := fun H locs ls hH hS hz hl => lv_aload hX.1 hX.2.1 hd (lv_at hl q hg) (kk H locs ls hH hS hz hl)
theorem J_astore_n {k : Fin 4} {i : Nat} {x v : Nat} {lv' : List (Nat × Value)} (hX : gd X cc nL own ret) (hd : decode cc pc = .ok (.astore_n k, 1)) (hi : (k : Nat) = i) (hn : i < nL) (hv : v = x) (hl : (i, Value.ref v) :: lv.filter (fun q => !(q.1 == i) && !(q.1 + 1 == i && q.2.category == 2)) = lv')
    (kk : Jd X nL (pc + 1) lv' rest σ) : Jd X nL pc lv (.ref x :: rest) σ := fun H locs ls hH hS hz h => by
  subst hv
  exact lv_astore_n hX.1 hX.2.1 hd hi h hn hl (fun ls' h' => kk H locs ls' hH hS hz h')
theorem J_astore {i : Nat} {x v : Nat} {lv' : List (Nat × Value)} (hX : gd X cc nL own ret) (hd : decode cc pc = .ok (.astore i, 2)) (hn : i < nL) (hv : v = x) (hl : (i, Value.ref v) :: lv.filter (fun q => !(q.1 == i) && !(q.1 + 1 == i && q.2.category == 2)) = lv')
    (kk : Jd X nL (pc + 2) lv' rest σ) : Jd X nL pc lv (.ref x :: rest) σ := fun H locs ls hH hS hz h => by
  subst hv
  exact lv_astore hX.1 hX.2.1 hd h hn hl (fun ls' h' => kk H locs ls' hH hS hz h')
theorem J_iinc {i q : Nat} {n : Int} {x v : Int32} {lv' : List (Nat × Value)} (hX : gd X cc nL own ret) (hd : decode cc pc = .ok (.iinc i n, 3)) (hg : lv[q]? = some (i, .int x)) (hv : v = x + Int32.ofInt n) (hn : i < nL) (hl : (i, Value.int v) :: lv.filter (fun q => !(q.1 == i) && !(q.1 + 1 == i && q.2.category == 2)) = lv')
    (kk : Jd X nL (pc + 3) lv' rest σ) : Jd X nL pc lv rest σ := fun H locs ls hH hS hz h => lv_iinc hX.1 hX.2.1 hd h hg hv.symm hn hl (fun ls' h' => kk H locs ls' hH hS hz h')
theorem J_sub {lv' : List (Nat × Value)} (ks : List Nat) (hl : lv_pick lv ks = lv') (kk : Jd X nL pc lv' rest σ) : Jd X nL pc lv rest σ := fun H locs ls hH hS hz h => kk H locs ls hH hS hz (lv_sub h ks hl)
theorem J_goto {off : Int} {tgt : Nat} (hX : gd X cc nL own ret) (hd : decode cc pc = .ok (.goto off, 3)) (ht : (pc : Int) + off = (tgt : Int)) (kk : Jd X nL tgt lv rest σ) : Jd X nL pc lv rest σ := fun H locs ls hH hS hz hl => lv_goto hX.1 hX.2.1 hd ht (kk H locs ls hH hS hz hl)
theorem J_eq {pc' : Nat} (h : pc = pc') (kk : Jd X nL pc' lv rest σ) : Jd X nL pc lv rest σ := h ▸ kk
theorem J_if_eq {x : Int32} {off : Int} {tgt : Nat} (hX : gd X cc nL own ret) (hd : decode cc pc = .ok (.ifCond .eq off, 3)) (ht : (pc : Int) + off = (tgt : Int)) (kt : x = 0 → Jd X nL tgt lv rest σ) (kf : ¬ (x = 0) → Jd X nL (pc + 3) lv rest σ) : Jd X nL pc lv (.int x :: rest) σ := fun H locs ls hH hS hz hl => lv_if_eq hX.1 hX.2.1 hd ht (fun h => kt h H locs ls hH hS hz hl) (fun h => kf h H locs ls hH hS hz hl)
theorem J_icmp_eq {x y : Int32} {off : Int} {tgt : Nat} (hX : gd X cc nL own ret) (hd : decode cc pc = .ok (.if_icmp .eq off, 3)) (ht : (pc : Int) + off = (tgt : Int)) (kt : x = y → Jd X nL tgt lv rest σ) (kf : ¬ (x = y) → Jd X nL (pc + 3) lv rest σ) : Jd X nL pc lv (.int y :: .int x :: rest) σ := fun H locs ls hH hS hz hl => lv_icmp_eq hX.1 hX.2.1 hd ht (fun h => kt h H locs ls hH hS hz hl) (fun h => kf h H locs ls hH hS hz hl)
theorem J_if_ne {x : Int32} {off : Int} {tgt : Nat} (hX : gd X cc nL own ret) (hd : decode cc pc = .ok (.ifCond .ne off, 3)) (ht : (pc : Int) + off = (tgt : Int)) (kt : ¬ x = 0 → Jd X nL tgt lv rest σ) (kf : x = 0 → Jd X nL (pc + 3) lv rest σ) : Jd X nL pc lv (.int x :: rest) σ := fun H locs ls hH hS hz hl => lv_if_ne hX.1 hX.2.1 hd ht (fun h => kt h H locs ls hH hS hz hl) (fun h => kf h H locs ls hH hS hz hl)
theorem J_icmp_ne {x y : Int32} {off : Int} {tgt : Nat} (hX : gd X cc nL own ret) (hd : decode cc pc = .ok (.if_icmp .ne off, 3)) (ht : (pc : Int) + off = (tgt : Int)) (kt : ¬ x = y → Jd X nL tgt lv rest σ) (kf : x = y → Jd X nL (pc + 3) lv rest σ) : Jd X nL pc lv (.int y :: .int x :: rest) σ := fun H locs ls hH hS hz hl => lv_icmp_ne hX.1 hX.2.1 hd ht (fun h => kt h H locs ls hH hS hz hl) (fun h => kf h H locs ls hH hS hz hl)
theorem J_if_lt {x : Int32} {off : Int} {tgt : Nat} (hX : gd X cc nL own ret) (hd : decode cc pc = .ok (.ifCond .lt off, 3)) (ht : (pc : Int) + off = (tgt : Int)) (kt : x < 0 → Jd X nL tgt lv rest σ) (kf : ¬ (x < 0) → Jd X nL (pc + 3) lv rest σ) : Jd X nL pc lv (.int x :: rest) σ := fun H locs ls hH hS hz hl => lv_if_lt hX.1 hX.2.1 hd ht (fun h => kt h H locs ls hH hS hz hl) (fun h => kf h H locs ls hH hS hz hl)
theorem J_icmp_lt {x y : Int32} {off : Int} {tgt : Nat} (hX : gd X cc nL own ret) (hd : decode cc pc = .ok (.if_icmp .lt off, 3)) (ht : (pc : Int) + off = (tgt : Int)) (kt : x < y → Jd X nL tgt lv rest σ) (kf : ¬ (x < y) → Jd X nL (pc + 3) lv rest σ) : Jd X nL pc lv (.int y :: .int x :: rest) σ := fun H locs ls hH hS hz hl => lv_icmp_lt hX.1 hX.2.1 hd ht (fun h => kt h H locs ls hH hS hz hl) (fun h => kf h H locs ls hH hS hz hl)
theorem J_if_ge {x : Int32} {off : Int} {tgt : Nat} (hX : gd X cc nL own ret) (hd : decode cc pc = .ok (.ifCond .ge off, 3)) (ht : (pc : Int) + off = (tgt : Int)) (kt : 0 ≤ x → Jd X nL tgt lv rest σ) (kf : ¬ (0 ≤ x) → Jd X nL (pc + 3) lv rest σ) : Jd X nL pc lv (.int x :: rest) σ := fun H locs ls hH hS hz hl => lv_if_ge hX.1 hX.2.1 hd ht (fun h => kt h H locs ls hH hS hz hl) (fun h => kf h H locs ls hH hS hz hl)
theorem J_icmp_ge {x y : Int32} {off : Int} {tgt : Nat} (hX : gd X cc nL own ret) (hd : decode cc pc = .ok (.if_icmp .ge off, 3)) (ht : (pc : Int) + off = (tgt : Int)) (kt : y ≤ x → Jd X nL tgt lv rest σ) (kf : ¬ (y ≤ x) → Jd X nL (pc + 3) lv rest σ) : Jd X nL pc lv (.int y :: .int x :: rest) σ := fun H locs ls hH hS hz hl => lv_icmp_ge hX.1 hX.2.1 hd ht (fun h => kt h H locs ls hH hS hz hl) (fun h => kf h H locs ls hH hS hz hl)
theorem J_if_gt {x : Int32} {off : Int} {tgt : Nat} (hX : gd X cc nL own ret) (hd : decode cc pc = .ok (.ifCond .gt off, 3)) (ht : (pc : Int) + off = (tgt : Int)) (kt : 0 < x → Jd X nL tgt lv rest σ) (kf : ¬ (0 < x) → Jd X nL (pc + 3) lv rest σ) : Jd X nL pc lv (.int x :: rest) σ := fun H locs ls hH hS hz hl => lv_if_gt hX.1 hX.2.1 hd ht (fun h => kt h H locs ls hH hS hz hl) (fun h => kf h H locs ls hH hS hz hl)
theorem J_icmp_gt {x y : Int32} {off : Int} {tgt : Nat} (hX : gd X cc nL own ret) (hd : decode cc pc = .ok (.if_icmp .gt off, 3)) (ht : (pc : Int) + off = (tgt : Int)) (kt : y < x → Jd X nL tgt lv rest σ) (kf : ¬ (y < x) → Jd X nL (pc + 3) lv rest σ) : Jd X nL pc lv (.int y :: .int x :: rest) σ := fun H locs ls hH hS hz hl => lv_icmp_gt hX.1 hX.2.1 hd ht (fun h => kt h H locs ls hH hS hz hl) (fun h => kf h H locs ls hH hS hz hl)
theorem J_if_le {x : Int32} {off : Int} {tgt : Nat} (hX : gd X cc nL own ret) (hd : decode cc pc = .ok (.ifCond .le off, 3)) (ht : (pc : Int) + off = (tgt : Int)) (kt : x ≤ 0 → Jd X nL tgt lv rest σ) (kf : ¬ (x ≤ 0) → Jd X nL (pc + 3) lv rest σ) : Jd X nL pc lv (.int x :: rest) σ := fun H locs ls hH hS hz hl => lv_if_le hX.1 hX.2.1 hd ht (fun h => kt h H locs ls hH hS hz hl) (fun h => kf h H locs ls hH hS hz hl)
theorem J_icmp_le {x y : Int32} {off : Int} {tgt : Nat} (hX : gd X cc nL own ret) (hd : decode cc pc = .ok (.if_icmp .le off, 3)) (ht : (pc : Int) + off = (tgt : Int)) (kt : x ≤ y → Jd X nL tgt lv rest σ) (kf : ¬ (x ≤ y) → Jd X nL (pc + 3) lv rest σ) : Jd X nL pc lv (.int y :: .int x :: rest) σ := fun H locs ls hH hS hz hl => lv_icmp_le hX.1 hX.2.1 hd ht (fun h => kt h H locs ls hH hS hz hl) (fun h => kf h H locs ls hH hS hz hl)
theorem J_get {i ci N k idx : Nat} {fk : Nat → Nat × Nat} {C : String} {T : u_T} {ty : Nat → FieldType} {v : Value} (hX : gd X cc nL own ret) (hq : isC (xw X) i (.inr (ci, N, fk))) (hc : clsOK ci C T N ty) (hk : k < N) (hlink : Cond.fieldLink own idx (T k).1 (T k).2.1 (T k).2.2.1 ∈ U0) (hv : fvl (xw X) σ i k (fk k) = v) (hd : decode cc pc = .ok (.getfield idx, 3))
    (kk : Jd X nL (pc + 3) lv (v :: rest) σ) : Jd X nL pc lv (.ref (wad (xw X) i) :: rest) σ := by
  intro H locs ls hH hS hz hl
  obtain ⟨hx, hb, -, ho, hu, -, hK, -⟩ := hX
  have he := wal_get (w := xw X) σ hq.1
  rw [cel_obj hq.2] at he
  exact va_get hx hb hu hc.2.1 ho hK hH.1 i he hc.1 k hk (hu _ hlink) (fun _ h9 => h9) (by rw [fields_get hk, hv]) hd (kk H locs ls hH hS hz hl)
theorem J_puti {i ci N k idx t : Nat} {fk : Nat → Nat × Nat} {C : String} {T : u_T} {ty : Nat → FieldType} {v : Int32} (hX : gd X cc nL own ret) (hq : isC (xw X) i (.inr (ci, N, fk))) (hc : clsOK ci C T N ty) (hk : k < N) (hlink : Cond.fieldLink own idx (T k).1 (T k).2.1 (T k).2.2.1 ∈ U0) (hf : fk k = (0, t)) (hfin : (T k).2.2.2 = false) (hty : narrow (ty k) (.int v) = .int v ∧ fits (ty k) (.int v) = true) (hd : decode cc pc = .ok (.putfield idx, 3))
    (kk : Jd X nL (pc + 3) lv rest (setI σ i k v)) : Jd X nL pc lv (.int v :: .ref (wad (xw X) i) :: rest) σ := by
  intro H locs ls hH hS hz hl
  obtain ⟨hx, hb, -, ho, hu, -, hK, -⟩ := hX
  have he := wal_get (w := xw X) σ hq.1
  rw [cel_obj hq.2] at he
  refine va_put hx hb hu hc.2.1 ty hc.2.2.1 hc.2.2.2 ho hK hH.1 hH.2 (va_S_hh hS) i he hc.1 k hk (hu _ hlink) (fun _ h9 => h9) hfin (hc.2.2.1 k hk) hty.1 hty.2 (by simpa using hk) hd (fun H1 locs1 hP1 hD1 hS1 => ?_)
  have e := wal_set (w := xw X) (σ := σ) (τ := setI σ i k v) hq.1 (cel_setI_obj (v := v) hq.2 hk hf) (fun j hj => cel_setR_ne σ _ hj) rfl
  rw [e] at hP1 hD1
  intro T hT XX
  have hup := stand_le XX
  rw [hT] at hup
  have hlo := hS1.1
  exact kk H1 locs1 ls ⟨hP1, hD1⟩ (va_S_tr hS hS1) (Nat.le_antisymm hup (by rw [hz] at hlo; exact hlo)) hl T hT XX
theorem J_putl {i ci N k idx t : Nat} {fk : Nat → Nat × Nat} {C : String} {T : u_T} {ty : Nat → FieldType} {v : Int64} (hX : gd X cc nL own ret) (hq : isC (xw X) i (.inr (ci, N, fk))) (hc : clsOK ci C T N ty) (hk : k < N) (hlink : Cond.fieldLink own idx (T k).1 (T k).2.1 (T k).2.2.1 ∈ U0) (hf : fk k = (1, t)) (hfin : (T k).2.2.2 = false) (hty : narrow (ty k) (.long v) = .long v ∧ fits (ty k) (.long v) = true) (hd : decode cc pc = .ok (.putfield idx, 3))
    (kk : Jd X nL (pc + 3) lv rest (setJ σ i k v)) : Jd X nL pc lv (.long v :: .ref (wad (xw X) i) :: rest) σ := by
  intro H locs ls hH hS hz hl
  obtain ⟨hx, hb, -, ho, hu, -, hK, -⟩ := hX
  have he := wal_get (w := xw X) σ hq.1
  rw [cel_obj hq.2] at he
  refine va_put hx hb hu hc.2.1 ty hc.2.2.1 hc.2.2.2 ho hK hH.1 hH.2 (va_S_hh hS) i he hc.1 k hk (hu _ hlink) (fun _ h9 => h9) hfin (hc.2.2.1 k hk) hty.1 hty.2 (by simpa using hk) hd (fun H1 locs1 hP1 hD1 hS1 => ?_)
  have e := wal_set (w := xw X) (σ := σ) (τ := setJ σ i k v) hq.1 (cel_setJ_obj (v := v) hq.2 hk hf) (fun j hj => cel_setL_ne σ _ hj) rfl
  rw [e] at hP1 hD1
  intro T hT XX
  have hup := stand_le XX
  rw [hT] at hup
  have hlo := hS1.1
  exact kk H1 locs1 ls ⟨hP1, hD1⟩ (va_S_tr hS hS1) (Nat.le_antisymm hup (by rw [hz] at hlo; exact hlo)) hl T hT XX
/-- a reference is put: a constant's or a law's -/
theorem J_putr {i ci N k idx d : Nat} {fk : Nat → Nat × Nat} {C : String} {T : u_T} {ty : Nat → FieldType} {a : Nat} (hX : gd X cc nL own ret) (hq : isC (xw X) i (.inr (ci, N, fk))) (hc : clsOK ci C T N ty) (hk : k < N) (hlink : Cond.fieldLink own idx (T k).1 (T k).2.1 (T k).2.2.1 ∈ U0) (hf : fvl (xw X) (setP σ i k d) i k (fk k) = .ref a) (hfin : (T k).2.2.2 = false) (hty : narrow (ty k) (.ref a) = .ref a ∧ fits (ty k) (.ref a) = true) (hd : decode cc pc = .ok (.putfield idx, 3))
    (kk : Jd X nL (pc + 3) lv rest (setP σ i k d)) : Jd X nL pc lv (.ref a :: .ref (wad (xw X) i) :: rest) σ := by
  intro H locs ls hH hS hz hl
  obtain ⟨hx, hb, -, ho, hu, -, hK, -⟩ := hX
  have he := wal_get (w := xw X) σ hq.1
  rw [cel_obj hq.2] at he
  refine va_put hx hb hu hc.2.1 ty hc.2.2.1 hc.2.2.2 ho hK hH.1 hH.2 (va_S_hh hS) i he hc.1 k hk (hu _ hlink) (fun _ h9 => h9) hfin (hc.2.2.1 k hk) hty.1 hty.2 (by simpa using hk) hd (fun H1 locs1 hP1 hD1 hS1 => ?_)
  have e := wal_set (w := xw X) (σ := σ) (τ := setP σ i k d) hq.1 (cel_setP_obj hq.2 hk hf) (fun j hj => cel_setP_ne σ _ hj) rfl
  rw [e] at hP1 hD1
  intro T hT XX
  have hup := stand_le XX
  rw [hT] at hup
  have hlo := hS1.1
  exact kk H1 locs1 ls ⟨hP1, hD1⟩ (va_S_tr hS hS1) (Nat.le_antisymm hup (by rw [hz] at hlo; exact hlo)) hl T hT XX
theorem J_iald {i n : Nat} {j : Int32} (hX : gd X cc nL own ret) (hq : isC (xw X) i (.inl (0, n))) (hin : vp_in j n) (hd : decode cc pc = .ok (.iaload, 1))
    (kk : Jd X nL (pc + 1) lv (.int (σ.1 i j.toNatClampNeg) :: rest) σ) : Jd X nL pc lv (.int j :: .ref (wad (xw X) i) :: rest) σ := by
  intro H locs ls hH hS hz hl
  have he := wal_get (w := xw X) σ hq.1
  rw [cel_arr hq.2] at he
  exact va_iald hX.1 hX.2.1 hX.2.2.2.2.2.2.1 hH.1 i 0 he rfl hin hd (kk H locs ls hH hS hz hl)
theorem J_bald {i n : Nat} {j : Int32} (hX : gd X cc nL own ret) (hq : isC (xw X) i (.inl (2, n))) (hin : vp_in j n) (hd : decode cc pc = .ok (.baload, 1))
    (kk : Jd X nL (pc + 1) lv (.int (σ.1 i j.toNatClampNeg) :: rest) σ) : Jd X nL pc lv (.int j :: .ref (wad (xw X) i) :: rest) σ := by
  intro H locs ls hH hS hz hl
  have he := wal_get (w := xw X) σ hq.1
  rw [cel_arr hq.2] at he
  exact va_bald hX.1 hX.2.1 hX.2.2.2.2.2.2.1 hH.1 i 2 he rfl hin hd (kk H locs ls hH hS hz hl)
theorem J_zald {i n : Nat} {j : Int32} (hX : gd X cc nL own ret) (hq : isC (xw X) i (.inl (3, n))) (hin : vp_in j n) (hd : decode cc pc = .ok (.baload, 1))
    (kk : Jd X nL (pc + 1) lv (.int (σ.1 i j.toNatClampNeg) :: rest) σ) : Jd X nL pc lv (.int j :: .ref (wad (xw X) i) :: rest) σ := by
  intro H locs ls hH hS hz hl
  have he := wal_get (w := xw X) σ hq.1
  rw [cel_arr hq.2] at he
  exact va_zald hX.1 hX.2.1 hX.2.2.2.2.2.2.1 hH.1 i 3 he rfl hin hd (kk H locs ls hH hS hz hl)
theorem J_lald {i n : Nat} {j : Int32} (hX : gd X cc nL own ret) (hq : isC (xw X) i (.inl (1, n))) (hin : vp_in j n) (hd : decode cc pc = .ok (.laload, 1))
    (kk : Jd X nL (pc + 1) lv (.long (σ.2.1 i j.toNatClampNeg) :: rest) σ) : Jd X nL pc lv (.int j :: .ref (wad (xw X) i) :: rest) σ := by
  intro H locs ls hH hS hz hl
  have he := wal_get (w := xw X) σ hq.1
  rw [cel_arr hq.2] at he
  exact va_lald hX.1 hX.2.1 hX.2.2.2.2.2.2.1 hH.1 i 1 he rfl hin hd (kk H locs ls hH hS hz hl)
theorem J_aald {i n : Nat} {j : Int32} (hX : gd X cc nL own ret) (hq : isC (xw X) i (.inl (4, n))) (hin : vp_in j n) (hd : decode cc pc = .ok (.aaload, 1))
    (kk : Jd X nL (pc + 1) lv (.ref (wad (xw X) ((xw X).1.2.2 j.toNatClampNeg)) :: rest) σ) : Jd X nL pc lv (.int j :: .ref (wad (xw X) i) :: rest) σ := by
  intro H locs ls hH hS hz hl
  have he := wal_get (w := xw X) σ hq.1
  rw [cel_arr hq.2] at he
  exact va_aldq hX.1 hX.2.1 hX.2.2.2.2.2.2.1 hH.1 i 4 he rfl hin hd (kk H locs ls hH hS hz hl)
theorem J_iast {i n : Nat} {j : Int32} {x : Int32} (hX : gd X cc nL own ret) (hq : isC (xw X) i (.inl (0, n))) (hin : vp_in j n) (hd : decode cc pc = .ok (.iastore, 1))
    (kk : Jd X nL (pc + 1) lv rest (setI σ i j.toNatClampNeg x)) : Jd X nL pc lv (.int x :: .int j :: .ref (wad (xw X) i) :: rest) σ := by
  intro H locs ls hH hS hz hl
  have he := wal_get (w := xw X) σ hq.1
  rw [cel_arr hq.2] at he
  refine va_iast hX.1 hX.2.1 hX.2.2.2.2.2.2.1 hH.1 hH.2 (va_S_hh hS) i 0 he rfl hin hd (fun H1 locs1 hP1 hD1 hS1 => ?_)
  have e := wal_set (w := xw X) (σ := σ) (τ := setI σ i j.toNatClampNeg x) (e := .inl (wcT (xw X) 0, n, .inl (upd (σ.1 i) j.toNatClampNeg x))) hq.1 (by rw [cel_arr hq.2]; show (Sum.inl (_, _, Sum.inl ((setI σ i _ _).1 i)) : va_E) = _; rw [setI_same]) (fun k hk => cel_setR_ne σ _ hk) rfl
  rw [e] at hP1 hD1
  intro T hT XX
  have hup := stand_le XX
  rw [hT] at hup
  have hlo := hS1.1
  exact kk H1 locs1 ls ⟨hP1, hD1⟩ (va_S_tr hS hS1) (Nat.le_antisymm hup (by rw [hz] at hlo; exact hlo)) hl T hT XX
theorem J_bast {i n : Nat} {j : Int32} {x : Int32} (hX : gd X cc nL own ret) (hq : isC (xw X) i (.inl (2, n))) (hin : vp_in j n) (hd : decode cc pc = .ok (.bastore, 1))
    (kk : Jd X nL (pc + 1) lv rest (setI σ i j.toNatClampNeg (vp_nar .byte x))) : Jd X nL pc lv (.int x :: .int j :: .ref (wad (xw X) i) :: rest) σ := by
  intro H locs ls hH hS hz hl
  have he := wal_get (w := xw X) σ hq.1
  rw [cel_arr hq.2] at he
  refine va_bast hX.1 hX.2.1 hX.2.2.2.2.2.2.1 hH.1 hH.2 (va_S_hh hS) i 2 he rfl hin hd (fun H1 locs1 hP1 hD1 hS1 => ?_)
  have e := wal_set (w := xw X) (σ := σ) (τ := setI σ i j.toNatClampNeg (vp_nar .byte x)) (e := .inl (wcT (xw X) 2, n, .inl (upd (σ.1 i) j.toNatClampNeg (vp_nar .byte x)))) hq.1 (by rw [cel_arr hq.2]; show (Sum.inl (_, _, Sum.inl ((setI σ i _ _).1 i)) : va_E) = _; rw [setI_same]) (fun k hk => cel_setR_ne σ _ hk) rfl
  rw [e] at hP1 hD1
  intro T hT XX
  have hup := stand_le XX
  rw [hT] at hup
  have hlo := hS1.1
  exact kk H1 locs1 ls ⟨hP1, hD1⟩ (va_S_tr hS hS1) (Nat.le_antisymm hup (by rw [hz] at hlo; exact hlo)) hl T hT XX
theorem J_zast {i n : Nat} {j : Int32} {x : Int32} (hX : gd X cc nL own ret) (hq : isC (xw X) i (.inl (3, n))) (hin : vp_in j n) (hd : decode cc pc = .ok (.bastore, 1))
    (kk : Jd X nL (pc + 1) lv rest (setI σ i j.toNatClampNeg (vp_nar .boolean x))) : Jd X nL pc lv (.int x :: .int j :: .ref (wad (xw X) i) :: rest) σ := by
  intro H locs ls hH hS hz hl
  have he := wal_get (w := xw X) σ hq.1
  rw [cel_arr hq.2] at he
  refine va_zast hX.1 hX.2.1 hX.2.2.2.2.2.2.1 hH.1 hH.2 (va_S_hh hS) i 3 he rfl hin hd (fun H1 locs1 hP1 hD1 hS1 => ?_)
  have e := wal_set (w := xw X) (σ := σ) (τ := setI σ i j.toNatClampNeg (vp_nar .boolean x)) (e := .inl (wcT (xw X) 3, n, .inl (upd (σ.1 i) j.toNatClampNeg (vp_nar .boolean x)))) hq.1 (by rw [cel_arr hq.2]; show (Sum.inl (_, _, Sum.inl ((setI σ i _ _).1 i)) : va_E) = _; rw [setI_same]) (fun k hk => cel_setR_ne σ _ hk) rfl
  rw [e] at hP1 hD1
  intro T hT XX
  have hup := stand_le XX
  rw [hT] at hup
  have hlo := hS1.1
  exact kk H1 locs1 ls ⟨hP1, hD1⟩ (va_S_tr hS hS1) (Nat.le_antisymm hup (by rw [hz] at hlo; exact hlo)) hl T hT XX
theorem J_last {i n : Nat} {j : Int32} {x : Int64} (hX : gd X cc nL own ret) (hq : isC (xw X) i (.inl (1, n))) (hin : vp_in j n) (hd : decode cc pc = .ok (.lastore, 1))
    (kk : Jd X nL (pc + 1) lv rest (setJ σ i j.toNatClampNeg x)) : Jd X nL pc lv (.long x :: .int j :: .ref (wad (xw X) i) :: rest) σ := by
  intro H locs ls hH hS hz hl
  have he := wal_get (w := xw X) σ hq.1
  rw [cel_arr hq.2] at he
  refine va_last hX.1 hX.2.1 hX.2.2.2.2.2.2.1 hH.1 hH.2 (va_S_hh hS) i 1 he rfl hin hd (fun H1 locs1 hP1 hD1 hS1 => ?_)
  have e := wal_set (w := xw X) (σ := σ) (τ := setJ σ i j.toNatClampNeg x) (e := .inl (wcT (xw X) 1, n, .inr (.inl (vp_updL (σ.2.1 i) j.toNatClampNeg x)))) hq.1 (by rw [cel_arr hq.2]; show (Sum.inl (_, _, Sum.inr (Sum.inl ((setJ σ i _ _).2.1 i))) : va_E) = _; rw [setJ_same]) (fun k hk => cel_setL_ne σ _ hk) rfl
  rw [e] at hP1 hD1
  intro T hT XX
  have hup := stand_le XX
  rw [hT] at hup
  have hlo := hS1.1
  exact kk H1 locs1 ls ⟨hP1, hD1⟩ (va_S_tr hS hS1) (Nat.le_antisymm hup (by rw [hz] at hlo; exact hlo)) hl T hT XX
theorem J_alen {i n ty : Nat} {ft : FieldType} {v : Int32} (hX : gd X cc nL own ret) (hq : isC (xw X) i (.inl (ty, n))) (ht : (wtys (xw X))[ty]? = some (wcT (xw X) ty, ft)) (hv : Int32.ofNat n = v) (hd : decode cc pc = .ok (.arraylength, 1))
    (kk : Jd X nL (pc + 1) lv (.int v :: rest) σ) : Jd X nL pc lv (.ref (wad (xw X) i) :: rest) σ := by
  intro H locs ls hH hS hz hl
  have he := wal_get (w := xw X) σ hq.1
  rw [cel_arr hq.2] at he
  exact va_alen hX.1 hX.2.1 hX.2.2.2.2.2.2.1 hH.1 i ty he ht hv hd (kk H locs ls hH hS hz hl)
theorem J_iret {v : Int32} (hX : gd X cc nL own (some .int)) (hr : xr X = (some (.int v), σ)) (hd : decode cc pc = .ok (.ireturn, 1)) : Jd X nL pc lv [.int v] σ := by
  intro H locs ls hH hS hz hl
  have hg := hX.2.2.2.2.2.2.2.2.2.2.2
  refine W_imp hg.2.2 ?_
  rw [hr] at hg
  refine W.widen hg.1.1 hg.2.1 ?_
  exact W.iret hX.1 hX.2.1 hX.2.2.2.2.2.2.2.2.2.2.1 (fun t ht hW => ⟨by rw [hr], by rw [hr]; exact Wd_of hX hH hS ht hW, hS.F ht, fun hq => by rw [ht, hz, ← hg.1.2 hq]⟩) hS.2.2 hd (hlocks := hX.2.2.2.2.2.2.2.2.2.1)
theorem J_lret {v : Int64} (hX : gd X cc nL own (some .long)) (hr : xr X = (some (.long v), σ)) (hd : decode cc pc = .ok (.lreturn, 1)) : Jd X nL pc lv [.long v] σ := by
  intro H locs ls hH hS hz hl
  have hg := hX.2.2.2.2.2.2.2.2.2.2.2
  refine W_imp hg.2.2 ?_
  rw [hr] at hg
  refine W.widen hg.1.1 hg.2.1 ?_
  exact W.lret hX.1 hX.2.1 hX.2.2.2.2.2.2.2.2.2.2.1 (fun t ht hW => ⟨by rw [hr], by rw [hr]; exact Wd_of hX hH hS ht hW, hS.F ht, fun hq => by rw [ht, hz, ← hg.1.2 hq]⟩) hS.2.2 hd (hlocks := hX.2.2.2.2.2.2.2.2.2.1)
theorem J_zret {v : Int32} (hX : gd X cc nL own (some .boolean)) (hv : v = 0 ∨ v = 1) (hr : xr X = (some (.int v), σ)) (hd : decode cc pc = .ok (.ireturn, 1)) : Jd X nL pc lv [.int v] σ := by
  intro H locs ls hH hS hz hl
  have hg := hX.2.2.2.2.2.2.2.2.2.2.2
  refine W_imp hg.2.2 ?_
  rw [hr] at hg
  refine W.widen hg.1.1 hg.2.1 ?_
  exact W.zret hX.1 hX.2.1 hX.2.2.2.2.2.2.2.2.2.2.1 (by rcases hv with rfl | rfl <;> rfl) (fun t ht hW => ⟨by rw [hr], by rw [hr]; exact Wd_of hX hH hS ht hW, hS.F ht, fun hq => by rw [ht, hz, ← hg.1.2 hq]⟩) hS.2.2 hd (hlocks := hX.2.2.2.2.2.2.2.2.2.1)
theorem J_vret (hX : gd X cc nL own none) (hr : xr X = (none, σ)) (hd : decode cc pc = .ok (.return_, 1)) : Jd X nL pc lv [] σ := by
  intro H locs ls hH hS hz hl
  have hg := hX.2.2.2.2.2.2.2.2.2.2.2
  refine W_imp hg.2.2 ?_
  rw [hr] at hg
  refine W.widen hg.1.1 hg.2.1 ?_
  exact W.vret hX.1 hX.2.1 hX.2.2.2.2.2.2.2.2.2.2.1 (fun t ht hW => ⟨by rw [hr], by rw [hr]; exact Wd_of hX hH hS ht hW, hS.F ht, fun hq => by rw [ht, hz, ← hg.1.2 hq]⟩) hS.2.2 hd (hlocks := hX.2.2.2.2.2.2.2.2.2.1)
end JR
