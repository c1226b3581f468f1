/-! constructors: worlds as lists of cells that grow -/
def NestL : List Cond := [(Jvm.Cond.methodLinkNest "SkinCarriers" (11 : Nat) ({ cls := "SkinCarriers$Tape", name := "<init>", desc := "()V" } : Jvm.MethodName) "SkinCarriers"), (Jvm.Cond.methodLinkNest "SkinCarriers$Reader" (20 : Nat) ({ cls := "SkinCarriers$Mountain", name := "<init>", desc := "()V" } : Jvm.MethodName) "SkinCarriers"), (Jvm.Cond.methodLinkNest "SkinCarriers" (27 : Nat) ({ cls := "SkinCarriers$Mountain", name := "<init>", desc := "()V" } : Jvm.MethodName) "SkinCarriers"), (Jvm.Cond.methodLinkNest "SkinCarriers" (34 : Nat) ({ cls := "SkinCarriers$Day", name := "<init>", desc := "()V" } : Jvm.MethodName) "SkinCarriers"), (Jvm.Cond.methodLinkNest "SkinCarriers" (41 : Nat) ({ cls := "SkinCarriers$Routes", name := "<init>", desc := "()V" } : Jvm.MethodName) "SkinCarriers"), (Jvm.Cond.methodLinkNest "SkinCarriers" (73 : Nat) ({ cls := "SkinCarriers$Sets", name := "<init>", desc := "()V" } : Jvm.MethodName) "SkinCarriers")]
def NOK (U : State) : Prop := (∀ w ∈ NestL, va_Nw w U) ∧ va_AO "SkinCarriers$Day" U
theorem NOK_warm {s U : State} (hW : s.WarmedH U.vm) (h : NOK s) : NOK U := by
  refine ⟨fun w hw => ?_, va_AO.moved hW.alike h.2⟩
  have h1 := h.1 w hw
  simp only [NestL, List.mem_cons, List.not_mem_nil, or_false] at hw
  rcases hw with rfl | rfl | rfl | rfl | rfl | rfl <;> exact va_Nw.warmM hW h1
theorem xSxW_warm {ad : Nat → Nat} {A : Nat → Prop} {u U : State} {H : Heap} {k : Nat} (hW : u.WarmedH U.vm) (h : xSxW ad A u H k) : xSxW ad A U H k := by
  obtain ⟨a1, a2, a3, a4, a5, a6, a7, a8, a9⟩ := h
  have hv := hW.alike
  exact ⟨a1.moved hv, a2.moved hv, a3.moved hv, a4.moved hv, a5.moved hv, a6.moved hv, a7.moved hv, a8.moved hv, a9.moved hv⟩
theorem xSxW_kept {ad : Nat → Nat} {A : Nat → Prop} {U : State} {H H1 : Heap} {k : Nat} (h : xSxW ad A U H k) (hq : ∀ a : Nat, a < H.size → ¬ A a → H1[a]? = H[a]?) : xSxW ad A U H1 k := by
  obtain ⟨a1, a2, a3, a4, a5, a6, a7, a8, a9⟩ := h
  exact ⟨a1.kept hq, a2.kept hq, a3.kept hq, a4.kept hq, a5.kept hq, a6.kept hq, a7.kept hq, a8.kept hq, a9.kept hq⟩
theorem xSxW_narrow {ad : Nat → Nat} {A B : Nat → Prop} {U : State} {H : Heap} {k : Nat} (h : xSxW ad A U H k) (hAB : ∀ q, B q → A q) : xSxW ad B U H k := by
  obtain ⟨a1, a2, a3, a4, a5, a6, a7, a8, a9⟩ := h
  exact ⟨a1.narrow hAB, a2.narrow hAB, a3.narrow hAB, a4.narrow hAB, a5.narrow hAB, a6.narrow hAB, a7.narrow hAB, a8.narrow hAB, a9.narrow hAB⟩
theorem xSxT_warm {A : Nat → Prop} {u U : State} {H : Heap} (hW : u.WarmedH U.vm) (h : xSxT A u H) : xSxT A U H := by
  obtain ⟨⟨a, a1⟩, ⟨b, a2⟩, a3, a4, a5, a6, a7, a8⟩ := h
  exact ⟨⟨a, vk_R.warm hW a1⟩, ⟨b, vk_R.warm hW a2⟩, a3.moved hW.alike, a4.moved hW.alike, va_Nw.warmC hW a5, va_Nw.warmD hW a6, va_Nw.warmD hW a7, va_Nw.warmD hW a8⟩
theorem xSxT_kept {A : Nat → Prop} {U : State} {H H1 : Heap} (h : xSxT A U H) (hq : ∀ a : Nat, a < H.size → ¬ A a → H1[a]? = H[a]?) : xSxT A U H1 := by
  obtain ⟨a1, a2, a3, a4, a5⟩ := h
  exact ⟨a1, a2, a3.kept hq, a4.kept hq, a5⟩
theorem xSxT_narrow {A B : Nat → Prop} {U : State} {H : Heap} (h : xSxT A U H) (hAB : ∀ q, B q → A q) : xSxT B U H := by
  obtain ⟨a1, a2, a3, a4, a5⟩ := h
  exact ⟨a1, a2, a3.narrow hAB, a4.narrow hAB, a5⟩
abbrev SOK : (Nat → Nat) → (Nat × Nat) → (Nat → Prop) → State → Heap → Prop := xSx
theorem SOK_warm {ad : Nat → Nat} {pp : Nat × Nat} {A : Nat → Prop} {u U : State} {H : Heap} (hW : u.WarmedH U.vm) (h : SOK ad pp A u H) : SOK ad pp A U H := by
  obtain ⟨a1, a2, a3, a4, a5, a6, a7, a8, a9, a10, a11⟩ := h
  have hv := hW.alike
  exact ⟨fun k hk => xSxW_warm hW (a1 k hk), a2, a3.moved hv, a4.moved hv, a5.moved hv, a6.moved hv, a7.moved hv, a8.moved hv, a9.moved hv, a10.moved hv, xSxT_warm hW a11⟩
theorem SOK_kept {ad : Nat → Nat} {pp : Nat × Nat} {A : Nat → Prop} {U : State} {H H1 : Heap} (h : SOK ad pp A U H) (hq : ∀ a : Nat, a < H.size → ¬ A a → H1[a]? = H[a]?) : SOK ad pp A U H1 := by
  obtain ⟨a1, a2, a3, a4, a5, a6, a7, a8, a9, a10, a11⟩ := h
  exact ⟨fun k hk => xSxW_kept (a1 k hk) hq, a2, a3.kept hq, a4.kept hq, a5.kept hq, a6.kept hq, a7.kept hq, a8.kept hq, a9.kept hq, a10.kept hq, xSxT_kept a11 hq⟩
theorem SOK_narrow {ad : Nat → Nat} {pp : Nat × Nat} {A B : Nat → Prop} {U : State} {H : Heap} (h : SOK ad pp A U H) (hAB : ∀ q, B q → A q) : SOK ad pp B U H := by
  obtain ⟨a1, a2, a3, a4, a5, a6, a7, a8, a9, a10, a11⟩ := h
  exact ⟨fun k hk => xSxW_narrow (a1 k hk) hAB, a2, a3.narrow hAB, a4.narrow hAB, a5.narrow hAB, a6.narrow hAB, a7.narrow hAB, a8.narrow hAB, a9.narrow hAB, a10.narrow hAB, xSxT_narrow a11 hAB⟩
abbrev tysL (cT : Nat → ClassId) : List (ClassId × FieldType) := [(cT 0, .int), (cT 1, .long), (cT 2, .byte), (cT 3, .boolean), (cT 4, .object "SkinCarriers$Day")]
def gL (X : CX) (cc : ByteArray) (nL : Nat) (own : String) : Prop := (xp X).tables.exec = Jvm.exec ∧ (xc X).code = cc ∧ (xc X).maxLocals = nL ∧ (xs X).vm.findClass own = some (xm X).cls ∧ (∀ w ∈ U0, w.before (xa X) (xs X) = true) ∧ va_K (wD (xw X)) vwCl (tysL (wcT (xw X))) (xs X) ∧ (∀ q, (xs X).heap.size ≤ q → wReg (xw X) q) ∧ ((xme X).name = "<init>" ∨ own = "SkinCarriersLaw") ∧ (xme X).locks = false ∧ ((xme X).sig.returnType = none ∨ own = "SkinCarriersLaw") ∧ NOK (xs X) ∧ SOK (wadW (xw X)) (wSt2 (xw X)) (wReg (xw X)) (xs X) (xs X).heap
def Lj (X : CX) (nL pc : Nat) (lv : List (Nat × Value)) (st : List Value) (ws : va_W) (k n : Nat) : Prop := ∀ (H : Heap) (locs : List Loc) (ls : Array Slot), va_P (wD (xw X)) vwCl ws H → va_D (wReg (xw X)) ws → va_S (wReg (xw X)) (xs X).heap H locs → lv_has ls nL lv →
  W (xp X) (xl X) (xe X) (xR X) (xs X) (xm X) (xa X) (xb X) (xme X) (xc X) H locs k n (xQ X) (F0 (xm X) pc ls st)
def QcL (D : va_G) (ws1 : List Nat → va_W) (A : Nat → Prop) : Array Value → State → Outcome → State → Prop := va_Qv (fun _ : List Nat => True) (fun qs t => va_P D vwCl (ws1 qs) t.heap ∧ va_D A (ws1 qs)) A
def PcL (D : va_G) (cT : Nat → ClassId) (ad : Nat → Nat) (pp : Nat × Nat) (ws0 : va_W) (sz : Nat) (U : State) : Prop := U.heap.size = sz ∧ va_P D vwCl ws0 U.heap ∧ va_K D vwCl (tysL cT) U ∧ va_D (fun _ => True) ws0 ∧ NOK U ∧ SOK ad pp (va_A ws0 sz) U U.heap
def CtL (y : MethodName) (cc : ByteArray) (nL f lo : Nat) (D : va_G) (cT : Nat → ClassId) (ad : Nat → Nat) (pp : Nat × Nat) (avs : List Value) (ws0 : va_W) (ws1 : List Nat → va_W) (mc ms : Nat) : Prop :=
  ∀ (l : Launch) (sz : Nat), Met l y (.code y cc nL none :: U0) (rmOf f lo mc ms) (va_Pc avs (PcL D cT ad pp ws0 sz)) (QcL D ws1 (va_A ws0 sz)) mc ms (va_A ws0 sz)
theorem CtL_intro {y : MethodName} {cc : ByteArray} {nL f lo : Nat} {D : va_G} {cT : Nat → ClassId} {ad : Nat → Nat} {pp : Nat × Nat} {avs : List Value} {ws0 : va_W} {ws1 : List Nat → va_W} {mc ms : Nat} (hy : plainName y.cls = true) (hn : y.name = "<init>") (hlen : (lg_sl avs).length ≤ nL)
    (body : ∀ X : CX, gL X cc nL y.cls → xR X = rmOf f lo mc ms → wD (xw X) = D → wcT (xw X) = cT → wadW (xw X) = ad → wSt2 (xw X) = pp → xQ X = MQ (xb X) (QcL D ws1 (wReg (xw X))) (xa X) (xs X) mc ms (wReg (xw X)) → Lj X nL 0 (lv_args 0 avs) [] ws0 0 0) : CtL y cc nL f lo D cT ad pp avs ws0 ws1 mc ms := by
  intro l sz
  refine Met.ofW (cc := cc) (maxL := nL) (ret := none) hy rfl ?_
  intro p e s m args below meth c s₁ B hml hv
  obtain ⟨rfl, hsz, hP, hK, hD, hN, hS⟩ := hv
  subst hsz
  have hts := atoms_spec (ws := .code y cc nL none :: U0) B.pre
  have hnm : meth.name = "<init>" := ((name_of_methodNamed B.named B.method).1).trans hn
  have hX : gL (p, l, e, rmOf f lo mc ms, s, m, avs.toArray, below, meth, c, ((0, fun _ => .inl (0, 0), fun _ => 0), D, (fun _ => 0), cT, ad, pp, va_A ws0 s.heap.size, 0, fun _ _ => True), (fun _ => (0, 0)), (none, (fun _ _ => 0), (fun _ _ => 0), (fun _ _ => 0), []), (mc, ms, true), MQ below (QcL D ws1 (va_A ws0 s.heap.size)) avs.toArray s mc ms (va_A ws0 s.heap.size)) cc nL y.cls :=
    ⟨B.exec, B.bytes, hml, findClass_of_methodNamed B.named, fun w hw => hts w (List.mem_cons_of_mem _ hw), hK, fun q hq => Or.inr hq, Or.inl hnm, B.notSynchronized, Or.inl B.returns, hN, hS⟩
  have h := body _ hX rfl rfl rfl rfl rfl rfl s.heap [] _ hP (hD.self (sz := s.heap.size)) va_S.rf (lv_entry avs hlen)
  rw [lg_entry_eq]
  exact h
section LR
variable {X : CX} {cc : ByteArray} {nL : Nat} {own : String} {pc : Nat} {lv : List (Nat × Value)} {rest st0 : List Value} {ws ws' : va_W} {k n : Nat}
theorem L_iconst {i : Int} {v : Int32} (hX : gL X cc nL own) (hd : decode cc pc = .ok (.iconst i, 1)) (hv : Int32.ofInt i = v) (kk : Lj X nL (pc + 1) lv (.int v :: rest) ws k n) : Lj X nL pc lv rest ws k n := fun H locs ls hP hD hS hl => lv_iconst hX.1 hX.2.1 hd hv (kk H locs ls hP hD hS hl)
theorem L_bipush {i : Int} {v : Int32} (hX : gL X cc nL own) (hd : decode cc pc = .ok (.bipush i, 2)) (hv : (Int8.ofInt i).toInt32 = v) (kk : Lj X nL (pc + 2) lv (.int v :: rest) ws k n) : Lj X nL pc lv rest ws k n := fun H locs ls hP hD hS hl => lv_bipush hX.1 hX.2.1 hd hv (kk H locs ls hP hD hS hl)
theorem L_sipush {i : Int} {v : Int32} (hX : gL X cc nL own) (hd : decode cc pc = .ok (.sipush i, 3)) (hv : (Int16.ofInt i).toInt32 = v) (kk : Lj X nL (pc + 3) lv (.int v :: rest) ws k n) : Lj X nL pc lv rest ws k n := fun H locs ls hP hD hS hl => lv_sipush hX.1 hX.2.1 hd hv (kk H locs ls hP hD hS hl)
theorem L_ldc2 {v : Int64} {idx : Nat} (hX : gL X cc nL own) (hc : Cond.constantLong own idx v ∈ U0) (hd : decode cc pc = .ok (.ldc2_w idx, 3)) (kk : Lj X nL (pc + 3) lv (.long v :: rest) ws k n) : Lj X nL pc lv rest ws k n := fun H locs ls hP hD hS hl => lv_ldc2 hX.1 hX.2.1 hX.2.2.2.1 (hX.2.2.2.2.1 _ hc) hd (kk H locs ls hP hD hS hl)
theorem L_dup {va : Value} (hX : gL X cc nL own) (hd : decode cc pc = .ok (.dup, 1)) (hva : va.category = 1) (kk : Lj X nL (pc + 1) lv (va :: va :: rest) ws k n) : Lj X nL pc lv (va :: rest) ws k n := fun H locs ls hP hD hS hl => lv_dup hX.1 hX.2.1 hd hva (kk H locs ls hP hD hS hl)
theorem L_aload_n {i : Fin 4} {j q x : Nat} (hX : gL X cc nL own) (hd : decode cc pc = .ok (.aload_n i, 1)) (hi : (i : Nat) = j) (hg : lv[q]? = some (j, .ref x)) (kk : Lj X nL (pc + 1) lv (.ref x :: rest) ws k n) : Lj X nL pc lv rest ws k n := fun H locs ls hP hD hS hl => lv_aload_n hX.1 hX.2.1 hd hi (lv_at hl q hg) (kk H locs ls hP hD hS hl)
theorem L_iload_n {i : Fin 4} {j q : Nat} {x : Int32} (hX : gL X cc nL own) (hd : decode cc pc = .ok (.iload_n i, 1)) (hi : (i : Nat) = j) (hg : lv[q]? = some (j, .int x)) (kk : Lj X nL (pc + 1) lv (.int x :: rest) ws k n) : Lj X nL pc lv rest ws k n := fun H locs ls hP hD hS hl => lv_iload_n hX.1 hX.2.1 hd hi (lv_at hl q hg) (kk H locs ls hP hD hS hl)
theorem L_istore_n {i : Fin 4} {j : Nat} {x : Int32} {lv' : List (Nat × Value)} (hX : gL X cc nL own) (hd : decode cc pc = .ok (.istore_n i, 1)) (hi : (i : Nat) = j) (hn : j < nL) (hlv : (j, Value.int x) :: lv.filter (fun q => !(q.1 == j) && !(q.1 + 1 == j && q.2.category == 2)) = lv') (kk : Lj X nL (pc + 1) lv' rest ws k n) : Lj X nL pc lv (.int x :: rest) ws k n := fun H locs ls hP hD hS hl => lv_istore_n hX.1 hX.2.1 hd hi hl hn hlv (fun ls' h' => kk H locs ls' hP hD hS h')
theorem L_iinc {i q : Nat} {d : Int} {x v : Int32} {lv' : List (Nat × Value)} (hX : gL X cc nL own) (hd : decode cc pc = .ok (.iinc i d, 3)) (hg : lv[q]? = some (i, .int x)) (hv : x + Int32.ofInt d = v) (hn : i < nL) (hlv : (i, Value.int v) :: lv.filter (fun q => !(q.1 == i) && !(q.1 + 1 == i && q.2.category == 2)) = lv') (kk : Lj X nL (pc + 3) lv' rest ws k n) : Lj X nL pc lv rest ws k n := fun H locs ls hP hD hS hl => lv_iinc hX.1 hX.2.1 hd hl hg hv hn hlv (fun ls' h' => kk H locs ls' hP hD hS h')
theorem L_goto {off : Int} {tgt : Nat} (hX : gL X cc nL own) (hd : decode cc pc = .ok (.goto off, 3)) (ht : (pc : Int) + off = (tgt : Int)) (kk : Lj X nL tgt lv rest ws k n) : Lj X nL pc lv rest ws k n := fun H locs ls hP hD hS hl => lv_goto hX.1 hX.2.1 hd ht (kk H locs ls hP hD hS hl)
theorem L_geT {x y : Int32} {off : Int} {tgt : Nat} (hX : gL X cc nL own) (hd : decode cc pc = .ok (.if_icmp .ge off, 3)) (ht : (pc : Int) + off = (tgt : Int)) (h : y ≤ x) (kk : Lj X nL tgt lv rest ws k n) : Lj X nL pc lv (.int y :: .int x :: rest) ws k n := fun H locs ls hP hD hS hl => lv_icmp_ge hX.1 hX.2.1 hd ht (fun _ => kk H locs ls hP hD hS hl) (fun h9 => absurd h h9)
theorem L_geF {x y : Int32} {off : Int} {tgt : Nat} (hX : gL X cc nL own) (hd : decode cc pc = .ok (.if_icmp .ge off, 3)) (ht : (pc : Int) + off = (tgt : Int)) (h : ¬ y ≤ x) (kk : Lj X nL (pc + 3) lv rest ws k n) : Lj X nL pc lv (.int y :: .int x :: rest) ws k n := fun H locs ls hP hD hS hl => lv_icmp_ge hX.1 hX.2.1 hd ht (fun h9 => absurd h9 h) (fun _ => kk H locs ls hP hD hS hl)
theorem L_objInit {a idx : Nat} (hX : gL X cc nL own) (hl1 : Cond.methodLink own idx objectInit ∈ U0) (hl2 : Cond.instanceMethod objectInit ∈ U0) (hl3 : Cond.code objectInit ⟨#[0xb1]⟩ 1 none ∈ U0) (hd : decode cc pc = .ok (.invokespecial idx, 3)) (hr : 1 ≤ (xR X).frames ∧ 20 ≤ (xR X).locals) (hW : (rest.map fun v => v.category).sum ≤ 8) (kk : Lj X nL (pc + 3) lv rest ws k n) : Lj X nL pc lv (.ref a :: rest) ws k n := by
  intro H locs ls hP hD hS hl
  have hu := hX.2.2.2.2.1
  exact W.objInit hX.1 hX.2.1 hX.2.2.2.1 (hu _ hl1) (hu _ hl2) (hu _ hl3) rfl (by rw [hX.2.2.1]; exact hl.1) rfl hd hr.1 (by have := lv_room (m := xm X) (pc := pc) (ls := ls) (rest := .ref a :: rest) hW; omega) (kk H locs ls hP hD hS hl)
theorem L_gets {C f d : String} {v : Value} {idx : Nat} (hX : gL X cc nL own) (hZ : va_Z C f d v (wReg (xw X)) (xs X) (xs X).heap) (hlink : Cond.fieldLink own idx C f d ∈ U0) (hd : decode cc pc = .ok (.getstatic idx, 3)) (kk : Lj X nL (pc + 3) lv (v :: rest) ws k n) : Lj X nL pc lv rest ws k n := fun H locs ls hP hD hS hl => va_gets hX.1 hX.2.1 hZ hS hX.2.2.2.1 (hX.2.2.2.2.1 _ hlink) (fun _ h => h) hd (kk H locs ls hP hD hS hl)
theorem L_get {i ci N j idx a : Nat} {C : String} {T : u_T} {ty : Nat → FieldType} {fs : List Value} {v : Value} (hX : gL X cc nL own) (hc : clsOK ci C T N ty) (he : ws[i]? = some (a, .inr (ci, fs))) (hk : j < N) (hlink : Cond.fieldLink own idx (T j).1 (T j).2.1 (T j).2.2.1 ∈ U0) (hv : fs[j]? = some v) (hd : decode cc pc = .ok (.getfield idx, 3)) (kk : Lj X nL (pc + 3) lv (v :: rest) ws k n) : Lj X nL pc lv (.ref a :: rest) ws k n := fun H locs ls hP hD hS hl => va_get hX.1 hX.2.1 hX.2.2.2.2.1 hc.2.1 hX.2.2.2.1 hX.2.2.2.2.2.1 hP i he hc.1 j hk (hX.2.2.2.2.1 _ hlink) (fun _ h9 => h9) hv hd (kk H locs ls hP hD hS hl)
theorem L_putF {i ci N j idx a : Nat} {C : String} {T : u_T} {ty : Nat → FieldType} {fs : List Value} {v : Value} (hX : gL X cc nL own) (hno : own ≠ "SkinCarriersLaw") (hc : clsOK ci C T N ty) (he : ws[i]? = some (a, .inr (ci, fs))) (hk : j < N) (hlink : Cond.fieldLink own idx (T j).1 (T j).2.1 (T j).2.2.1 ∈ U0) (hfin : (T j).2.2.2 = true) (hdecl : (T j).1 = own) (hty : narrow (ty j) v = v ∧ fits (ty j) v = true) (hl9 : j < fs.length) (hws : ws.set i (a, .inr (ci, fs.set j v)) = ws') (hd : decode cc pc = .ok (.putfield idx, 3)) (kk : Lj X nL (pc + 3) lv rest ws' k n) : Lj X nL pc lv (v :: .ref a :: rest) ws k n := by
  intro H locs ls hP hD hS hl
  refine va_putF hX.1 hX.2.1 hX.2.2.2.2.1 hc.2.1 ty hc.2.2.1 hc.2.2.2 hX.2.2.2.1 hX.2.2.2.2.2.1 hP hD hS i he hc.1 j hk (hX.2.2.2.2.1 _ hlink) (fun _ h9 => h9) hfin (hX.2.2.2.2.2.2.2.1.resolve_right hno) hdecl (hc.2.2.1 j hk) hty.1 hty.2 hl9 hd (fun H1 locs1 hP1 hD1 hS1 => ?_)
  rw [hws] at hP1 hD1
  exact kk H1 locs1 ls hP1 hD1 hS1 hl
theorem L_put {i ci N j idx a : Nat} {C : String} {T : u_T} {ty : Nat → FieldType} {fs : List Value} {v : Value} (hX : gL X cc nL own) (hc : clsOK ci C T N ty) (he : ws[i]? = some (a, .inr (ci, fs))) (hk : j < N) (hlink : Cond.fieldLink own idx (T j).1 (T j).2.1 (T j).2.2.1 ∈ U0) (hfin : (T j).2.2.2 = false) (hty : narrow (ty j) v = v ∧ fits (ty j) v = true) (hl9 : j < fs.length) (hws : ws.set i (a, .inr (ci, fs.set j v)) = ws') (hd : decode cc pc = .ok (.putfield idx, 3)) (kk : Lj X nL (pc + 3) lv rest ws' k n) : Lj X nL pc lv (v :: .ref a :: rest) ws k n := by
  intro H locs ls hP hD hS hl
  refine va_put hX.1 hX.2.1 hX.2.2.2.2.1 hc.2.1 ty hc.2.2.1 hc.2.2.2 hX.2.2.2.1 hX.2.2.2.2.2.1 hP hD hS i he hc.1 j hk (hX.2.2.2.2.1 _ hlink) (fun _ h9 => h9) hfin (hc.2.2.1 j hk) hty.1 hty.2 hl9 hd (fun H1 locs1 hP1 hD1 hS1 => ?_)
  rw [hws] at hP1 hD1
  exact kk H1 locs1 ls hP1 hD1 hS1 hl
theorem L_new {ci N idx : Nat} {C : String} {T : u_T} {ty : Nat → FieldType} (fs : List Value) (hX : gL X cc nL own) (hc : clsOK ci C T N ty) (hcl : Cond.classLink own idx C ∈ U0) (hins : Cond.instantiable C N ∈ U0) (hini : Cond.initialized C ∈ U0) (hfs : ∀ j, j < N → defaultValue (ty j) = vp_V fs j) (hR : k + 1 ≤ (xR X).cells ∧ n + N ≤ (xR X).slots) (hd : decode cc pc = .ok (.new idx, 3)) (kk : ∀ q : Nat, Lj X nL (pc + 3) lv (.ref q :: rest) (ws ++ [(q, .inr (ci, fs))]) (k + 1) (n + N)) : Lj X nL pc lv rest ws k n := by
  intro H locs ls hP hD hS hl
  have hu := hX.2.2.2.2.1
  exact va_new hX.1 hX.2.1 hu hc.2.1 ty hc.2.2.1 hX.2.2.2.1 (hu _ hcl) (hu _ hins) (hu _ hini) hX.2.2.2.2.2.1 hP hD hS hX.2.2.2.2.2.2.1 hc.1 hfs hR.1 hR.2 hd (fun q H1 hP1 hD1 hS1 => kk q H1 locs ls hP1 hD1 hS1 hl)
theorem L_newa_int {v : Int32} {N : Nat} (hX : gL X cc nL own) (ha : Cond.arrayClass .int ∈ U0) (hn : ¬ v < 0) (hN : v.toNatClampNeg = N) (hb : N ≤ 10000) (hR : k + 1 ≤ (xR X).cells ∧ n + N ≤ (xR X).slots) (hd : decode cc pc = .ok (.newarray .int, 2)) (kk : ∀ q : Nat, Lj X nL (pc + 2) lv (.ref q :: rest) (ws ++ [(q, .inl (wcT (xw X) 0, N, .inl (fun _ => 0)))]) (k + 1) (n + N)) : Lj X nL pc lv (.int v :: rest) ws k n := by
  intro H locs ls hP hD hS hl
  refine va_newa (atype := .int) (ty := .int) (a0 := (N, .inl (fun _ => 0))) hX.1 hX.2.1 (hX.2.2.2.2.1 _ ha) rfl hX.2.2.2.2.2.1 hP hD hS hX.2.2.2.2.2.2.1 (fun _ => rfl) hn hN (Nat.le_trans (Nat.mul_le_mul hb (show componentBytes .int ≤ 8 by decide)) (by decide)) hR.1 hR.2 hd (fun q cA H1 hK1 hP1 hD1 hS1 => ?_)
  have h1 : va_RA (xs X) cA .int := (hK1.2 5 (cA, .int) rfl).2
  have h2 : va_RA (xs X) (wcT (xw X) 0) .int := (hK1.2 0 (wcT (xw X) 0, .int) rfl).2
  have e : cA = wcT (xw X) 0 := Option.some.inj (h1.symm.trans h2)
  subst e
  exact kk q H1 locs ls hP1 hD1 hS1 hl
theorem L_newa_long {v : Int32} {N : Nat} (hX : gL X cc nL own) (ha : Cond.arrayClass .long ∈ U0) (hn : ¬ v < 0) (hN : v.toNatClampNeg = N) (hb : N ≤ 10000) (hR : k + 1 ≤ (xR X).cells ∧ n + N ≤ (xR X).slots) (hd : decode cc pc = .ok (.newarray .long, 2)) (kk : ∀ q : Nat, Lj X nL (pc + 2) lv (.ref q :: rest) (ws ++ [(q, .inl (wcT (xw X) 1, N, .inr (.inl (fun _ => 0))))]) (k + 1) (n + N)) : Lj X nL pc lv (.int v :: rest) ws k n := by
  intro H locs ls hP hD hS hl
  refine va_newa (atype := .long) (ty := .long) (a0 := (N, .inr (.inl (fun _ => 0)))) hX.1 hX.2.1 (hX.2.2.2.2.1 _ ha) rfl hX.2.2.2.2.2.1 hP hD hS hX.2.2.2.2.2.2.1 (fun _ => rfl) hn hN (Nat.le_trans (Nat.mul_le_mul hb (show componentBytes .long ≤ 8 by decide)) (by decide)) hR.1 hR.2 hd (fun q cA H1 hK1 hP1 hD1 hS1 => ?_)
  have h1 : va_RA (xs X) cA .long := (hK1.2 5 (cA, .long) rfl).2
  have h2 : va_RA (xs X) (wcT (xw X) 1) .long := (hK1.2 1 (wcT (xw X) 1, .long) rfl).2
  have e : cA = wcT (xw X) 1 := Option.some.inj (h1.symm.trans h2)
  subst e
  exact kk q H1 locs ls hP1 hD1 hS1 hl
theorem L_newa_byte {v : Int32} {N : Nat} (hX : gL X cc nL own) (ha : Cond.arrayClass .byte ∈ U0) (hn : ¬ v < 0) (hN : v.toNatClampNeg = N) (hb : N ≤ 10000) (hR : k + 1 ≤ (xR X).cells ∧ n + N ≤ (xR X).slots) (hd : decode cc pc = .ok (.newarray .byte, 2)) (kk : ∀ q : Nat, Lj X nL (pc + 2) lv (.ref q :: rest) (ws ++ [(q, .inl (wcT (xw X) 2, N, .inl (fun _ => 0)))]) (k + 1) (n + N)) : Lj X nL pc lv (.int v :: rest) ws k n := by
  intro H locs ls hP hD hS hl
  refine va_newa (atype := .byte) (ty := .byte) (a0 := (N, .inl (fun _ => 0))) hX.1 hX.2.1 (hX.2.2.2.2.1 _ ha) rfl hX.2.2.2.2.2.1 hP hD hS hX.2.2.2.2.2.2.1 (fun _ => rfl) hn hN (Nat.le_trans (Nat.mul_le_mul hb (show componentBytes .byte ≤ 8 by decide)) (by decide)) hR.1 hR.2 hd (fun q cA H1 hK1 hP1 hD1 hS1 => ?_)
  have h1 : va_RA (xs X) cA .byte := (hK1.2 5 (cA, .byte) rfl).2
  have h2 : va_RA (xs X) (wcT (xw X) 2) .byte := (hK1.2 2 (wcT (xw X) 2, .byte) rfl).2
  have e : cA = wcT (xw X) 2 := Option.some.inj (h1.symm.trans h2)
  subst e
  exact kk q H1 locs ls hP1 hD1 hS1 hl
theorem L_newa_boolean {v : Int32} {N : Nat} (hX : gL X cc nL own) (ha : Cond.arrayClass .boolean ∈ U0) (hn : ¬ v < 0) (hN : v.toNatClampNeg = N) (hb : N ≤ 10000) (hR : k + 1 ≤ (xR X).cells ∧ n + N ≤ (xR X).slots) (hd : decode cc pc = .ok (.newarray .boolean, 2)) (kk : ∀ q : Nat, Lj X nL (pc + 2) lv (.ref q :: rest) (ws ++ [(q, .inl (wcT (xw X) 3, N, .inl (fun _ => 0)))]) (k + 1) (n + N)) : Lj X nL pc lv (.int v :: rest) ws k n := by
  intro H locs ls hP hD hS hl
  refine va_newa (atype := .boolean) (ty := .boolean) (a0 := (N, .inl (fun _ => 0))) hX.1 hX.2.1 (hX.2.2.2.2.1 _ ha) rfl hX.2.2.2.2.2.1 hP hD hS hX.2.2.2.2.2.2.1 (fun _ => rfl) hn hN (Nat.le_trans (Nat.mul_le_mul hb (show componentBytes .boolean ≤ 8 by decide)) (by decide)) hR.1 hR.2 hd (fun q cA H1 hK1 hP1 hD1 hS1 => ?_)
  have h1 : va_RA (xs X) cA .boolean := (hK1.2 5 (cA, .boolean) rfl).2
  have h2 : va_RA (xs X) (wcT (xw X) 3) .boolean := (hK1.2 3 (wcT (xw X) 3, .boolean) rfl).2
  have e : cA = wcT (xw X) 3 := Option.some.inj (h1.symm.trans h2)
  subst e
  exact kk q H1 locs ls hP1 hD1 hS1 hl
theorem L_newq {v : Int32} {N idx : Nat} (hX : gL X cc nL own) (hcl : Cond.classLink own idx "SkinCarriers$Day" ∈ U0) (hn : ¬ v < 0) (hN : v.toNatClampNeg = N) (hb : N ≤ 10000) (hR : k + 1 ≤ (xR X).cells ∧ n + N ≤ (xR X).slots) (hd : decode cc pc = .ok (.anewarray idx, 3)) (kk : ∀ q : Nat, Lj X nL (pc + 3) lv (.ref q :: rest) (ws ++ [(q, .inl (wcT (xw X) 4, N, .inr (.inr (.inr (.inr (fun _ => none))))))]) (k + 1) (n + N)) : Lj X nL pc lv (.int v :: rest) ws k n := by
  intro H locs ls hP hD hS hl
  refine va_newq hX.1 hX.2.1 hX.2.2.2.1 (hX.2.2.2.2.1 _ hcl) hX.2.2.2.2.2.2.2.2.2.2.1.2 hX.2.2.2.2.2.1 hP hD hS hX.2.2.2.2.2.2.1 hn hN (by omega) hR.1 hR.2 hd (fun q cA H1 hK1 hP1 hD1 hS1 => ?_)
  obtain ⟨kA, comp, h1, h2, h3, h4⟩ := (hK1.2 5 (cA, .object "SkinCarriers$Day") rfl).2
  obtain ⟨kA', comp', h1', h2', h3', h4'⟩ := (hK1.2 4 (wcT (xw X) 4, .object "SkinCarriers$Day") rfl).2
  have e : cA = wcT (xw X) 4 := Option.some.inj (h4.symm.trans h4')
  subst e
  exact kk q H1 locs ls hP1 hD1 hS1 hl
theorem L_last {i N a : Nat} {j : Int32} {x : Int64} {f : Nat → Int64} (hX : gL X cc nL own) (he : ws[i]? = some (a, .inl (wcT (xw X) 1, N, .inr (.inl f)))) (hin : vp_in j N) (hws : ws.set i (a, .inl (wcT (xw X) 1, N, .inr (.inl (vp_updL f j.toNatClampNeg x)))) = ws') (hd : decode cc pc = .ok (.lastore, 1)) (kk : Lj X nL (pc + 1) lv rest ws' k n) : Lj X nL pc lv (.long x :: .int j :: .ref a :: rest) ws k n := by
  intro H locs ls hP hD hS hl
  refine va_last hX.1 hX.2.1 hX.2.2.2.2.2.1 hP hD hS i 1 he rfl hin hd (fun H1 locs1 hP1 hD1 hS1 => ?_)
  rw [hws] at hP1 hD1
  exact kk H1 locs1 ls hP1 hD1 hS1 hl
theorem L_iast {i N a : Nat} {j : Int32} {x : Int32} {f : Nat → Int32} (hX : gL X cc nL own) (he : ws[i]? = some (a, .inl (wcT (xw X) 0, N, .inl f))) (hin : vp_in j N) (hws : ws.set i (a, .inl (wcT (xw X) 0, N, .inl (upd f j.toNatClampNeg x))) = ws') (hd : decode cc pc = .ok (.iastore, 1)) (kk : Lj X nL (pc + 1) lv rest ws' k n) : Lj X nL pc lv (.int x :: .int j :: .ref a :: rest) ws k n := by
  intro H locs ls hP hD hS hl
  refine va_iast hX.1 hX.2.1 hX.2.2.2.2.2.1 hP hD hS i 0 he rfl hin hd (fun H1 locs1 hP1 hD1 hS1 => ?_)
  rw [hws] at hP1 hD1
  exact kk H1 locs1 ls hP1 hD1 hS1 hl
theorem L_astq {i iv N a v : Nat} {j : Int32} {f : Nat → Option Nat} {vs : List Value} (hX : gL X cc nL own) (he : ws[i]? = some (a, .inl (wcT (xw X) 4, N, .inr (.inr (.inr (.inr f)))))) (hv : ws[iv]? = some (v, .inr (0, vs))) (hin : vp_in j N) (hws : ws.set i (a, .inl (wcT (xw X) 4, N, .inr (.inr (.inr (.inr (va_up f j.toNatClampNeg (some v))))))) = ws') (hd : decode cc pc = .ok (.aastore, 1)) (kk : Lj X nL (pc + 1) lv rest ws' k n) : Lj X nL pc lv (.ref v :: .int j :: .ref a :: rest) ws k n := by
  intro H locs ls hP hD hS hl
  refine va_astq (r := (RX0, TX0, 13)) hX.1 hX.2.1 hX.2.2.2.2.2.1 hP hD hS i 4 iv 0 he rfl hv rfl hin hd (fun H1 locs1 hP1 hD1 hS1 => ?_)
  rw [hws] at hP1 hD1
  exact kk H1 locs1 ls hP1 hD1 hS1 hl
theorem L_vret {ws1 : List Nat → va_W} {mc ms : Nat} (qs : List Nat) (hX : gL X cc nL own) (hno : own ≠ "SkinCarriersLaw") (hQ : xQ X = MQ (xb X) (QcL (wD (xw X)) ws1 (wReg (xw X))) (xa X) (xs X) mc ms (wReg (xw X))) (hk : k ≤ mc ∧ n ≤ ms) (hws : ws = ws1 qs) (hd : decode cc pc = .ok (.return_, 1)) : Lj X nL pc lv [] ws k n := by
  intro H locs ls hP hD hS hl
  rw [hQ]
  refine W.widen hk.1 hk.2 ?_
  subst hws
  exact W.vret hX.1 hX.2.1 (hX.2.2.2.2.2.2.2.2.2.1.resolve_right hno) (fun t ht hW => ⟨⟨qs, rfl, trivial, by rw [ht]; exact hP, hD⟩, hS.F ht⟩) hS.2.2 hd (hlocks := hX.2.2.2.2.2.2.2.2.1)
theorem nd_range : ∀ n : Nat, va_nd (List.range n) = true := by
  have key : ∀ l : List Nat, l.Nodup → va_nd l = true := by
    intro l hl
    induction l with
    | nil => rfl
    | cons a l ih =>
      have h := List.nodup_cons.mp hl
      simp only [va_nd, Bool.and_eq_true, decide_eq_true_eq]
      exact ⟨h.1, ih h.2⟩
  exact fun n => key _ List.nodup_range
theorem map_range_get (l m : va_W) : (List.range l.length).map (fun i => (l ++ m)[i]?) = l.map some := by
  apply List.ext_getElem?
  intro i
  by_cases hi : i < l.length
  · simp [hi, List.getElem?_append_left hi]
  · simp [hi]
theorem PcL_blind {D : va_G} {cT : Nat → ClassId} {ad : Nat → Nat} {pp : Nat × Nat} {ws0 : va_W} {sz : Nat} {avs : List Value} : FrameBlind (va_Pc avs (PcL D cT ad pp ws0 sz)) := by
  intro a U g mk h
  obtain ⟨h0, h1, h2, h3, h4, h5, h6⟩ := h
  exact ⟨h0, h1, h2, va_K.moved (u := U) (U := U.calling g mk a) (Vm.Alike.refl U.vm) h3, h4, NOK_warm (s := U) (U := U.calling g mk a) (State.WarmedH.refl U) h5, SOK_warm (u := U) (U := U.calling g mk a) (State.WarmedH.refl U) h6⟩
/-- a constructor is called on the cell that was made last -/
theorem L_after {mc ms : Nat} {q : Nat} {e0 : va_E} {wr : va_W} {ws1 : List Nat → va_W} {a : Array Value}
    (hrun : ∀ (H : Heap) (locs : List Loc) (ls : Array Slot), va_P (wD (xw X)) vwCl (wr ++ [(q, e0)]) H → va_D (wReg (xw X)) (wr ++ [(q, e0)]) → va_S (wReg (xw X)) (xs X).heap H locs → (∀ z, va_A [(q, e0)] H.size z → wReg (xw X) z) → lv_has ls nL lv → va_Run (xp X) (xl X) (xe X) (xR X) (xs X) (xm X) (xa X) (xb X) (xme X) (xc X) H locs k n mc ms (F0 (xm X) pc ls st0) rest (QcL (wD (xw X)) ws1 (va_A [(q, e0)] H.size) a) (va_A [(q, e0)] H.size))
    (hX : gL X cc nL own) (kk : ∀ qs : List Nat, Lj X nL (pc + 3) lv rest (wr ++ ws1 qs) (k + mc) (n + ms)) : Lj X nL pc lv st0 (wr ++ [(q, e0)]) k n := by
  intro H locs ls hP hD hS hl
  have hC : [wr.length].map (fun i => (wr ++ [(q, e0)])[i]?) = ([(q, e0)] : va_W).map some := by simp
  have hFc := va_free (wc := [(q, e0)]) hD hS hX.2.2.2.2.2.2.1 [wr.length] hC
  refine va_callv (hrun H locs ls hP hD hS hFc hl) hS (fun z _ h => hFc z h) hFc (fun u t H1 locs1 ht hvm hw hB hz1 hk1 hS1 => ?_)
  obtain ⟨hP1, hD1⟩ := hB
  rw [ht] at hP1
  obtain ⟨hP2, hD2⟩ := va_join (wc := [(q, e0)]) (wr := wr) (w1 := ws1 u) hP hD [wr.length] (List.range wr.length) hC (map_range_get wr _) (nd_range _) (fun i hi => by
    have := List.mem_range.mp hi
    simp only [List.mem_singleton]
    omega) hk1 hFc hP1 hD1
  exact kk u H1 locs1 ls hP2 hD2 hS1 hl
theorem L_callIN {y : MethodName} {bytes : ByteArray} {maxL f lo idx na mc ms q : Nat} {host : String} {e0 : va_E} {wr : va_W} {ws1 : List Nat → va_W} (As : List Value) (hX : gL X cc nL own) (hC : CtL y bytes maxL f lo (wD (xw X)) (wcT (xw X)) (wadW (xw X)) (wSt2 (xw X)) (.ref q :: As) [(q, e0)] ws1 mc ms) (hl : Cond.methodLinkNest own idx y host ∈ NestL) (hini : Cond.initialized y.cls ∈ U0) (hins : Cond.instanceMethod y ∈ U0) (hco : Cond.code y bytes maxL none ∈ U0) (hy1 : y.name = "<init>") (hy : mdOK y na)
    (hR : f + 1 ≤ (xR X).frames ∧ 8 + (maxL + 11) + lo ≤ (xR X).locals) (hR2 : k + mc ≤ (xR X).cells ∧ n + ms ≤ (xR X).slots) (hn : As.length = na) (hst : st0 = As.reverse ++ .ref q :: rest) (hW : (rest.map fun v => v.category).sum ≤ 8) (hd : decode cc pc = .ok (.invokespecial idx, 3))
    (kk : ∀ qs : List Nat, Lj X nL (pc + 3) lv rest (wr ++ ws1 qs) (k + mc) (n + ms)) : Lj X nL pc lv st0 (wr ++ [(q, e0)]) k n := by
  subst hst
  have hin : ∀ w ∈ (Cond.code y bytes maxL none :: U0), w ∈ U0 := fun w hw => (List.mem_cons.mp hw).elim (fun e => e ▸ hco) id
  refine L_after (a := (.ref q :: As : List Value).toArray) (fun H locs ls hP hD hS hFc hlv => ?_) hX kk
  have hX' := hX
  obtain ⟨hx, hb, hml, ho, hu, hK, hA, -, -, -, hN, hSk⟩ := hX'
  exact va_runIN (As := As) (rest := rest) ⟨hx, hb, hml, ho, hu⟩ (hC (xl X) H.size) ⟨va_cnB na hu (goodIn_U0 hin) rfl rfl rfl (hN.1 _ hl) (hu _ hini) hy hR, hy1, hu _ hins⟩ ⟨PcL_blind, fun U hU hWm => ⟨rfl, by rw [hU], by rw [hU]; exact fun j z hz => hP (wr.length + j) z (by rw [List.getElem?_append_right (by omega), Nat.add_sub_cancel_left]; exact hz), va_K.moved hWm.alike hK, ⟨fun i j x z hi hj _ => by
      have h1 := (List.getElem?_eq_some_iff.mp hi).1
      have h2 := (List.getElem?_eq_some_iff.mp hj).1
      simp only [List.length_singleton] at h1 h2
      omega, fun _ _ _ => trivial⟩, NOK_warm hWm hN, by rw [hU]; exact SOK_warm hWm (SOK_narrow (SOK_kept hSk hS.2.1) hFc)⟩⟩ rfl hn hlv.1 rfl (lv_room hW) hd hR2
theorem L_callI {y : MethodName} {bytes : ByteArray} {maxL f lo idx na mc ms q : Nat} {e0 : va_E} {wr : va_W} {ws1 : List Nat → va_W} (As : List Value) (hX : gL X cc nL own) (hC : CtL y bytes maxL f lo (wD (xw X)) (wcT (xw X)) (wadW (xw X)) (wSt2 (xw X)) (.ref q :: As) [(q, e0)] ws1 mc ms) (hl : Cond.methodLink own idx y ∈ U0) (hini : Cond.initialized y.cls ∈ U0) (hins : Cond.instanceMethod y ∈ U0) (hco : Cond.code y bytes maxL none ∈ U0) (hy1 : y.name = "<init>") (hy : mdOK y na)
    (hR : f + 1 ≤ (xR X).frames ∧ 8 + (maxL + 11) + lo ≤ (xR X).locals) (hR2 : k + mc ≤ (xR X).cells ∧ n + ms ≤ (xR X).slots) (hn : As.length = na) (hst : st0 = As.reverse ++ .ref q :: rest) (hW : (rest.map fun v => v.category).sum ≤ 8) (hd : decode cc pc = .ok (.invokespecial idx, 3))
    (kk : ∀ qs : List Nat, Lj X nL (pc + 3) lv rest (wr ++ ws1 qs) (k + mc) (n + ms)) : Lj X nL pc lv st0 (wr ++ [(q, e0)]) k n := by
  subst hst
  have hin : ∀ w ∈ (Cond.code y bytes maxL none :: U0), w ∈ U0 := fun w hw => (List.mem_cons.mp hw).elim (fun e => e ▸ hco) id
  refine L_after (a := (.ref q :: As : List Value).toArray) (fun H locs ls hP hD hS hFc hlv => ?_) hX kk
  have hX' := hX
  obtain ⟨hx, hb, hml, ho, hu, hK, hA, -, -, -, hN, hSk⟩ := hX'
  exact va_runI (As := As) (rest := rest) ⟨hx, hb, hml, ho, hu⟩ (hC (xl X) H.size) ⟨callB_of na hu (goodIn_U0 hin) rfl rfl rfl (hu _ hini) (hu _ hl) hy hR, hy1, hu _ hins⟩ ⟨PcL_blind, fun U hU hWm => ⟨rfl, by rw [hU], by rw [hU]; exact fun j z hz => hP (wr.length + j) z (by rw [List.getElem?_append_right (by omega), Nat.add_sub_cancel_left]; exact hz), va_K.moved hWm.alike hK, ⟨fun i j x z hi hj _ => by
      have h1 := (List.getElem?_eq_some_iff.mp hi).1
      have h2 := (List.getElem?_eq_some_iff.mp hj).1
      simp only [List.length_singleton] at h1 h2
      omega, fun _ _ _ => trivial⟩, NOK_warm hWm hN, by rw [hU]; exact SOK_warm hWm (SOK_narrow (SOK_kept hSk hS.2.1) hFc)⟩⟩ rfl hn hlv.1 rfl (lv_room hW) hd hR2
theorem L_norm {k' n' : Nat} (h : ws = ws') (hk : k = k') (hn : n = n') (kk : Lj X nL pc lv rest ws' k' n') : Lj X nL pc lv rest ws k n := by
  subst h; subst hk; subst hn
  exact kk
end LR
