/-! contracts over abstract states, and calls -/
abbrev rmOf (f lo mc ms : Nat) : Room := { frames := f, cells := mc, slots := ms, locals := lo }
def Ct (y : MethodName) (cc : ByteArray) (nL : Nat) (ret : Option FieldType) (f lo : Nat) (w : WT) (avs : List Value) (σ : St) (r : Option Value) (τ : St) (mc ms : Nat) : Prop :=
  ∀ l : Launch, Met l y (.code y cc nL ret :: U0) (rmOf f lo mc ms) (va_Pc avs (fun s => Wd w σ s)) (QcW w r τ mc true) mc ms (wReg w)
/-- a method that makes rows of laws: it knows the heap's size; it may say less of the size behind it -/
def CtA (y : MethodName) (cc : ByteArray) (nL : Nat) (ret : Option FieldType) (f lo : Nat) (w : WT) (avs : List Value) (σ : St) (z : Nat) (r : Option Value) (τ : St) (mc ms : Nat) (x : Bool) : Prop :=
  ∀ l : Launch, Met l y (.code y cc nL ret :: U0) (rmOf f lo mc ms) (va_Pc avs (fun s => Wd w σ s ∧ s.heap.size = z)) (QcW w r τ mc x) mc ms (wReg w)
theorem CtA_intro {y : MethodName} {cc : ByteArray} {nL : Nat} {ret : Option FieldType} {f lo : Nat} {w : WT} {avs : List Value} {σ : St} {z : Nat} {r : Option Value} {τ : St} {mc ms : Nat} {x : Bool} (g : Nat → Nat × Nat) (hy : plainName y.cls = true) (hg0 : g (Kn σ) = (0, 0)) (hgk : ((g (Kn τ)).1 ≤ mc ∧ (x = true → (g (Kn τ)).1 = mc)) ∧ (g (Kn τ)).2 ≤ ms) (hlen : (lg_sl avs).length ≤ nL)
    (body : ∀ X : CX, gd X cc nL y.cls ret → xR X = rmOf f lo mc ms → xw X = w → xg X = g → xr X = (r, τ) → (xs X).heap.size = z → Jd X nL 0 (lv_args 0 avs) [] σ) : CtA y cc nL ret f lo w avs σ z r τ mc ms x := by
  intro l
  refine Met.ofW (cc := cc) (maxL := nL) (ret := ret) hy rfl ?_
  intro p e s m args below meth c s₁ B hml hv
  obtain ⟨rfl, hW, hsz⟩ := hv
  have hts := atoms_spec (ws := .code y cc nL ret :: U0) B.pre
  have hX : gd (p, l, e, rmOf f lo mc ms, s, m, avs.toArray, below, meth, c, w, g, (r, τ), (mc, ms, x), MQ below (QcW w r τ mc x) avs.toArray s mc ms (wReg w)) cc nL y.cls ret :=
    ⟨B.exec, B.bytes, hml, findClass_of_methodNamed B.named, fun w hw => hts w (List.mem_cons_of_mem _ hw), hW.1, hW.2.1, hW.2.2.1, hW.2.2.2.1, B.notSynchronized, B.returns, hgk.1, hgk.2, fun _ h => h⟩
  have h := body _ hX rfl rfl rfl rfl hsz s.heap [] _ hW.2.2.2.2 va_S.rf (by show s.heap.size = s.heap.size + (g (Kn σ)).1; rw [hg0]; rfl) (lv_entry avs hlen)
  rw [lg_entry_eq]
  exact W.cs (cells' := (g (Kn σ)).1) (slots' := (g (Kn σ)).2) (by rw [hg0]) (by rw [hg0]) h
theorem WdA_blind {w : WT} {σ : St} {z : Nat} {avs : List Value} : FrameBlind (va_Pc avs (fun s => Wd w σ s ∧ s.heap.size = z)) := by
  intro a U g mk h
  obtain ⟨h0, ⟨h1, h2, h3, h4⟩, h5⟩ := h
  exact ⟨h0, ⟨h1, va_K.moved (u := U) (U := U.calling g mk a) (Vm.Alike.refl U.vm) h2, h1.2 U (U.calling g mk a) U.heap U.heap (State.WarmedH.refl U) (Nat.le_refl _) (fun _ _ _ => rfl) h3, h4⟩, h5⟩
theorem Ct_intro {y : MethodName} {cc : ByteArray} {nL : Nat} {ret : Option FieldType} {f lo : Nat} {w : WT} {avs : List Value} {σ : St} {r : Option Value} {τ : St} {mc ms : Nat} (g : Nat → Nat × Nat) (hy : plainName y.cls = true) (hg0 : g (Kn σ) = (0, 0)) (hgk : (g (Kn τ)).1 = mc ∧ (g (Kn τ)).2 ≤ ms) (hlen : (lg_sl avs).length ≤ nL)
    (body : ∀ X : CX, gd X cc nL y.cls ret → xR X = rmOf f lo mc ms → xw X = w → xg X = g → xr X = (r, τ) → Jd X nL 0 (lv_args 0 avs) [] σ) : Ct y cc nL ret f lo w avs σ r τ mc ms := by
  intro l
  refine Met.ofW (cc := cc) (maxL := nL) (ret := ret) hy rfl ?_
  intro p e s m args below meth c s₁ B hml hv
  obtain ⟨rfl, hW⟩ := hv
  have hts := atoms_spec (ws := .code y cc nL ret :: U0) B.pre
  have hX : gd (p, l, e, rmOf f lo mc ms, s, m, avs.toArray, below, meth, c, w, g, (r, τ), (mc, ms, true), MQ below (QcW w r τ mc true) avs.toArray s mc ms (wReg w)) cc nL y.cls ret :=
    ⟨B.exec, B.bytes, hml, findClass_of_methodNamed B.named, fun w hw => hts w (List.mem_cons_of_mem _ hw), hW.1, hW.2.1, hW.2.2.1, hW.2.2.2.1, B.notSynchronized, B.returns, ⟨Nat.le_of_eq hgk.1, fun _ => hgk.1⟩, hgk.2, fun _ h => h⟩
  have h := body _ hX rfl rfl rfl rfl s.heap [] _ hW.2.2.2.2 va_S.rf (by show s.heap.size = s.heap.size + (g (Kn σ)).1; rw [hg0]; rfl) (lv_entry avs hlen)
  rw [lg_entry_eq]
  exact W.cs (cells' := (g (Kn σ)).1) (slots' := (g (Kn σ)).2) (by rw [hg0]) (by rw [hg0]) h
section JC
variable {X : CX} {cc : ByteArray} {nL : Nat} {own : String} {ret : Option FieldType} {pc : Nat} {lv : List (Nat × Value)} {rest st0 : List Value} {σ : St}
theorem J_run {mc ms : Nat} {r : Option Value} {τ : St} {a : Array Value}
    (hrun : ∀ (H : Heap) (locs : List Loc) (ls : Array Slot), Hw (xw X) σ H → va_S (wReg (xw X)) (xs X).heap H locs → H.size = (xs X).heap.size + ((xg X) (Kn σ)).1 → lv_has ls nL lv → va_Run (xp X) (xl X) (xe X) (xR X) (xs X) (xm X) (xa X) (xb X) (xme X) (xc X) H locs ((xg X) (Kn σ)).1 ((xg X) (Kn σ)).2 mc ms (F0 (xm X) pc ls st0) rest (QcW (xw X) r τ mc true a) (wReg (xw X)))
    (hg : ((xg X) (Kn σ)).1 + mc = ((xg X) (Kn τ)).1 ∧ ((xg X) (Kn σ)).2 + ms ≤ ((xg X) (Kn τ)).2)
    (kk : Jd X nL (pc + 3) lv (r.toList ++ rest) τ) : Jd X nL pc lv st0 σ := by
  intro H locs ls hH hS hz0 hl T hT XX
  obtain ⟨v, st₀, t, T', L, h0, X', hL, e1, e2, ⟨hv, hWd, ⟨hz, hk⟩, hsz⟩, st⟩ := hrun H locs ls hH hS hz0 hl T hT XX
  cases hv
  have hsz := hsz rfl
  rw [h0] at hz hk hsz
  have hH1 : Hw (xw X) τ T'.heap := by rw [e1]; exact hWd.2.2.2.2
  have hS1 : va_S (wReg (xw X)) (xs X).heap T'.heap (locs ++ L) :=
    ⟨Nat.le_trans hS.1 (by rw [e1]; exact hz), fun q h1 h2 => by rw [e1, hk q (Nat.lt_of_lt_of_le h1 hS.1) h2]; exact hS.2.1 q h1 h2, fun q hq => by
      rcases List.mem_append.mp hq with h | h
      · exact hS.2.2 q h
      · exact hL q h⟩
  obtain ⟨t2, a1, b1⟩ := kk T'.heap (locs ++ L) ls hH1 hS1 (by rw [e1, hsz, hz0, ← hg.1]; omega) hl T' rfl (stand_widen X' (Nat.le_of_eq hg.1) hg.2)
  exact ⟨t2, st t2 a1, b1⟩
/-- words of a virtual call -/
def lkV (own : String) (idx : Nat) (y : MethodName) (bytes : ByteArray) (maxL : Nat) (rt : Option FieldType) : Prop := ∀ w ∈ wsV own idx y.cls y (.code y bytes maxL rt :: U0), w ∈ U0
theorem lkV_of {own : String} {idx : Nat} {y : MethodName} {bytes : ByteArray} {maxL : Nat} {rt : Option FieldType} (h1 : Cond.methodLink own idx y ∈ U0) (h2 : Cond.instanceMethod y ∈ U0) (h3 : Cond.selects y.cls y y ∈ U0) (h4 : Cond.initialized y.cls ∈ U0) (h5 : Cond.code y bytes maxL rt ∈ U0) : lkV own idx y bytes maxL rt := by
  intro w hw
  simp only [wsV, List.cons_append, List.nil_append, List.mem_cons] at hw
  rcases hw with rfl | rfl | rfl | rfl | rfl | hw
  · exact h1
  · exact h2
  · exact h3
  · exact h4
  · exact h5
  · exact hw
/-- words of a static call -/
def lkS (own : String) (idx : Nat) (y : MethodName) (bytes : ByteArray) (maxL : Nat) (rt : Option FieldType) : Prop := Cond.methodLink own idx y ∈ U0 ∧ Cond.static y ∈ U0 ∧ Cond.initialized y.cls ∈ U0 ∧ Cond.code y bytes maxL rt ∈ U0
/-- a method's name: plain, so many parameters -/
def mdOK (y : MethodName) (n : Nat) : Prop := y.cls ≠ "java/lang/invoke/MethodHandle" ∧ y.cls ≠ "java/lang/invoke/VarHandle" ∧ (parseMethodDescriptor y.desc).map (fun d => d.parameters.length) = some n
theorem J_callV {y : MethodName} {bytes : ByteArray} {maxL f lo idx n i ci N mc ms : Nat} {rt : Option FieldType} {fk : Nat → Nat × Nat} {T : u_T} {ty : Nat → FieldType} {As : List Value} {r : Option Value} {τ : St} (hX : gd X cc nL own ret) (hC : Ct y bytes maxL rt f lo (xw X) (.ref (wad (xw X) i) :: As) σ r τ mc ms) (hlk : lkV own idx y bytes maxL rt) (hy : mdOK y n) (hq : isC (xw X) i (.inr (ci, N, fk))) (hc : clsOK ci y.cls T N ty)
    (hR : f + 1 ≤ (xR X).frames ∧ 8 + (maxL + 11) + lo ≤ (xR X).locals) (hg : ((xg X) (Kn σ)).1 + mc = ((xg X) (Kn τ)).1 ∧ ((xg X) (Kn σ)).2 + ms ≤ ((xg X) (Kn τ)).2) (hg2 : ((xg X) (Kn σ)).1 + mc ≤ (xR X).cells ∧ ((xg X) (Kn σ)).2 + ms ≤ (xR X).slots)
    (hn : As.length = n) (hst : st0 = As.reverse ++ .ref (wad (xw X) i) :: rest) (hW : (rest.map fun v => v.category).sum ≤ 8) (hd : decode cc pc = .ok (.invokevirtual idx, 3))
    (kk : Jd X nL (pc + 3) lv (r.toList ++ rest) τ) : Jd X nL pc lv st0 σ := by
  subst hst
  refine J_run (a := (.ref (wad (xw X) i) :: As : List Value).toArray) (fun H locs ls hH hS hz hl => ?_) hg kk
  have hX' := hX
  obtain ⟨hx, hb, hml, ho, hu, -, hK, -⟩ := hX'
  have he := wal_get (w := xw X) σ hq.1
  rw [cel_obj hq.2] at he
  exact va_runV (As := As) (rest := rest) ⟨hx, hb, hml, ho, hu⟩ (hC (xl X)) (cwV n hu (goodIn_U0 hlk) rfl rfl rfl ⟨rfl, hy⟩ hR) ⟨Wd_blind, va_recv hK hH.1 (ci := ci) (q0 := i) hc.1 he, fun U hU hWm => ⟨rfl, Wd_of hX hH hS hU hWm⟩⟩ rfl hn hl.1 rfl (lv_room hW) hd hg2
theorem J_callS {y : MethodName} {bytes : ByteArray} {maxL f lo idx n mc ms : Nat} {rt : Option FieldType} {As : List Value} {r : Option Value} {τ : St} (hX : gd X cc nL own ret) (hC : Ct y bytes maxL rt f lo (xw X) As σ r τ mc ms) (hlk : lkS own idx y bytes maxL rt) (hy : mdOK y n)
    (hR : f + 1 ≤ (xR X).frames ∧ 8 + (maxL + 11) + lo ≤ (xR X).locals) (hg : ((xg X) (Kn σ)).1 + mc = ((xg X) (Kn τ)).1 ∧ ((xg X) (Kn σ)).2 + ms ≤ ((xg X) (Kn τ)).2) (hg2 : ((xg X) (Kn σ)).1 + mc ≤ (xR X).cells ∧ ((xg X) (Kn σ)).2 + ms ≤ (xR X).slots)
    (hn : As.length = n) (hst : st0 = As.reverse ++ rest) (hW : (rest.map fun v => v.category).sum ≤ 8) (hd : decode cc pc = .ok (.invokestatic idx, 3))
    (kk : Jd X nL (pc + 3) lv (r.toList ++ rest) τ) : Jd X nL pc lv st0 σ := by
  subst hst
  refine J_run (a := As.toArray) (fun H locs ls hH hS hz hl => ?_) hg kk
  have hX' := hX
  obtain ⟨hx, hb, hml, ho, hu, -, hK, -⟩ := hX'
  have hin : ∀ w ∈ (Cond.code y bytes maxL rt :: U0), w ∈ U0 := fun w hw => (List.mem_cons.mp hw).elim (fun e => e ▸ hlk.2.2.2) id
  exact va_runS (As := As) (rest := rest) ⟨hx, hb, hml, ho, hu⟩ (hC (xl X)) ⟨callB_of n hu (goodIn_U0 hin) rfl rfl rfl (hu _ hlk.2.2.1) (hu _ hlk.1) hy hR, hu _ hlk.2.1⟩ ⟨Wd_blind, fun U hU hWm => ⟨rfl, Wd_of hX hH hS hU hWm⟩⟩ rfl hn hl.1 rfl (lv_room hW) hd hg2
/-- calls of methods that make rows -/
theorem J_callVA {y : MethodName} {bytes : ByteArray} {maxL f lo idx n i ci N mc ms z : Nat} {rt : Option FieldType} {fk : Nat → Nat × Nat} {T : u_T} {ty : Nat → FieldType} {As : List Value} {r : Option Value} {τ : St} (hX : gd X cc nL own ret) (hC : CtA y bytes maxL rt f lo (xw X) (.ref (wad (xw X) i) :: As) σ z r τ mc ms true) (hz : (xs X).heap.size + ((xg X) (Kn σ)).1 = z) (hlk : lkV own idx y bytes maxL rt) (hy : mdOK y n) (hq : isC (xw X) i (.inr (ci, N, fk))) (hc : clsOK ci y.cls T N ty)
    (hR : f + 1 ≤ (xR X).frames ∧ 8 + (maxL + 11) + lo ≤ (xR X).locals) (hg : ((xg X) (Kn σ)).1 + mc = ((xg X) (Kn τ)).1 ∧ ((xg X) (Kn σ)).2 + ms ≤ ((xg X) (Kn τ)).2) (hg2 : ((xg X) (Kn σ)).1 + mc ≤ (xR X).cells ∧ ((xg X) (Kn σ)).2 + ms ≤ (xR X).slots)
    (hn : As.length = n) (hst : st0 = As.reverse ++ .ref (wad (xw X) i) :: rest) (hW : (rest.map fun v => v.category).sum ≤ 8) (hd : decode cc pc = .ok (.invokevirtual idx, 3))
    (kk : Jd X nL (pc + 3) lv (r.toList ++ rest) τ) : Jd X nL pc lv st0 σ := by
  subst hst
  refine J_run (a := (.ref (wad (xw X) i) :: As : List Value).toArray) (fun H locs ls hH hS hzz hl => ?_) hg kk
  have hX' := hX
  obtain ⟨hx, hb, hml, ho, hu, -, hK, -⟩ := hX'
  have he := wal_get (w := xw X) σ hq.1
  rw [cel_obj hq.2] at he
  exact va_runV (As := As) (rest := rest) ⟨hx, hb, hml, ho, hu⟩ (hC (xl X)) (cwV n hu (goodIn_U0 hlk) rfl rfl rfl ⟨rfl, hy⟩ hR) ⟨WdA_blind, va_recv hK hH.1 (ci := ci) (q0 := i) hc.1 he, fun U hU hWm => ⟨rfl, Wd_of hX hH hS hU hWm, by rw [hU, hzz]; exact hz⟩⟩ rfl hn hl.1 rfl (lv_room hW) hd hg2
theorem J_callSA {y : MethodName} {bytes : ByteArray} {maxL f lo idx n mc ms z : Nat} {rt : Option FieldType} {As : List Value} {r : Option Value} {τ : St} (hX : gd X cc nL own ret) (hC : CtA y bytes maxL rt f lo (xw X) As σ z r τ mc ms true) (hz : (xs X).heap.size + ((xg X) (Kn σ)).1 = z) (hlk : lkS own idx y bytes maxL rt) (hy : mdOK y n)
    (hR : f + 1 ≤ (xR X).frames ∧ 8 + (maxL + 11) + lo ≤ (xR X).locals) (hg : ((xg X) (Kn σ)).1 + mc = ((xg X) (Kn τ)).1 ∧ ((xg X) (Kn σ)).2 + ms ≤ ((xg X) (Kn τ)).2) (hg2 : ((xg X) (Kn σ)).1 + mc ≤ (xR X).cells ∧ ((xg X) (Kn σ)).2 + ms ≤ (xR X).slots)
    (hn : As.length = n) (hst : st0 = As.reverse ++ rest) (hW : (rest.map fun v => v.category).sum ≤ 8) (hd : decode cc pc = .ok (.invokestatic idx, 3))
    (kk : Jd X nL (pc + 3) lv (r.toList ++ rest) τ) : Jd X nL pc lv st0 σ := by
  subst hst
  refine J_run (a := As.toArray) (fun H locs ls hH hS hzz hl => ?_) hg kk
  have hX' := hX
  obtain ⟨hx, hb, hml, ho, hu, -, hK, -⟩ := hX'
  have hin : ∀ w ∈ (Cond.code y bytes maxL rt :: U0), w ∈ U0 := fun w hw => (List.mem_cons.mp hw).elim (fun e => e ▸ hlk.2.2.2) id
  exact va_runS (As := As) (rest := rest) ⟨hx, hb, hml, ho, hu⟩ (hC (xl X)) ⟨callB_of n hu (goodIn_U0 hin) rfl rfl rfl (hu _ hlk.2.2.1) (hu _ hlk.1) hy hR, hu _ hlk.2.1⟩ ⟨WdA_blind, fun U hU hWm => ⟨rfl, Wd_of hX hH hS hU hWm, by rw [hU, hzz]; exact hz⟩⟩ rfl hn hl.1 rfl (lv_room hW) hd hg2
end JC
