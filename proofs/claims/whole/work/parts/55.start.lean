def R_law : String := "SkinCarriersLaw"
def lw_P (b : Addr) (xs : List Int32) (args : Array Value) (s : State) : Prop := args = #[.ref b] ∧ s.IntsAt b xs ∧ xs.length ≤ 3584 ∧ (Jvm.Cond.and given_1 narrow_1).before args s = true
def lw_Q (_ : Array Value) (s : State) (o : Outcome) (t : State) : Prop := o = .returned (some (.int 1)) ∧ Framed s o t [] 601024 7293034
def lw_Z (below : List Frame) (a : Array Value) (s : State) : State → Prop := fun t => ∃ o, t.status = .running ∧ Ended t below o ∧ lw_Q a s o t
/-- the law's own end, with 1 on the stack, nothing written that was there before, its room as the claim has it -/
theorem lw_ret {p : Program} {l : Launch} {e : Env} {s : State} {m : MethodId} {below : List Frame} {meth : Method} {c : Code} {b : Nat} (hx : p.tables.exec = Jvm.exec) (hb : c.code = code) (hr : meth.sig.returnType = ret) (hlocks : meth.locks = false) {pc : Nat} {H : Heap} {ls : Array Slot} (hdg : decode code pc = .ok (.ireturn, 1)) : W p l e room_1 s m #[Value.ref b] below meth c H [] 601024 7293034 (lw_Z below #[Value.ref b] s) (F0 m pc ls [.int 1]) := by
  intro T hT X
  obtain ⟨fs, hret, hrun, hended, hW, hframe⟩ := X.leave (v := some (.int 1)) (hlocks := hlocks) (fun h => by rw [hr] at h; cases h)
  have hmeth' : T.vm.method? m = some meth := X.method'
  refine ⟨T.setFrames fs, ?_, .returned (some (.int 1)), hrun, hended, rfl, ⟨_, rfl⟩, hW, hframe⟩
  jvm_step X.here [X.here.top, hx, hb, hdg, hmeth', hr, ret, narrow_b1]
  (try refine ⟨rfl, ?_⟩); (try refine ⟨rfl, ?_⟩)
  first | (intro acts; rw [hret _ acts rfl rfl rfl]) | rw [hret _ _ rfl rfl rfl]
  exact Steps.refl _
/-- what holds at the law's entry: the machine, the code, the tables' words (any of lw_tbl by 'hts w (by decide +kernel)'), the script of L ints xs at the cell b, what the Statement gives of the start (any of its parts by flat_of_before) -/
def lw_At (p : Program) (s : State) (m : MethodId) (meth : Method) (c : Code) (b L : Nat) (xs : Nat → Int32) : Prop :=
  p.tables.exec = Jvm.exec ∧ c.code = code ∧ meth.sig.returnType = ret ∧ c.maxLocals = 7 ∧ s.vm.findClass R_law = some m.cls ∧ (∀ w ∈ lw_tbl, w.before #[Value.ref b] s = true) ∧ va_X b L xs s s.heap ∧ b < s.heap.size ∧ meth.locks = false ∧ (Jvm.Cond.and given_1 narrow_1).before #[Value.ref b] s = true
/-- the law's end: what was there before is as it was -/
theorem law_end {X : CX} {b L : Nat} {xs' : Nat → Int32} {qx qm : List Nat} {i : Int32} {ws : va_W} {k n : Nat} (hl : lawX X b L xs') (ha : xa X = #[Value.ref b]) (hr : (xme X).sig.returnType = ret) (hQ : xQ X = lw_Z (xb X) #[Value.ref b] (xs X)) (hReg : ∀ q, wReg (xw X) q → (xs X).heap.size ≤ q) (hk : k ≤ 601024) (hn : n ≤ 7293034) : Lj X 7 1207 (lawlv b 0 qx qm i) [] ws k n := by
  obtain ⟨hX, hR, -, -⟩ := hl
  refine L_iconst (v := 1) hX dL_law_1207 (by decide) ?_
  intro H locs ls hP hD hS hlv T hT XX
  have X1 := Stand.dropFresh (locs := []) (J := locs) XX (fun x hx => hReg _ (hS.2.2 x hx))
  have X2 := stand_widen X1 hk hn
  rw [hQ]
  rw [hR, ha] at X2
  exact lw_ret hX.1 hX.2.1 hr hX.2.2.2.2.2.2.2.2.1 dL_law_1208 T hT X2
theorem L_eqv {X : CX} {nL pc : Nat} {lv : List (Nat × Value)} {rest : List Value} {ws ws' : va_W} {k n : Nat} (hlen : ws'.length = ws.length) (he : ∀ i, i < ws.length → ∀ p q, ws[i]? = some p → ws'[i]? = some q → p.1 = q.1 ∧ ∀ H : Heap, va_at (wD (xw X)) vwCl p H → va_at (wD (xw X)) vwCl q H) (kk : Lj X nL pc lv rest ws' k n) : Lj X nL pc lv rest ws k n := by
  intro H locs ls hP hD hS hl
  have key : ∀ (i : Nat) (q : Nat × va_E), ws'[i]? = some q → ∃ p, ws[i]? = some p ∧ p.1 = q.1 ∧ ∀ H : Heap, va_at (wD (xw X)) vwCl p H → va_at (wD (xw X)) vwCl q H := by
    intro i q hq
    have hi : i < ws.length := by rw [← hlen]; exact (List.getElem?_eq_some_iff.mp hq).1
    exact ⟨ws[i], List.getElem?_eq_getElem hi, he i hi _ _ (List.getElem?_eq_getElem hi) hq⟩
  refine kk H locs ls (fun i q hq => ?_) ⟨fun i j p q hi hj e => ?_, fun i q hq => ?_⟩ hS hl
  · obtain ⟨p, h1, h2, h3⟩ := key i q hq
    exact h3 H (hP i p h1)
  · obtain ⟨p', h1, h2, -⟩ := key i p hi
    obtain ⟨q', h3, h4, -⟩ := key j q hj
    exact hD.1 i j p' q' h1 h3 (by rw [h2, h4]; exact e)
  · obtain ⟨p, h1, h2, -⟩ := key i q hq
    rw [← h2]; exact hD.2 i p h1
theorem L_swap3 {X : CX} {nL pc : Nat} {lv : List (Nat × Value)} {rest : List Value} {a b c : va_W} {k n : Nat} (kk : Lj X nL pc lv rest ((a ++ c) ++ b) k n) : Lj X nL pc lv rest ((a ++ b) ++ c) k n := fun H locs ls hP hD hS hl => kk H locs ls hP.swap hD.swap hS hl
abbrev qxOf (qs : List Nat) (q : Nat) : List Nat := (List.range 97).map (fun i => qs.getD i 0) ++ [q]
set_option maxRecDepth 100000 in
theorem cel_cvt {X : CX} {qs : List Nat} {q : Nat} {S : (Nat → Prop) → State → Heap → Prop} (σ : St) : ∀ i, i < 97 → i ≠ 3 → cel (wX (wD (xw X)) (wcT (xw X)) (wadW (xw X)) (wSt2 (xw X)) xLy qs S (fun _ => True) 0) σ i = cel (wX (wD (xw X)) (wcT (xw X)) (wadW (xw X)) (wSt2 (xw X)) xLyO (qxOf qs q) S (fun _ => True) 0) σ i := by
  intro i hi h3
  match i, hi with
  | 0, _ => rfl
  | 1, _ => rfl
  | 2, _ => rfl
  | 3, _ => exact absurd rfl h3
  | 4, _ => rfl
  | 5, _ => rfl
  | 6, _ => rfl
  | 7, _ => rfl
  | 8, _ => rfl
  | 9, _ => rfl
  | 10, _ => rfl
  | 11, _ => rfl
  | 12, _ => rfl
  | 13, _ => rfl
  | 14, _ => rfl
  | 15, _ => rfl
  | 16, _ => rfl
  | 17, _ => rfl
  | 18, _ => rfl
  | 19, _ => rfl
  | 20, _ => rfl
  | 21, _ => rfl
  | 22, _ => rfl
  | 23, _ => rfl
  | 24, _ => rfl
  | 25, _ => rfl
  | 26, _ => rfl
  | 27, _ => rfl
  | 28, _ => rfl
  | 29, _ => rfl
  | 30, _ => rfl
  | 31, _ => rfl
  | 32, _ => rfl
  | 33, _ => rfl
  | 34, _ => rfl
  | 35, _ => rfl
  | 36, _ => rfl
  | 37, _ => rfl
  | 38, _ => rfl
  | 39, _ => rfl
  | 40, _ => rfl
  | 41, _ => rfl
  | 42, _ => rfl
  | 43, _ => rfl
  | 44, _ => rfl
  | 45, _ => rfl
  | 46, _ => rfl
  | 47, _ => rfl
  | 48, _ => rfl
  | 49, _ => rfl
  | 50, _ => rfl
  | 51, _ => rfl
  | 52, _ => rfl
  | 53, _ => rfl
  | 54, _ => rfl
  | 55, _ => rfl
  | 56, _ => rfl
  | 57, _ => rfl
  | 58, _ => rfl
  | 59, _ => rfl
  | 60, _ => rfl
  | 61, _ => rfl
  | 62, _ => rfl
  | 63, _ => rfl
  | 64, _ => rfl
  | 65, _ => rfl
  | 66, _ => rfl
  | 67, _ => rfl
  | 68, _ => rfl
  | 69, _ => rfl
  | 70, _ => rfl
  | 71, _ => rfl
  | 72, _ => rfl
  | 73, _ => rfl
  | 74, _ => rfl
  | 75, _ => rfl
  | 76, _ => rfl
  | 77, _ => rfl
  | 78, _ => rfl
  | 79, _ => rfl
  | 80, _ => rfl
  | 81, _ => rfl
  | 82, _ => rfl
  | 83, _ => rfl
  | 84, _ => rfl
  | 85, _ => rfl
  | 86, _ => rfl
  | 87, _ => rfl
  | 88, _ => rfl
  | 89, _ => rfl
  | 90, _ => rfl
  | 91, _ => rfl
  | 92, _ => rfl
  | 93, _ => rfl
  | 94, _ => rfl
  | 95, _ => rfl
  | 96, _ => rfl
  | n + 97, h => exact absurd h (by omega)
