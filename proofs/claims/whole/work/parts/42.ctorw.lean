/-! from lists of cells to the worlds of abstract states -/
abbrev wX (D : va_G) (cT : Nat → ClassId) (ad : Nat → Nat) (pp : Nat × Nat) (lay : LyT) (qs : List Nat) (S : (Nat → Prop) → State → Heap → Prop) (Reg : Nat → Prop) (B : Nat) : WT := (lay, D, fun i => qs.getD i 0, cT, ad, pp, Reg, B, S Reg)
def Clo (S : (Nat → Prop) → State → Heap → Prop) : Prop := ∀ (Reg : Nat → Prop) (u U : State) (H H1 : Heap), u.WarmedH U.vm → H.size ≤ H1.size → (∀ q, q < H.size → ¬ Reg q → H1[q]? = H[q]?) → S Reg u H → S Reg U H1
theorem Clo_x (ad : Nat → Nat) (pp : Nat × Nat) : Clo (fun Reg => xSx ad pp Reg) := fun _ _ _ _ _ hW _ hq h => SOK_kept (SOK_warm hW h) hq
theorem Clo_m : Clo (fun _ _ _ => True) := fun _ _ _ _ _ _ _ _ _ => trivial
section LW
variable {X : CX} {cc : ByteArray} {nL : Nat} {own : String} {pc : Nat} {lv : List (Nat × Value)} {rest st0 : List Value} {ws ws' : va_W} {k n : Nat}
theorem L_sub (is : List Nat) (hs : is.filterMap (fun i => ws[i]?) = ws') (hm : is.map (fun i => ws[i]?) = ws'.map some) (hn : va_nd is = true) (kk : Lj X nL pc lv rest ws' k n) : Lj X nL pc lv rest ws k n := fun H locs ls hP hD hS hl => kk H locs ls (hP.sub is hs) (hD.sub is hn hm) hS hl
theorem L_congq {i a N : Nat} {c : ClassId} {f g : Nat → Option Nat} (he : ws[i]? = some (a, .inl (c, N, .inr (.inr (.inr (.inr f)))))) (hfg : ∀ j, j < N → f j = g j) (hws : ws.set i (a, .inl (c, N, .inr (.inr (.inr (.inr g))))) = ws') (kk : Lj X nL pc lv rest ws' k n) : Lj X nL pc lv rest ws k n := by
  intro H locs ls hP hD hS hl
  have e : vp_cell c (N, .inr (.inr (.inr (.inr f)))) = vp_cell c (N, .inr (.inr (.inr (.inr g)))) := by
    rw [vp_cell_q, vp_cell_q]
    unfold arrV
    congr 1
    apply Array.ext
    · simp
    · intro j h1 h2
      have hj : j < N := by simpa using h1
      simp [hfg j hj]
  have hP1 := hP.set (e := .inl (c, N, .inr (.inr (.inr (.inr g))))) (H1 := H) hD he (by
    have h1 : H[a]? = some (vp_cell c (N, .inr (.inr (.inr (.inr f))))) := hP i _ he
    show H[a]? = some (vp_cell c (N, .inr (.inr (.inr (.inr g)))))
    rw [h1, e]) (fun _ _ => rfl)
  have hD1 := hD.set (e := .inl (c, N, .inr (.inr (.inr (.inr g))))) he
  rw [hws] at hP1 hD1
  exact kk H locs ls hP1 hD1 hS hl
theorem L_callW {lay : LyT} {qs : List Nat} {S : (Nat → Prop) → State → Heap → Prop} {y : MethodName} {bytes : ByteArray} {maxL f lo idx na i ci N : Nat} {fk : Nat → Nat × Nat} {T : u_T} {ty : Nat → FieldType} {rt : Option FieldType} {σ τ : St} {r : Option Value} (As : List Value) (hX : gL X cc nL own) (hcl : Clo S) (hSx : ∀ (Reg : Nat → Prop) (H : Heap) (locs : List Loc), va_S (wReg (xw X)) (xs X).heap H locs → (∀ q, Reg q → wReg (xw X) q) → S Reg (xs X) H)
    (hC : ∀ Reg B, Ct y bytes maxL rt f lo (wX (wD (xw X)) (wcT (xw X)) (wadW (xw X)) (wSt2 (xw X)) lay qs S Reg B) (.ref (qs.getD i 0) :: As) σ r τ 0 0)
    (hlk : lkV own idx y bytes maxL rt) (hy : mdOK y na) (hq : ∀ Reg B, isC (wX (wD (xw X)) (wcT (xw X)) (wadW (xw X)) (wSt2 (xw X)) lay qs S Reg B) i (.inr (ci, N, fk))) (hc : clsOK ci y.cls T N ty)
    (hR : f + 1 ≤ (xR X).frames ∧ 8 + (maxL + 11) + lo ≤ (xR X).locals) (hR2 : k ≤ (xR X).cells ∧ n ≤ (xR X).slots) (hn : As.length = na) (hst : st0 = As.reverse ++ .ref (qs.getD i 0) :: rest) (hW : (rest.map fun v => v.category).sum ≤ 8) (hd : decode cc pc = .ok (.invokevirtual idx, 3))
    (kk : Lj X nL (pc + 3) lv (r.toList ++ rest) (wal (wX (wD (xw X)) (wcT (xw X)) (wadW (xw X)) (wSt2 (xw X)) lay qs S (fun _ => True) 0) τ) k n) : Lj X nL pc lv st0 (wal (wX (wD (xw X)) (wcT (xw X)) (wadW (xw X)) (wSt2 (xw X)) lay qs S (fun _ => True) 0) σ) k n := by
  subst hst
  intro H locs ls hP hD hS hl T hT XX
  generalize hws : wal (wX (wD (xw X)) (wcT (xw X)) (wadW (xw X)) (wSt2 (xw X)) lay qs S (fun _ => True) 0) σ = ws at hP hD
  have hX' := hX
  obtain ⟨hx, hb, hml, ho, hu, hK, hA, -, -, -, hN, hSk⟩ := hX'
  have hRA : ∀ q, va_A ws H.size q → wReg (xw X) q := by
    intro q h
    rcases h with ⟨j, e, h⟩ | h
    · exact hD.2 j (q, e) h
    · exact hA q (Nat.le_trans hS.1 h)
  have hwal : wal (wX (wD (xw X)) (wcT (xw X)) (wadW (xw X)) (wSt2 (xw X)) lay qs S (va_A ws H.size) H.size) σ = ws := hws
  have hHw : Hw (wX (wD (xw X)) (wcT (xw X)) (wadW (xw X)) (wSt2 (xw X)) lay qs S (va_A ws H.size) H.size) σ H := ⟨by rw [hwal]; exact hP, by rw [hwal]; exact hD.self (sz := H.size)⟩
  have hok : Wok (wX (wD (xw X)) (wcT (xw X)) (wadW (xw X)) (wSt2 (xw X)) lay qs S (va_A ws H.size) H.size) := ⟨fun q hq => Or.inr hq, fun u U H0 H1 => hcl _ u U H0 H1⟩
  have hq1 := hq (va_A ws H.size) H.size
  have he := wal_get (w := wX (wD (xw X)) (wcT (xw X)) (wadW (xw X)) (wSt2 (xw X)) lay qs S (va_A ws H.size) H.size) σ hq1.1
  rw [cel_obj hq1.2] at he
  have hrun : va_Run (xp X) (xl X) (xe X) (xR X) (xs X) (xm X) (xa X) (xb X) (xme X) (xc X) H locs k n 0 0 (F0 (xm X) pc ls (As.reverse ++ .ref (qs.getD i 0) :: rest)) rest (QcW (wX (wD (xw X)) (wcT (xw X)) (wadW (xw X)) (wSt2 (xw X)) lay qs S (va_A ws H.size) H.size) r τ 0 true (.ref (qs.getD i 0) :: As : List Value).toArray) (va_A ws H.size) := va_runV (As := As) (rest := rest) ⟨hx, hb, hml, ho, hu⟩ (hC (va_A ws H.size) H.size (xl X)) (cwV na hu (goodIn_U0 hlk) rfl rfl rfl ⟨rfl, hy⟩ hR) ⟨Wd_blind, va_recv hK hHw.1 (ci := ci) (q0 := i) hc.1 he, fun U hU hWm => ⟨rfl, hok, va_K.moved hWm.alike hK, hcl _ (xs X) U H U.heap hWm (by rw [hU]; exact Nat.le_refl _) (fun q _ _ => by rw [hU]) (hSx _ H locs hS hRA), by rw [hU]; exact Nat.le_refl _, by rw [hU]; exact hHw⟩⟩ rfl hn hl.1 rfl (lv_room hW) hd hR2
  obtain ⟨v, st₀, t, T', L, h0, X', hL, e1, e2, ⟨hv, hWd, ⟨hz, hk⟩, -⟩, st⟩ := hrun T hT XX
  cases hv
  rw [h0] at hz hk
  have hS1 : va_S (wReg (xw X)) (xs X).heap T'.heap (locs ++ L) :=
    ⟨Nat.le_trans hS.1 (by rw [e1]; exact hz), fun q h1 h2 => by rw [e1, hk q (Nat.lt_of_lt_of_le h1 hS.1) (fun z => h2 (hRA q z))]; exact hS.2.1 q h1 h2, fun q hq => by
      rcases List.mem_append.mp hq with h | h
      · exact hS.2.2 q h
      · exact hRA _ (hL q h)⟩
  obtain ⟨t2, a1, b1⟩ := kk T'.heap (locs ++ L) ls (by rw [e1]; exact hWd.2.2.2.2.1) (hWd.2.2.2.2.2.weaken (fun _ q _ h => hRA q.1 h)) hS1 hl T' rfl X'
  exact ⟨t2, st t2 a1, b1⟩
end LW
