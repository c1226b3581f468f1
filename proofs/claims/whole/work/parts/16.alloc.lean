/-! rows of laws are made -/
def appK (σ : St) (z : Nat) (xs : List Int32) : St := (σ.1, σ.2.1, σ.2.2.1, σ.2.2.2 ++ [(z, xs)])
def Pok (σ : St) : Bool := decide (σ.2.2.1 10 12 < Kn σ + 2 ∧ σ.2.2.1 10 13 < Kn σ + 2 ∧ σ.2.2.1 23 12 < Kn σ + 2 ∧ σ.2.2.1 23 13 < Kn σ + 2)
def lyChk : Bool := (List.range 98).all fun i => match xLyL.getD i (.inl (0, 0)) with
  | .inl _ => true
  | .inr q => (List.range q.2.1).all fun k => decide ((q.2.2 k).1 < 4) || (decide (i = 10 ∨ i = 23) && decide (k = 12 ∨ k = 13))
theorem lyChk_ok : lyChk = true := by decide +kernel
theorem lyK {i : Nat} {q : Nat × Nat × (Nat → Nat × Nat)} (h : xLy.2.1 i = .inr q) {k : Nat} (hk : k < q.2.1) (h4 : 4 ≤ (q.2.2 k).1) : (i = 10 ∨ i = 23) ∧ (k = 12 ∨ k = 13) := by
  have h' : xLyL.getD i (.inl (0, 0)) = .inr q := h
  have hi : i < 98 := by
    apply Nat.lt_of_not_le
    intro hge
    rw [List.getD, List.getElem?_eq_none (by exact hge)] at h'
    cases h'
  have h1 := List.all_eq_true.mp lyChk_ok i (List.mem_range.mpr hi)
  rw [h'] at h1
  have h2 := List.all_eq_true.mp h1 k (List.mem_range.mpr hk)
  simp only [Bool.or_eq_true, Bool.and_eq_true, decide_eq_true_eq] at h2
  omega
theorem Kn_app (σ : St) (z : Nat) (xs : List Int32) : Kn (appK σ z xs) = Kn σ + 1 := by simp [Kn, appK]
theorem lawad_app {w : WT} {σ : St} {z : Nat} {xs : List Int32} {d : Nat} (h : d < Kn σ + 2) : lawad w (appK σ z xs) d = lawad w σ d := by
  match d, h with
  | 0, _ => rfl
  | 1, _ => rfl
  | k + 2, h =>
    show ((σ.2.2.2 ++ [(z, xs)]).getD k (0, [])).1 = _
    have hk : k < σ.2.2.2.length := by have : k + 2 < σ.2.2.2.length + 2 := h; omega
    simp only [List.getD, List.getElem?_append_left hk]
    rfl
theorem lawad_new {w : WT} {σ : St} {z : Nat} {xs : List Int32} : lawad w (appK σ z xs) (Kn σ + 2) = z := by
  show ((σ.2.2.2 ++ [(z, xs)]).getD (Kn σ) (0, [])).1 = _
  simp [List.getD, Kn]
theorem cel_app {w : WT} (hw : isX w) {σ : St} (hp : Pok σ = true) (z : Nat) (xs : List Int32) (i : Nat) : cel w (appK σ z xs) i = cel w σ i := by
  have hp := of_decide_eq_true hp
  unfold cel
  split
  · rfl
  · rename_i q hq
    have hq : xLy.2.1 i = .inr q := by
      have e : w.1.2.1 = xLy.2.1 := by rcases hw.1 with e | e <;> rw [e] <;> rfl
      rw [← e]; exact hq
    congr 2
    apply List.map_congr_left
    intro k hk
    have hk := List.mem_range.mp hk
    unfold fvl
    split
    · rfl
    · rfl
    · rfl
    · rfl
    · rename_i h0 h1 h2 h3
      have h4 : 4 ≤ (q.2.2 k).1 := by
        apply Nat.le_of_not_lt
        intro hlt
        have : (q.2.2 k).1 = 0 ∨ (q.2.2 k).1 = 1 ∨ (q.2.2 k).1 = 2 ∨ (q.2.2 k).1 = 3 := by omega
        rcases this with e | e | e | e
        · exact h0 e
        · exact h1 e
        · exact h2 e
        · exact h3 e
      have hh := lyK hq hk h4
      have hlt : σ.2.2.1 i k < Kn σ + 2 := by
        rcases hh with ⟨rfl | rfl, rfl | rfl⟩
        · exact hp.1
        · exact hp.2.1
        · exact hp.2.2.1
        · exact hp.2.2.2
      show Value.ref (lawad w (appK σ z xs) (σ.2.2.1 i k)) = _
      rw [lawad_app hlt]
theorem wal_app {w : WT} (hw : isX w) {σ : St} (hp : Pok σ = true) (z : Nat) (xs : List Int32) : wal w (appK σ z xs) = wal w σ ++ [(z, .inl (wcT w 0, xs.length, .inl (fun j => xs.getD j 0)))] := by
  have h1 : wws w (appK σ z xs) = wws w σ := by
    unfold wws
    apply List.map_congr_left
    intro i _
    rw [cel_app hw hp]
  show wws w (appK σ z xs) ++ wdy w (appK σ z xs) = _
  rw [h1, List.append_assoc]
  congr 1
  simp [wdy, appK]
theorem arr_zer0 (cA : ClassId) (N : Nat) : ({ cls := cA, slots := Array.replicate N (.int 0), vm := .none } : Cell) = vp_cell cA (N, .inl (fun j => (List.replicate N (0 : Int32)).getD j 0)) := by
  rw [vp_cell_i]
  unfold arrV
  congr 1
  apply Array.ext
  · simp
  · intro i h1 h2
    have hi : i < N := by simpa using h1
    simp [hi]
section JA
variable {X : CX} {cc : ByteArray} {nL : Nat} {own : String} {ret : Option FieldType} {pc : Nat} {lv : List (Nat × Value)} {rest st0 : List Value} {σ : St} {α : Type} {res : α}
theorem J_newL {n : Int32} {N z : Nat} (hX : gd X cc nL own ret) (hw : isX (xw X)) (hp : Pok σ = true) (hu : Cond.arrayClass .int ∈ U0) (hn : ¬ n < 0) (hN : n.toNatClampNeg = N) (hN2 : N ≤ 1000) (hz : (xs X).heap.size + ((xg X) (Kn σ)).1 = z) (hg : ((xg X) (Kn σ)).1 + 1 = ((xg X) (Kn σ + 1)).1 ∧ ((xg X) (Kn σ)).2 + N ≤ ((xg X) (Kn σ + 1)).2) (hR : ((xg X) (Kn σ)).1 + 1 ≤ (xR X).cells ∧ ((xg X) (Kn σ)).2 + N ≤ (xR X).slots) (hd : decode cc pc = .ok (.newarray .int, 2))
    (kk : Jd X nL (pc + 2) lv (.ref z :: rest) (appK σ z (List.replicate N 0))) : Jd X nL pc lv (.int n :: rest) σ := by
  intro H locs ls hH hS hzz hl
  refine W.newa (atype := .int) hX.1 hX.2.1 (hX.2.2.2.2.1 _ hu) rfl hd rfl hn (by rw [hN]; show N * 4 ≤ _; omega) hR.1 (by rw [hN]; exact hR.2) (fun cA kA comp h1 h2 h3 => ?_)
  have hcA : cA = wcT (xw X) 0 := by
    have h4 : va_RA (xs X) (wcT (xw X) 0) .int := (hX.2.2.2.2.2.2.1.2 0 (wcT (xw X) 0, .int) rfl).2
    exact Option.some.inj (h1.symm.trans h4)
  subst hcA
  have hsz : H.size = z := hzz.trans hz
  have hcell : ({ cls := wcT (xw X) 0, slots := Array.replicate n.toNatClampNeg (defaultValue (newarray.typeOf .int)), vm := .none } : Cell) = vp_cell (wcT (xw X) 0) (N, .inl (fun j => (List.replicate N (0 : Int32)).getD j 0)) := by
    rw [hN]; exact arr_zer0 _ N
  rw [hcell]
  generalize hc : vp_cell (wcT (xw X) 0) (N, .inl (fun j => (List.replicate N (0 : Int32)).getD j 0)) = cell
  have hreg : wReg (xw X) z := hX.2.2.2.2.2.1.1 z (by rw [← hsz]; exact Nat.le_trans hX.2.2.2.2.2.2.2.2.1 hS.1)
  have hold : ∀ q : Nat, q < H.size → (H.push cell)[q]? = H[q]? := fun q hq => by rw [Array.getElem?_push_lt hq, Array.getElem?_eq_getElem hq]
  have hP1 : va_P (wD (xw X)) vwCl (wal (xw X) (appK σ z (List.replicate N 0))) (H.push cell) := by
    rw [wal_app hw hp]
    refine va_P.app (hH.1.kept (fun k q hk => hold _ (hH.1 k q hk).lt)) ?_
    intro k q hk
    have hk0 : k = 0 := by
      have := (List.getElem?_eq_some_iff.mp hk).1
      simpa using this
    subst hk0
    cases hk
    show (H.push cell)[z]? = some (vp_cell _ _)
    rw [← hsz, Array.getElem?_push_size, ← hc, List.length_replicate]
  have hD1 : va_D (wReg (xw X)) (wal (xw X) (appK σ z (List.replicate N 0))) := by
    rw [wal_app hw hp]
    exact va_D.push hH.2 hH.1 hsz.symm hreg
  have hS1 : va_S (wReg (xw X)) (xs X).heap (H.push cell) locs := ⟨by rw [Array.size_push]; exact Nat.le_succ_of_le hS.1, fun q h1 h2 => by rw [hold q (Nat.lt_of_lt_of_le h1 hS.1)]; exact hS.2.1 q h1 h2, hS.2.2⟩
  have hk := kk (H.push cell) locs ls ⟨hP1, hD1⟩ hS1 (by rw [Array.size_push, hzz, Kn_app, ← hg.1]; omega) hl
  rw [Kn_app] at hk
  rw [hsz]
  exact W.widen (Nat.le_of_eq hg.1) (by rw [hN]; exact hg.2) hk
theorem J_copyL {i0 n0 N z idx : Nat} (hX : gd X cc nL own ret) (hw : isX (xw X)) (hp : Pok σ = true) (hq0 : isC (xw X) i0 (.inl (0, n0))) (hN : N ≤ n0) (hN2 : N ≤ 1000) (hl : Cond.methodLink own idx arraycopyName ∈ U0 ∧ Cond.native arraycopyName ∈ U0 ∧ Cond.static arraycopyName ∈ U0 ∧ Cond.initialized "java/lang/System" ∈ U0) (hr : 1 ≤ (xR X).frames ∧ 26 ≤ (xR X).locals) (hW : (rest.map fun v => v.category).sum ≤ 8) (hd : decode cc pc = .ok (.invokestatic idx, 3))
    (kk : Jd X nL (pc + 3) lv rest (appK σ z ((List.range N).map (σ.1 i0)))) : Jd X nL pc lv (.int (nI N) :: .int 0 :: .ref z :: .int 0 :: .ref (wad (xw X) i0) :: rest) (appK σ z (List.replicate N 0)) := by
  intro H locs ls hH hS hz hlv
  have hu := hX.2.2.2.2.1
  have he0 := wal_get (w := xw X) (appK σ z (List.replicate N 0)) hq0.1
  rw [cel_arr hq0.2] at he0
  have hlen : (wal (xw X) σ).length = (xw X).1.1 + Kn σ := by
    show (wws (xw X) σ ++ wdy (xw X) σ).length = _
    rw [List.length_append, wws_len]; simp [wdy, Kn]
  have he1 : (wal (xw X) (appK σ z (List.replicate N 0)))[(xw X).1.1 + Kn σ]? = some (z, .inl (wcT (xw X) 0, N, .inl (fun j => (List.replicate N (0 : Int32)).getD j 0))) := by
    rw [wal_app hw hp, List.getElem?_append_right (by omega), hlen, Nat.sub_self]
    simp
  have e0 : (0 : Int32).toNatClampNeg = 0 := rfl
  have eN : (nI N).toNatClampNeg = N := nI_clamp (by omega)
  refine va_copyi hX.1 hX.2.1 (hX.2.2.1.trans hlv.1.symm) hX.2.2.2.1 (hu _ hl.1) (hu _ hl.2.1) (hu _ hl.2.2.1) (hu _ hl.2.2.2) hX.2.2.2.2.2.2.1 hH.1 hH.2 (va_S_hh hS) i0 ((xw X).1.1 + Kn σ) 0 0 he0 he1 rfl rfl rfl (by decide) (by decide) (nI_pos (by omega)) (by rw [e0, eN]; omega) (by rw [e0, eN]; omega) (fun _ _ => rfl) hr.1 (by have e : nativeFrameWords "java/lang/System" "arraycopy" 5 = 7 := rfl; omega) hd (fun H1 locs1 hP1 hD1 hS1 => ?_)
  have e : (wal (xw X) (appK σ z (List.replicate N 0))).set ((xw X).1.1 + Kn σ) (z, .inl (wcT (xw X) 0, N, .inl (va_cpy (σ.1 i0) (fun j => (List.replicate N (0 : Int32)).getD j 0) (0 : Int32).toNatClampNeg (0 : Int32).toNatClampNeg (nI N).toNatClampNeg))) = wal (xw X) (appK σ z ((List.range N).map (σ.1 i0))) := by
    rw [wal_app hw hp, wal_app hw hp, List.set_append, if_neg (by omega), hlen, Nat.sub_self, e0, eN]
    simp only [List.set_cons_zero, List.length_map, List.length_range]
    congr 6
    apply congrArg
    funext j
    by_cases hj : j < N
    · simp [va_cpy, hj]
    · simp [va_cpy, hj]
  rw [show (appK σ z (List.replicate N 0)).1 = σ.1 from rfl] at hP1 hD1
  rw [e] at hP1 hD1
  intro T hT XX
  have hup := stand_le XX
  rw [hT] at hup
  have hlo := hS1.1
  rw [Kn_app] at hz hup
  have hk := kk H1 locs1 ls ⟨hP1, hD1⟩ (va_S_tr hS hS1) (by rw [Kn_app]; exact Nat.le_antisymm hup (by rw [hz] at hlo; exact hlo)) hlv
  rw [Kn_app] at hk
  rw [Kn_app] at XX
  exact hk T hT XX
/-- the counts of a method that makes rows: from k0 on -/
abbrev gA (k0 : Nat) : Nat → Nat × Nat := fun k => (k - k0, 1000 * (k - k0))
theorem KA_callV {y : MethodName} {bytes : ByteArray} {maxL f lo idx n i ci N F Lo k0 mc ms : Nat} {rt : Option FieldType} {fk : Nat → Nat × Nat} {T : u_T} {ty : Nat → FieldType} (As : List Value) {r : Option Value} {τ : St} {a : Option α} (hX : gd X cc nL own ret) (hg : xg X = gA k0) (hR : xR X = rmOf F Lo mc ms) (hC : Ct y bytes maxL rt f lo (xw X) (.ref (wad (xw X) i) :: As) σ r τ 0 0) (hlk : lkV own idx y bytes maxL rt) (hy : mdOK y n) (hq : isC (xw X) i (.inr (ci, N, fk))) (hc : clsOK ci y.cls T N ty)
    (hr : f + 1 ≤ F ∧ 8 + (maxL + 11) + lo ≤ Lo) (hn : As.length = n) (hst : st0 = As.reverse ++ .ref (wad (xw X) i) :: rest) (hW : (rest.map fun v => v.category).sum ≤ 8) (hd : decode cc pc = .ok (.invokevirtual idx, 3))
    (h : chk (decide (Kn τ = Kn σ ∧ Kn σ - k0 ≤ mc ∧ 1000 * (Kn σ - k0) ≤ ms)) a = some res) (kk : a = some res → Jd X nL (pc + 3) lv (r.toList ++ rest) τ) : Jd X nL pc lv st0 σ := by
  have hk := of_decide_eq_true (chk_some h).1
  exact J_callV hX hC hlk hy hq hc (by rw [hR]; exact hr) (by rw [hg, hk.1]; exact ⟨rfl, Nat.le_refl _⟩) (by rw [hg, hR]; exact ⟨hk.2.1, hk.2.2⟩) hn hst hW hd (kk (chk_some h).2)
theorem KA_callVA {y : MethodName} {bytes : ByteArray} {maxL f lo idx n i ci N F Lo k0 mc ms hb : Nat} {rt : Option FieldType} {fk : Nat → Nat × Nat} {T : u_T} {ty : Nat → FieldType} (As : List Value) {r : Option Value} {τ : St} {a : Option α} (hX : gd X cc nL own ret) (hg : xg X = gA k0) (hR : xR X = rmOf F Lo mc ms) (hs : (xs X).heap.size = hb + k0) (hC : CtA y bytes maxL rt f lo (xw X) (.ref (wad (xw X) i) :: As) σ (hb + Kn σ) r τ (Kn τ - Kn σ) (1000 * (Kn τ - Kn σ)) true) (hlk : lkV own idx y bytes maxL rt) (hy : mdOK y n) (hq : isC (xw X) i (.inr (ci, N, fk))) (hc : clsOK ci y.cls T N ty)
    (hr : f + 1 ≤ F ∧ 8 + (maxL + 11) + lo ≤ Lo) (hn : As.length = n) (hst : st0 = As.reverse ++ .ref (wad (xw X) i) :: rest) (hW : (rest.map fun v => v.category).sum ≤ 8) (hd : decode cc pc = .ok (.invokevirtual idx, 3))
    (h : chk (decide (k0 ≤ Kn σ ∧ Kn σ ≤ Kn τ ∧ Kn τ - k0 ≤ mc ∧ 1000 * (Kn τ - k0) ≤ ms)) a = some res) (kk : a = some res → Jd X nL (pc + 3) lv (r.toList ++ rest) τ) : Jd X nL pc lv st0 σ := by
  have hk := of_decide_eq_true (chk_some h).1
  have e1 : (gA k0 (Kn σ)).1 + (Kn τ - Kn σ) = (gA k0 (Kn τ)).1 := by show Kn σ - k0 + (Kn τ - Kn σ) = Kn τ - k0; omega
  have e2 : (gA k0 (Kn σ)).2 + 1000 * (Kn τ - Kn σ) = (gA k0 (Kn τ)).2 := by show 1000 * (Kn σ - k0) + 1000 * (Kn τ - Kn σ) = 1000 * (Kn τ - k0); omega
  exact J_callVA hX hC (by rw [hg, hs]; show hb + k0 + (Kn σ - k0) = hb + Kn σ; omega) hlk hy hq hc (by rw [hR]; exact hr) (by rw [hg]; exact ⟨e1, Nat.le_of_eq e2⟩) (by rw [hg, hR, e1, e2]; exact ⟨hk.2.2.1, hk.2.2.2⟩) hn hst hW hd (kk (chk_some h).2)
theorem K_aret {v r : Nat} {τ : St} (hX : gd X cc nL own (some (.array .int))) (hr : xr X = (some (.ref r), τ)) (hd : decode cc pc = .ok (.areturn, 1)) (h1 : v = r) (h2 : σ = τ) : Jd X nL pc lv [.ref v] σ := by
  subst h1; subst h2
  intro H locs ls hH hS hz hl
  have hg := hX.2.2.2.2.2.2.2.2.2.2.2
  refine W_imp hg.2.2 ?_
  rw [hr] at hg
  refine W.widen hg.1.1 hg.2.1 ?_
  exact W.aret hX.1 hX.2.1 hX.2.2.2.2.2.2.2.2.2.2.1 (Or.inr ⟨_, rfl⟩) (Or.inr ⟨_, rfl⟩) (fun t ht hW => ⟨by rw [hr], by rw [hr]; exact Wd_of hX hH hS ht hW, hS.F ht, fun hq => by rw [ht, hz, ← hg.1.2 hq]⟩) hS.2.2 hd (hlocks := hX.2.2.2.2.2.2.2.2.2.1)
end JA
