/-! the law's own rows: the script, the two objects side by side -/
section LW2
variable {X : CX} {cc : ByteArray} {nL : Nat} {own : String} {pc : Nat} {lv : List (Nat × Value)} {rest st0 : List Value} {ws ws' : va_W} {k n : Nat}
theorem L_isub {x y : Int32} (hX : gL X cc nL own) (hd : decode cc pc = .ok (.isub, 1)) (kk : Lj X nL (pc + 1) lv (.int (x - y) :: rest) ws k n) : Lj X nL pc lv (.int y :: .int x :: rest) ws k n := fun H locs ls hP hD hS hl => lv_isub hX.1 hX.2.1 hd  (kk H locs ls hP hD hS hl)
theorem L_iadd {x y : Int32} (hX : gL X cc nL own) (hd : decode cc pc = .ok (.iadd, 1)) (kk : Lj X nL (pc + 1) lv (.int (x + y) :: rest) ws k n) : Lj X nL pc lv (.int y :: .int x :: rest) ws k n := fun H locs ls hP hD hS hl => lv_iadd hX.1 hX.2.1 hd  (kk H locs ls hP hD hS hl)
theorem L_iand {x y : Int32} (hX : gL X cc nL own) (hd : decode cc pc = .ok (.iand, 1)) (kk : Lj X nL (pc + 1) lv (.int (x &&& y) :: rest) ws k n) : Lj X nL pc lv (.int y :: .int x :: rest) ws k n := fun H locs ls hP hD hS hl => lv_iand hX.1 hX.2.1 hd  (kk H locs ls hP hD hS hl)
theorem L_land {x y : Int64} (hX : gL X cc nL own) (hd : decode cc pc = .ok (.land, 1)) (kk : Lj X nL (pc + 1) lv (.long (x &&& y) :: rest) ws k n) : Lj X nL pc lv (.long y :: .long x :: rest) ws k n := fun H locs ls hP hD hS hl => lv_land hX.1 hX.2.1 hd  (kk H locs ls hP hD hS hl)
theorem L_lor {x y : Int64} (hX : gL X cc nL own) (hd : decode cc pc = .ok (.lor, 1)) (kk : Lj X nL (pc + 1) lv (.long (x ||| y) :: rest) ws k n) : Lj X nL pc lv (.long y :: .long x :: rest) ws k n := fun H locs ls hP hD hS hl => lv_lor hX.1 hX.2.1 hd  (kk H locs ls hP hD hS hl)
theorem L_lshl {x : Int64} {y : Int32} (hX : gL X cc nL own) (hd : decode cc pc = .ok (.lshl, 1)) (kk : Lj X nL (pc + 1) lv (.long (x <<< (y.toInt64 &&& 63)) :: rest) ws k n) : Lj X nL pc lv (.int y :: .long x :: rest) ws k n := fun H locs ls hP hD hS hl => lv_lshl hX.1 hX.2.1 hd rfl (kk H locs ls hP hD hS hl)
theorem L_i2l {x : Int32} (hX : gL X cc nL own) (hd : decode cc pc = .ok (.i2l, 1)) (kk : Lj X nL (pc + 1) lv (.long x.toInt64 :: rest) ws k n) : Lj X nL pc lv (.int x :: rest) ws k n := fun H locs ls hP hD hS hl => lv_i2l hX.1 hX.2.1 hd rfl (kk H locs ls hP hD hS hl)
theorem L_lcmp {x y : Int64} (hX : gL X cc nL own) (hd : decode cc pc = .ok (.lcmp, 1)) (kk : Lj X nL (pc + 1) lv (.int (lg_cmp x y) :: rest) ws k n) : Lj X nL pc lv (.long y :: .long x :: rest) ws k n := fun H locs ls hP hD hS hl => W.lcmp hX.1 hX.2.1 hd  (kk H locs ls hP hD hS hl)
theorem L_iload {i q : Nat} {x : Int32} (hX : gL X cc nL own) (hd : decode cc pc = .ok (.iload i, 2)) (hg : lv[q]? = some (i, .int x)) (kk : Lj X nL (pc + 2) lv (.int x :: rest) ws k n) : Lj X nL pc lv rest ws k n := fun H locs ls hP hD hS hl => lv_iload hX.1 hX.2.1 hd (lv_at hl q hg) (kk H locs ls hP hD hS hl)
theorem L_istore {i : Nat} {x : Int32} {lv' : List (Nat × Value)} (hX : gL X cc nL own) (hd : decode cc pc = .ok (.istore i, 2)) (hn : i < nL) (hlv : (i, Value.int x) :: lv.filter (fun q => !(q.1 == i) && !(q.1 + 1 == i && q.2.category == 2)) = lv') (kk : Lj X nL (pc + 2) lv' rest ws k n) : Lj X nL pc lv (.int x :: rest) ws k n := fun H locs ls hP hD hS hl => lv_istore hX.1 hX.2.1 hd hl hn hlv (fun ls' h' => kk H locs ls' hP hD hS h')
theorem L_astore_n {i : Fin 4} {j x : Nat} {lv' : List (Nat × Value)} (hX : gL X cc nL own) (hd : decode cc pc = .ok (.astore_n i, 1)) (hi : (i : Nat) = j) (hn : j < nL) (hlv : (j, Value.ref x) :: lv.filter (fun q => !(q.1 == j) && !(q.1 + 1 == j && q.2.category == 2)) = lv') (kk : Lj X nL (pc + 1) lv' rest ws k n) : Lj X nL pc lv (.ref x :: rest) ws k n := fun H locs ls hP hD hS hl => lv_astore_n hX.1 hX.2.1 hd hi hl hn hlv (fun ls' h' => kk H locs ls' hP hD hS h')
theorem L_lvsub {lv' : List (Nat × Value)} (ks : List Nat) (hlv : lv_pick lv ks = lv') (kk : Lj X nL pc lv' rest ws k n) : Lj X nL pc lv rest ws k n := fun H locs ls hP hD hS hl => kk H locs ls hP hD hS (lv_sub hl ks hlv)
theorem L_widen {k' n' : Nat} (hk : k ≤ k') (hn : n ≤ n') (kk : Lj X nL pc lv rest ws k' n') : Lj X nL pc lv rest ws k n := fun H locs ls hP hD hS hl => W.widen hk hn (kk H locs ls hP hD hS hl)
theorem L_icmp_eqT {x y : Int32} {off : Int} {tgt : Nat} (hX : gL X cc nL own) (hd : decode cc pc = .ok (.if_icmp .eq off, 3)) (ht : (pc : Int) + off = (tgt : Int)) (h : x = y) (kk : Lj X nL tgt lv rest ws k n) : Lj X nL pc lv (.int y :: .int x :: rest) ws k n := fun H locs ls hP hD hS hl => lv_icmp_eq hX.1 hX.2.1 hd ht (fun _ => kk H locs ls hP hD hS hl) (fun h9 => absurd h h9)
theorem L_icmp_gt {x y : Int32} {off : Int} {tgt : Nat} (hX : gL X cc nL own) (hd : decode cc pc = .ok (.if_icmp .gt off, 3)) (ht : (pc : Int) + off = (tgt : Int)) (kt : y < x → Lj X nL tgt lv rest ws k n) (kf : ¬ (y < x) → Lj X nL (pc + 3) lv rest ws k n) : Lj X nL pc lv (.int y :: .int x :: rest) ws k n := fun H locs ls hP hD hS hl => lv_icmp_gt hX.1 hX.2.1 hd ht (fun h => kt h H locs ls hP hD hS hl) (fun h => kf h H locs ls hP hD hS hl)
theorem L_if_eqT {x : Int32} {off : Int} {tgt : Nat} (hX : gL X cc nL own) (hd : decode cc pc = .ok (.ifCond .eq off, 3)) (ht : (pc : Int) + off = (tgt : Int)) (h : x = 0) (kk : Lj X nL tgt lv rest ws k n) : Lj X nL pc lv (.int x :: rest) ws k n := fun H locs ls hP hD hS hl => lv_if_eq hX.1 hX.2.1 hd ht (fun _ => kk H locs ls hP hD hS hl) (fun h9 => absurd h h9)
theorem L_if_eqF {x : Int32} {off : Int} {tgt : Nat} (hX : gL X cc nL own) (hd : decode cc pc = .ok (.ifCond .eq off, 3)) (ht : (pc : Int) + off = (tgt : Int)) (h : ¬ x = 0) (kk : Lj X nL (pc + 3) lv rest ws k n) : Lj X nL pc lv (.int x :: rest) ws k n := fun H locs ls hP hD hS hl => lv_if_eq hX.1 hX.2.1 hd ht (fun h9 => absurd h9 h) (fun _ => kk H locs ls hP hD hS hl)
theorem L_if_neT {x : Int32} {off : Int} {tgt : Nat} (hX : gL X cc nL own) (hd : decode cc pc = .ok (.ifCond .ne off, 3)) (ht : (pc : Int) + off = (tgt : Int)) (h : ¬ x = 0) (kk : Lj X nL tgt lv rest ws k n) : Lj X nL pc lv (.int x :: rest) ws k n := fun H locs ls hP hD hS hl => lv_if_ne hX.1 hX.2.1 hd ht (fun _ => kk H locs ls hP hD hS hl) (fun h9 => absurd h9 h)
theorem L_if_neF {x : Int32} {off : Int} {tgt : Nat} (hX : gL X cc nL own) (hd : decode cc pc = .ok (.ifCond .ne off, 3)) (ht : (pc : Int) + off = (tgt : Int)) (h : x = 0) (kk : Lj X nL (pc + 3) lv rest ws k n) : Lj X nL pc lv (.int x :: rest) ws k n := fun H locs ls hP hD hS hl => lv_if_ne hX.1 hX.2.1 hd ht (fun h9 => absurd h h9) (fun _ => kk H locs ls hP hD hS hl)
theorem L_tabIn {x : Int32} {dflt lo hi v off : Int} {offs : Array Int} {len tgt : Nat} (hX : gL X cc nL own) (hd : decode cc pc = .ok (.tableswitch dflt lo hi offs, len)) (hv : x.toInt = v) (h1 : ¬ v < lo) (h2 : ¬ hi < v) (ho : offs[(v - lo).toNat]? = some off) (ht : (pc : Int) + off = (tgt : Int)) (kk : Lj X nL tgt lv rest ws k n) : Lj X nL pc lv (.int x :: rest) ws k n := fun H locs ls hP hD hS hl => lv_tableIn hX.1 hX.2.1 hd (by rw [hv]; exact h1) (by rw [hv]; exact h2) (by rw [hv]; exact ho) ht (kk H locs ls hP hD hS hl)
theorem L_tabOut {x : Int32} {dflt lo hi : Int} {offs : Array Int} {len tgt : Nat} (hX : gL X cc nL own) (hd : decode cc pc = .ok (.tableswitch dflt lo hi offs, len)) (h1 : x.toInt < lo ∨ hi < x.toInt) (ht : (pc : Int) + dflt = (tgt : Int)) (kk : Lj X nL tgt lv rest ws k n) : Lj X nL pc lv (.int x :: rest) ws k n := fun H locs ls hP hD hS hl => lv_tableOut hX.1 hX.2.1 hd h1 ht (kk H locs ls hP hD hS hl)
/-- the script lies where nothing is written -/
def scrOK (X : CX) (b L : Nat) (xs' : Nat → Int32) : Prop := va_X b L xs' (xs X) (xs X).heap ∧ b < (xs X).heap.size ∧ ¬ wReg (xw X) b
theorem L_sld {b L : Nat} {xs' : Nat → Int32} {i : Int32} (hX : gL X cc nL own) (hs : scrOK X b L xs') (hin : vp_in i L) (hd : decode cc pc = .ok (.iaload, 1)) (kk : Lj X nL (pc + 1) lv (.int (xs' i.toNatClampNeg) :: rest) ws k n) : Lj X nL pc lv (.int i :: .ref b :: rest) ws k n := fun H locs ls hP hD hS hl => va_sld hX.1 hX.2.1 hs.1 hs.2.1 hs.2.2 hS hin hd (kk H locs ls hP hD hS hl)
theorem L_slen {b L : Nat} {xs' : Nat → Int32} (hX : gL X cc nL own) (hs : scrOK X b L xs') (hd : decode cc pc = .ok (.arraylength, 1)) (kk : Lj X nL (pc + 1) lv (.int (Int32.ofNat L) :: rest) ws k n) : Lj X nL pc lv (.ref b :: rest) ws k n := fun H locs ls hP hD hS hl => va_slen hX.1 hX.2.1 hs.1 hs.2.1 hs.2.2 hS hd (kk H locs ls hP hD hS hl)
theorem L_lald {i N a : Nat} {j : Int32} {f : Nat → Int64} (hX : gL X cc nL own) (he : ws[i]? = some (a, .inl (wcT (xw X) 1, N, .inr (.inl f)))) (hin : vp_in j N) (hd : decode cc pc = .ok (.laload, 1)) (kk : Lj X nL (pc + 1) lv (.long (f j.toNatClampNeg) :: rest) ws k n) : Lj X nL pc lv (.int j :: .ref a :: rest) ws k n := fun H locs ls hP hD hS hl => va_lald hX.1 hX.2.1 hX.2.2.2.2.2.1 hP i 1 he rfl hin hd (kk H locs ls hP hD hS hl)
theorem D_swap {A : Nat → Prop} {a b : va_W} (h : va_D A (a ++ b)) : va_D A (b ++ a) := by
  have key : ∀ (i : Nat) (p : Nat × va_E), (b ++ a)[i]? = some p → ∃ j, (a ++ b)[j]? = some p ∧ ((i < b.length ∧ j = a.length + i) ∨ (b.length ≤ i ∧ j = i - b.length ∧ j < a.length)) := by
    intro i p hi
    by_cases hb : i < b.length
    · rw [List.getElem?_append_left hb] at hi
      exact ⟨a.length + i, by rw [List.getElem?_append_right (by omega), Nat.add_sub_cancel_left]; exact hi, Or.inl ⟨hb, rfl⟩⟩
    · rw [List.getElem?_append_right (by omega)] at hi
      have hj : i - b.length < a.length := (List.getElem?_eq_some_iff.mp hi).1
      exact ⟨i - b.length, by rw [List.getElem?_append_left hj]; exact hi, Or.inr ⟨by omega, rfl, hj⟩⟩
  refine ⟨fun i j p q hi hj e => ?_, fun i q hi => ?_⟩
  · obtain ⟨i', hi', ci⟩ := key i p hi
    obtain ⟨j', hj', cj⟩ := key j q hj
    have := h.1 i' j' p q hi' hj' e
    omega
  · obtain ⟨i', hi', -⟩ := key i q hi
    exact h.2 i' q hi'
theorem P_swap {D : va_G} {cl : List vw_C} {H : Heap} {a b : va_W} (h : va_P D cl (a ++ b) H) : va_P D cl (b ++ a) H := by
  intro i p hi
  by_cases hb : i < b.length
  · rw [List.getElem?_append_left hb] at hi
    exact h (a.length + i) p (by rw [List.getElem?_append_right (by omega), Nat.add_sub_cancel_left]; exact hi)
  · rw [List.getElem?_append_right (by omega)] at hi
    have hj : i - b.length < a.length := (List.getElem?_eq_some_iff.mp hi).1
    exact h (i - b.length) p (by rw [List.getElem?_append_left hj]; exact hi)
theorem L_swap {a b : va_W} (kk : Lj X nL pc lv rest (b ++ a) k n) : Lj X nL pc lv rest (a ++ b) k n := fun H locs ls hP hD hS hl => kk H locs ls (P_swap hP) (D_swap hD) hS hl
/-- so many distinct places in so large a heap -/
theorem pigeon : ∀ (m : Nat) (l : List Nat), l.Nodup → (∀ x ∈ l, x < m) → l.length ≤ m := by
  intro m
  induction m with
  | zero => intro l _ h; cases l with
    | nil => exact Nat.le_refl _
    | cons a t => exact absurd (h a List.mem_cons_self) (Nat.not_lt_zero _)
  | succ m ih =>
    intro l hn h
    by_cases hm : m ∈ l
    · have h1 := List.length_erase_of_mem hm
      have h2 := ih (l.erase m) (hn.erase m) (fun x hx => by
        have h3 := (hn.mem_erase_iff).mp hx
        have := h x h3.2
        omega)
      have : 0 < l.length := List.length_pos_of_mem hm
      omega
    · exact Nat.le_succ_of_le (ih l hn (fun x hx => by
        have := h x hx
        have : x ≠ m := fun e => hm (e ▸ hx)
        omega))
theorem P_count {D : va_G} {A : Nat → Prop} {H : Heap} {a b : va_W} (hP : va_P D vwCl (a ++ b) H) (hD : va_D A (a ++ b)) : b.length ≤ H.size := by
  have h := pigeon H.size (b.map (fun q => q.1)) (by
    refine List.pairwise_iff_getElem.mpr (fun i j hi hj hij e => ?_)
    rw [List.length_map] at hi hj
    rw [List.getElem_map, List.getElem_map] at e
    have := hD.1 (a.length + i) (a.length + j) _ _ (by rw [List.getElem?_append_right (by omega), Nat.add_sub_cancel_left]; exact List.getElem?_eq_getElem hi) (by rw [List.getElem?_append_right (by omega), Nat.add_sub_cancel_left]; exact List.getElem?_eq_getElem hj) e
    omega) (fun x hx => by
    obtain ⟨q, hq, rfl⟩ := List.mem_map.mp hx
    obtain ⟨j, hj⟩ := List.mem_iff_getElem?.mp hq
    exact (hP (a.length + j) q (by rw [List.getElem?_append_right (by omega), Nat.add_sub_cancel_left]; exact hj)).lt)
  rwa [List.length_map] at h
theorem map_range'_get (a b : va_W) : (List.range' a.length b.length).map (fun i => (a ++ b)[i]?) = b.map some := by
  apply List.ext_getElem?
  intro i
  by_cases hi : i < b.length
  · simp [hi, List.getElem?_append_right]
  · simp [hi]
/-- a call upon one of the worlds that lie side by side -/
theorem L_world {lay : LyT} {qs : List Nat} {S : (Nat → Prop) → State → Heap → Prop} {wr : va_W} {σ : St} {τ : Nat → St} {r : Option Value} {mc ms : Nat → Nat} {a : Array Value} (hX : gL X cc nL own) (hcl : Clo S) (hSx : ∀ (Reg : Nat → Prop) (H : Heap) (locs : List Loc), va_S (wReg (xw X)) (xs X).heap H locs → (∀ q, Reg q → wReg (xw X) q) → S Reg (xs X) H)
    (hrun : ∀ (Reg : Nat → Prop) (H : Heap) (locs : List Loc) (ls : Array Slot), (wal (wX (wD (xw X)) (wcT (xw X)) (wadW (xw X)) (wSt2 (xw X)) lay qs S (fun _ => True) 0) σ).length ≤ H.size → Hw (wX (wD (xw X)) (wcT (xw X)) (wadW (xw X)) (wSt2 (xw X)) lay qs S Reg H.size) σ H → (∀ U : State, U.heap = H → (xs X).WarmedH U.vm → Wd (wX (wD (xw X)) (wcT (xw X)) (wadW (xw X)) (wSt2 (xw X)) lay qs S Reg H.size) σ U) → lv_has ls nL lv →
      va_Run (xp X) (xl X) (xe X) (xR X) (xs X) (xm X) (xa X) (xb X) (xme X) (xc X) H locs k n (mc H.size) (ms H.size) (F0 (xm X) pc ls st0) rest (QcW (wX (wD (xw X)) (wcT (xw X)) (wadW (xw X)) (wSt2 (xw X)) lay qs S Reg H.size) r (τ H.size) (mc H.size) false a) Reg)
    (kk : ∀ z : Nat, Lj X nL (pc + 3) lv (r.toList ++ rest) (wr ++ wal (wX (wD (xw X)) (wcT (xw X)) (wadW (xw X)) (wSt2 (xw X)) lay qs S (fun _ => True) 0) (τ z)) (k + mc z) (n + ms z)) : Lj X nL pc lv st0 (wr ++ wal (wX (wD (xw X)) (wcT (xw X)) (wadW (xw X)) (wSt2 (xw X)) lay qs S (fun _ => True) 0) σ) k n := by
  intro H locs ls hP hD hS hl T hT XX
  generalize hwc : wal (wX (wD (xw X)) (wcT (xw X)) (wadW (xw X)) (wSt2 (xw X)) lay qs S (fun _ => True) 0) σ = wc at hP hD hrun
  have hK := hX.2.2.2.2.2.1
  have hA := hX.2.2.2.2.2.2.1
  have hC := map_range'_get wr wc
  have hFc := va_free (wc := wc) hD hS hA (List.range' wr.length wc.length) hC
  have hPc : va_P (wD (xw X)) vwCl wc H := fun j z hz => hP (wr.length + j) z (by rw [List.getElem?_append_right (by omega), Nat.add_sub_cancel_left]; exact hz)
  have hDc : va_D (fun _ => True) wc := ⟨fun i j p q hi hj e => by
    have := hD.1 (wr.length + i) (wr.length + j) p q (by rw [List.getElem?_append_right (by omega), Nat.add_sub_cancel_left]; exact hi) (by rw [List.getElem?_append_right (by omega), Nat.add_sub_cancel_left]; exact hj) e
    omega, fun _ _ _ => trivial⟩
  have hok : Wok (wX (wD (xw X)) (wcT (xw X)) (wadW (xw X)) (wSt2 (xw X)) lay qs S (va_A wc H.size) H.size) := ⟨fun q hq => Or.inr hq, fun u U H0 H1 => hcl _ u U H0 H1⟩
  have hHw : Hw (wX (wD (xw X)) (wcT (xw X)) (wadW (xw X)) (wSt2 (xw X)) lay qs S (va_A wc H.size) H.size) σ H := by
    refine ⟨?_, ?_⟩
    · show va_P (wD (xw X)) vwCl (wal (wX (wD (xw X)) (wcT (xw X)) (wadW (xw X)) (wSt2 (xw X)) lay qs S (fun _ => True) 0) σ) H
      rw [hwc]; exact hPc
    · show va_D (va_A wc H.size) (wal (wX (wD (xw X)) (wcT (xw X)) (wadW (xw X)) (wSt2 (xw X)) lay qs S (fun _ => True) 0) σ)
      rw [hwc]; exact hDc.self
  obtain ⟨v, st₀, t, T', L, h0, X', hL, e1, e2, ⟨hv, hWd, ⟨hz, hkp⟩, -⟩, st⟩ := hrun (va_A wc H.size) H locs ls (P_count hP hD) hHw (fun U hU hWm => ⟨hok, va_K.moved hWm.alike hK, hcl _ (xs X) U H U.heap hWm (by rw [hU]; exact Nat.le_refl _) (fun q _ _ => by rw [hU]) (hSx _ H locs hS hFc), by rw [hU]; exact Nat.le_refl _, by rw [hU]; exact hHw⟩) hl T hT XX
  cases hv
  rw [h0] at hz hkp
  obtain ⟨hP2, hD2⟩ := va_join (wc := wc) (wr := wr) hP hD (List.range' wr.length wc.length) (List.range wr.length) hC (map_range_get wr _) (nd_range _) (fun i hi h9 => by
    have h1 := List.mem_range.mp hi
    have h2 := List.mem_range'_1.mp h9
    omega) (H1 := T'.heap) (fun q h1 h2 => by rw [e1]; exact hkp q h1 h2) hFc (by rw [e1]; exact hWd.2.2.2.2.1) hWd.2.2.2.2.2
  have hS1 : va_S (wReg (xw X)) (xs X).heap T'.heap (locs ++ L) :=
    ⟨Nat.le_trans hS.1 (by rw [e1]; exact hz), fun q h1 h2 => by rw [e1, hkp q (Nat.lt_of_lt_of_le h1 hS.1) (fun z => h2 (hFc q z))]; exact hS.2.1 q h1 h2, fun q hq => by
      rcases List.mem_append.mp hq with h | h
      · exact hS.2.2 q h
      · exact hFc _ (hL q h)⟩
  obtain ⟨t2, a1, b1⟩ := kk H.size T'.heap (locs ++ L) ls hP2 hD2 hS1 hl T' rfl X'
  exact ⟨t2, st t2 a1, b1⟩
theorem Qc_weak {w : WT} {r : Option Value} {τ : St} {mc : Nat} {x : Bool} {a : Array Value} {p : Program} {l : Launch} {e : Env} {R : Room} {s : State} {m : MethodId} {args : Array Value} {below : List Frame} {meth : Method} {c : Code} {H : Heap} {locs : List Loc} {cells slots mcc mss : Nat} {g : JFrame} {free : Addr → Prop}
    (h : va_Run p l e R s m args below meth c H locs cells slots mcc mss g rest (QcW w r τ mc x a) free) : va_Run p l e R s m args below meth c H locs cells slots mcc mss g rest (QcW w r τ mc false a) free := by
  intro T hT X
  obtain ⟨v, st₀, t, T', L, h0, X', hL, e1, e2, ⟨hv, hWd, hF, -⟩, st⟩ := h T hT X
  exact ⟨v, st₀, t, T', L, h0, X', hL, e1, e2, ⟨hv, hWd, hF, fun h => nomatch h⟩, st⟩
/-- a virtual call, nothing made -/
theorem L_callP {lay : LyT} {qs : List Nat} {S : (Nat → Prop) → State → Heap → Prop} {wr : va_W} {y : MethodName} {bytes : ByteArray} {maxL f lo idx na i ci N : Nat} {fk : Nat → Nat × Nat} {T : u_T} {ty : Nat → FieldType} {rt : Option FieldType} {σ τ : St} {r : Option Value} (As : List Value) (hX : gL X cc nL own) (hcl : Clo S) (hSx : ∀ (Reg : Nat → Prop) (H : Heap) (locs : List Loc), va_S (wReg (xw X)) (xs X).heap H locs → (∀ q, Reg q → wReg (xw X) q) → S Reg (xs X) H)
    (hC : ∀ Reg B, Ct y bytes maxL rt f lo (wX (wD (xw X)) (wcT (xw X)) (wadW (xw X)) (wSt2 (xw X)) lay qs S Reg B) (.ref (qs.getD i 0) :: As) σ r τ 0 0)
    (hlk : lkV own idx y bytes maxL rt) (hy : mdOK y na) (hq : ∀ Reg B, isC (wX (wD (xw X)) (wcT (xw X)) (wadW (xw X)) (wSt2 (xw X)) lay qs S Reg B) i (.inr (ci, N, fk))) (hc : clsOK ci y.cls T N ty)
    (hR : f + 1 ≤ (xR X).frames ∧ 8 + (maxL + 11) + lo ≤ (xR X).locals) (hR2 : k ≤ (xR X).cells ∧ n ≤ (xR X).slots) (hn : As.length = na) (hst : st0 = As.reverse ++ .ref (qs.getD i 0) :: rest) (hW : (rest.map fun v => v.category).sum ≤ 8) (hd : decode cc pc = .ok (.invokevirtual idx, 3))
    (kk : Lj X nL (pc + 3) lv (r.toList ++ rest) (wr ++ wal (wX (wD (xw X)) (wcT (xw X)) (wadW (xw X)) (wSt2 (xw X)) lay qs S (fun _ => True) 0) τ) k n) : Lj X nL pc lv st0 (wr ++ wal (wX (wD (xw X)) (wcT (xw X)) (wadW (xw X)) (wSt2 (xw X)) lay qs S (fun _ => True) 0) σ) k n := by
  subst hst
  refine L_world (τ := fun _ => τ) (mc := fun _ => 0) (ms := fun _ => 0) (a := (.ref (qs.getD i 0) :: As : List Value).toArray) hX hcl hSx (fun Reg H locs ls _ hHw hWd hl => ?_) (fun _ => kk)
  have hX' := hX
  obtain ⟨hx, hb, hml, ho, hu, hK, -⟩ := hX'
  have hq1 := hq Reg H.size
  have he := wal_get (w := wX (wD (xw X)) (wcT (xw X)) (wadW (xw X)) (wSt2 (xw X)) lay qs S Reg H.size) σ hq1.1
  rw [cel_obj hq1.2] at he
  exact Qc_weak (va_runV (As := As) (rest := rest) ⟨hx, hb, hml, ho, hu⟩ (hC Reg H.size (xl X)) (cwV na hu (goodIn_U0 hlk) rfl rfl rfl ⟨rfl, hy⟩ hR) ⟨Wd_blind, va_recv hK hHw.1 (ci := ci) (q0 := i) hc.1 he, fun U hU hWm => ⟨rfl, hWd U hU hWm⟩⟩ rfl hn hl.1 rfl (lv_room hW) hd hR2)
/-- a virtual call that makes rows of laws -/
theorem L_callA {lay : LyT} {qs : List Nat} {S : (Nat → Prop) → State → Heap → Prop} {wr : va_W} {y : MethodName} {bytes : ByteArray} {maxL f lo idx na i ci N : Nat} {fk : Nat → Nat × Nat} {T : u_T} {ty : Nat → FieldType} {rt : Option FieldType} {σ : St} {τ : Nat → St} {mc ms : Nat → Nat} {r : Option Value} {x : Bool} (As : List Value) (hX : gL X cc nL own) (hcl : Clo S) (hSx : ∀ (Reg : Nat → Prop) (H : Heap) (locs : List Loc), va_S (wReg (xw X)) (xs X).heap H locs → (∀ q, Reg q → wReg (xw X) q) → S Reg (xs X) H)
    (hC : ∀ Reg B z, Kn σ ≤ z → CtA y bytes maxL rt f lo (wX (wD (xw X)) (wcT (xw X)) (wadW (xw X)) (wSt2 (xw X)) lay qs S Reg B) (.ref (qs.getD i 0) :: As) σ z r (τ z) (mc z) (ms z) x)
    (hlk : lkV own idx y bytes maxL rt) (hy : mdOK y na) (hq : ∀ Reg B, isC (wX (wD (xw X)) (wcT (xw X)) (wadW (xw X)) (wSt2 (xw X)) lay qs S Reg B) i (.inr (ci, N, fk))) (hc : clsOK ci y.cls T N ty)
    (hR : f + 1 ≤ (xR X).frames ∧ 8 + (maxL + 11) + lo ≤ (xR X).locals) (hR2 : ∀ z, k + mc z ≤ (xR X).cells ∧ n + ms z ≤ (xR X).slots) (hn : As.length = na) (hst : st0 = As.reverse ++ .ref (qs.getD i 0) :: rest) (hW : (rest.map fun v => v.category).sum ≤ 8) (hd : decode cc pc = .ok (.invokevirtual idx, 3))
    (kk : ∀ z, Lj X nL (pc + 3) lv (r.toList ++ rest) (wr ++ wal (wX (wD (xw X)) (wcT (xw X)) (wadW (xw X)) (wSt2 (xw X)) lay qs S (fun _ => True) 0) (τ z)) (k + mc z) (n + ms z)) : Lj X nL pc lv st0 (wr ++ wal (wX (wD (xw X)) (wcT (xw X)) (wadW (xw X)) (wSt2 (xw X)) lay qs S (fun _ => True) 0) σ) k n := by
  subst hst
  refine L_world (τ := τ) (mc := mc) (ms := ms) (a := (.ref (qs.getD i 0) :: As : List Value).toArray) hX hcl hSx (fun Reg H locs ls hlen hHw hWd hl => ?_) kk
  have hX' := hX
  obtain ⟨hx, hb, hml, ho, hu, hK, -⟩ := hX'
  have hq1 := hq Reg H.size
  have he := wal_get (w := wX (wD (xw X)) (wcT (xw X)) (wadW (xw X)) (wSt2 (xw X)) lay qs S Reg H.size) σ hq1.1
  rw [cel_obj hq1.2] at he
  have hKn : Kn σ ≤ H.size := by
    refine Nat.le_trans ?_ hlen
    unfold wal wdy Kn
    rw [List.length_append, List.length_map]
    exact Nat.le_add_left _ _
  exact Qc_weak (va_runV (As := As) (rest := rest) ⟨hx, hb, hml, ho, hu⟩ (hC Reg H.size H.size hKn (xl X)) (cwV na hu (goodIn_U0 hlk) rfl rfl rfl ⟨rfl, hy⟩ hR) ⟨WdA_blind, va_recv hK hHw.1 (ci := ci) (q0 := i) hc.1 he, fun U hU hWm => ⟨rfl, hWd U hU hWm, by rw [hU]⟩⟩ rfl hn hl.1 rfl (lv_room hW) hd (hR2 _))
/-- the law's own static methods, with handlers -/
theorem L_callSW {lay : LyT} {qs : List Nat} {S : (Nat → Prop) → State → Heap → Prop} {wr : va_W} {y : MethodName} {bytes : ByteArray} {maxL f lo idx na : Nat} {hh : List (Nat × Nat × Nat × Nat)} {rt : Option FieldType} {σ τ : St} {r : Option Value} (As : List Value) (hX : gL X cc nL own) (hl0 : (xl X).stackTraces = false) (hcl : Clo S) (hSx : ∀ (Reg : Nat → Prop) (H : Heap) (locs : List Loc), va_S (wReg (xw X)) (xs X).heap H locs → (∀ q, Reg q → wReg (xw X) q) → S Reg (xs X) H)
    (hC : ∀ Reg B, CtW y bytes maxL rt hh f lo (wX (wD (xw X)) (wcT (xw X)) (wadW (xw X)) (wSt2 (xw X)) lay qs S Reg B) As σ r τ)
    (hlk : ∀ w ∈ va_wsS own idx y (.codeWith y bytes maxL rt hh :: U0), w ∈ U0) (hy : mdOK y na)
    (hR : f + 1 ≤ (xR X).frames ∧ 8 + (maxL + 11) + lo ≤ (xR X).locals) (hR2 : k + 1 ≤ (xR X).cells ∧ n + 6 ≤ (xR X).slots) (hn : As.length = na) (hst : st0 = As.reverse ++ rest) (hW : (rest.map fun v => v.category).sum ≤ 8) (hd : decode cc pc = .ok (.invokestatic idx, 3))
    (kk : Lj X nL (pc + 3) lv (r.toList ++ rest) (wr ++ wal (wX (wD (xw X)) (wcT (xw X)) (wadW (xw X)) (wSt2 (xw X)) lay qs S (fun _ => True) 0) τ) (k + 1) (n + 6)) : Lj X nL pc lv st0 (wr ++ wal (wX (wD (xw X)) (wcT (xw X)) (wadW (xw X)) (wSt2 (xw X)) lay qs S (fun _ => True) 0) σ) k n := by
  subst hst
  refine L_world (τ := fun _ => τ) (mc := fun _ => 1) (ms := fun _ => 6) (a := As.toArray) hX hcl hSx (fun Reg H locs ls _ hHw hWd hl => ?_) (fun _ => kk)
  have hX' := hX
  obtain ⟨hx, hb, hml, ho, hu, hK, -⟩ := hX'
  exact vx_runSW (As := As) (rest := rest) ⟨hx, hb, hml, ho, hu⟩ (hC Reg H.size (xl X) hl0) (vx_cwSW na hu (goodIn_U0 hlk) rfl rfl rfl hy hR) ⟨Wd_blind, fun U hU hWm => ⟨rfl, hWd U hU hWm⟩⟩ rfl hn hl.1 rfl (lv_room hW) hd hR2
end LW2
